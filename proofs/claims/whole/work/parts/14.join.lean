/-! join -/
theorem jn_h {c : Nat} {kd pa sz it : Nat → Nat} (T : tr_T c kd pa sz it) {t s : Nat} (ht : t < c) (hs : s < c) (kt : kd t = 1) (ks : kd s = 1) (ne : t ≠ s) (hm : sz t + sz s ≤ 12) :
    (∀ n, n < c → kd n = 0 → st_u (st_u sz t (sz t + sz s)) s 0 n = sz n ∧ ∀ i, i < 24 → cp_i it (24 * s) (24 * t + sz t) (sz s) (24 * n + i) = it (24 * n + i)) ∧
    (∀ n, n < c → kd n = 1 → st_u (st_u sz t (sz t + sz s)) s 0 n ≤ 12 ∧ ∀ i, i < st_u (st_u sz t (sz t + sz s)) s 0 n → cp_i it (24 * s) (24 * t + sz t) (sz s) (24 * n + i) ≤ 9) := by
  have tt := T.2.2.1 t ht kt
  have ts := T.2.2.1 s hs ks
  have oth : ∀ n i, n ≠ t → i < 24 → cp_i it (24 * s) (24 * t + sz t) (sz s) (24 * n + i) = it (24 * n + i) := by
    intro n i e hi
    unfold cp_i
    exact if_neg (by omega)
  refine ⟨fun n hn kn => ?_, fun n hn kn => ?_⟩
  · have e1 : n ≠ t := by rintro rfl; omega
    have e2 : n ≠ s := by rintro rfl; omega
    exact ⟨by rw [st_un e2, st_un e1], fun i hi => oth n i e1 hi⟩
  · by_cases e2 : n = s
    · subst e2
      rw [st_us]
      exact ⟨by omega, fun i hi => by omega⟩
    · rw [st_un e2]
      by_cases e1 : n = t
      · subst e1
        rw [st_us]
        refine ⟨hm, fun i hi => ?_⟩
        by_cases l : i < sz n
        · have : cp_i it (24 * s) (24 * n + sz n) (sz s) (24 * n + i) = it (24 * n + i) := by
            unfold cp_i; exact if_neg (by omega)
          rw [this]
          exact tt.2 i l
        · unfold cp_i
          rw [if_pos (by omega), show 24 * s + (24 * n + i - (24 * n + sz n)) = 24 * s + (i - sz n) by omega]
          exact ts.2 _ (by omega)
      · rw [st_un e1]
        have := T.2.2.1 n hn kn
        refine ⟨this.1, fun i hi => ?_⟩
        rw [oth n i e1 (by omega)]
        exact this.2 i hi
def jn_1 (t m s v q : Nat) : Nat × Nat := if v = s ∧ 0 ≤ q then (t, q + m) else (v, q)
def jn_2 (p i t m v q : Nat) : Nat × Nat := if v = p ∧ i + 1 ≤ q ∧ q ≤ i + 1 then (t, m) else (v, q)
theorem jn_12 {p i t m s : Nat} (npt : p ≠ t) (v q : Nat) : jn_2 p i t m (jn_1 t m s v q).1 (jn_1 t m s v q).2 = pl_jn p i t m s v q := by
  unfold pl_jn
  by_cases h : v = s
  · have e : jn_1 t m s v q = (t, q + m) := by unfold jn_1; exact if_pos ⟨h, by omega⟩
    rw [e, if_pos h]
    unfold jn_2
    rw [if_neg (fun z => npt z.1.symm)]
    dsimp only
    rw [Nat.add_comm]
  · have e : jn_1 t m s v q = (v, q) := by unfold jn_1; exact if_neg (fun z => h z.1)
    rw [e, if_neg h]
    unfold jn_2
    by_cases h2 : v = p ∧ q = i + 1
    · rw [if_pos h2, if_pos (by omega)]
    · rw [if_neg h2, if_neg (by omega)]
theorem jn_P {c : Nat} {kd pa sz it pn po : Nat → Nat} (T : tr_T c kd pa sz it) (P : pl_P c kd pa sz it pn po) {p i t s : Nat} (ht : t < c) (hs : s < c) (kt : kd t = 1) (ks : kd s = 1) (ne : t ≠ s) (hm : sz t + sz s ≤ 12)
    (hp : p < c) (kp : kd p = 0) (hi : i + 1 < sz p) (et : it (24 * p + i) = t) (ef : it (24 * p + (i + 1)) = s) :
    tr_T c kd pa (st_u (st_u sz t (sz t + sz s)) s 0) (cp_i it (24 * s) (24 * t + sz t) (sz s)) ∧ pl_P c kd pa (st_u (st_u sz t (sz t + sz s)) s 0) (cp_i it (24 * s) (24 * t + sz t) (sz s)) (mp_n (pl_jn p i t (sz t) s) pn po) (mp_o (pl_jn p i t (sz t) s) pn po) := by
  obtain ⟨h0, h1⟩ := jn_h T ht hs kt ks ne hm
  have npt : p ≠ t := by rintro rfl; omega
  have npf : p ≠ s := by rintro rfl; omega
  refine ⟨tr_Ttx T h0 h1, pl_map _ (pl_ok c sz) P P.1 ?_ ?_⟩
  · intro v q h
    have := h.2
    unfold pl_jn
    split
    · rename_i z
      subst z
      exact ⟨ht, by rw [st_un ne, st_us]; dsimp only; omega⟩
    · split
      · exact ⟨ht, by rw [st_un ne, st_us]; dsimp only; omega⟩
      · rename_i z _
        refine ⟨h.1, ?_⟩
        dsimp only
        rw [st_un z]
        by_cases e1 : v = t
        · subst e1; rw [st_us]; omega
        · rw [st_un e1]; exact h.2
  · intro v q v' q' h h' R
    exact pl_Rjn T h0 hp kp hi et ef kt ks h h' R
theorem i_vc_join {k : Nat} {u : SX} {v : SY} (I : i_Rel k u v) (hk : k + 5 ≤ 2560) (v1 : Int32) : wpX_join (fun r u' => wpY_join (fun r' v' => r' = r ∧ i_Rel (k + 5) u' v') v v1) u v1 := by
  have J := i_up I
  obtain ⟨c, kd, pa, sz, it, pn, po, sg, eg, rl, rn, oa, ca, il, dm, ln, mk, os, cs, cm, rfl, rfl, T, P⟩ := I
  have c24 := tr_c24 T
  unfold wpX_join
  dsimp only
  rcases nd_cases c v1 with ⟨t, ht, rfl⟩ | h
  · have hti : vp_in (nI t) 24 := vp_in_nI (by omega) (by omega)
    have s24 := tr_s24 T ht
    rcases tr_k1 T ht with kt | kt
    · refine xx_isOfKind_k (k := 1) c24 ht (by omega) (by omega) (by omega) (br_t rfl ?_)
      unfold wpY_join
      dsimp only
      exact yy_isTextNode_k c24 ht kt (br_t rfl ⟨rfl, J⟩)
    · refine xx_isOfKind_t (k := 1) c24 ht kt (br_f (by decide) ?_)
      cases e : pa t with
      | zero =>
        refine xx_nextChild_0 (by omega) e (br_t rfl ?_)
        unfold wpY_join
        dsimp only
        exact yy_isTextNode_t c24 ht kt (br_f (by decide) (in_c hti (nm_r ((ar_pc _ (by omega)).trans (by rw [e])) (br_f (by decide) (br_t (by decide) ⟨rfl, J⟩)))))
      | succ p =>
        obtain ⟨hp, kp, i, hi, he⟩ := tr_pe T ht e
        have sp24 := tr_s24 T hp
        have hpi : vp_in (nI p) 24 := vp_in_nI (by omega) (by omega)
        have YW : ∀ (post : Int32 → SY → Prop), wY_join_32 post (nI t) (nI p) (nI (i + 1)) (nI c) ln (ar_n kd) (ar_p pa) (ar_n sz) (ar_n it) (ar_n pn) (ar_n po) mk os cs cm → wpY_join post (nI c, ln, ar_n kd, ar_p pa, ar_n sz, ar_n it, ar_n pn, ar_n po, mk, os, cs, cm) (nI t) := by
          intro post h
          unfold wpY_join
          dsimp only
          refine yy_isTextNode_t c24 ht kt (br_f (by decide) (in_c hti (nm_r ((ar_pc _ (by omega)).trans (by rw [e, nI_pred])) (br_t (nI_pos' (by omega)) (yy_indexOf T ht e hi he ?_)))))
          rw [nI_1]
          exact h
        refine xx_nextChild T ht e hi he (fun l => ?_) (fun l => br_t rfl (YW _ (br_f (nI_pos (by omega)) (in_c hpi (br_t (by rw [ar_nc _ (by omega), nI_leI (by omega) (by omega)]; exact l) ⟨rfl, J⟩)))))
        have cs' := tr_ch T hp kp l
        generalize es : it (24 * p + (i + 1)) = s at cs'
        obtain ⟨hs, ps⟩ := cs'
        have hsi : vp_in (nI s) 24 := vp_in_nI (by omega) (by omega)
        have ss24 := tr_s24 T hs
        have ne : t ≠ s := by
          intro q
          have := tr_in T hp kp (i := i) (j := i + 1) hi l (by rw [he, es, q])
          omega
        have y1 : ¬ ar_n sz (nI p).toNatClampNeg ≤ nI (i + 1) := by rw [ar_nc _ (by omega), nI_leI (by omega) (by omega)]; omega
        have y2 : ar_n it (24 * nI p + nI (i + 1)).toNatClampNeg = nI s := by rw [ix_y, ar_nc _ (by omega), es]
        have y3 : vp_in (24 * nI p + nI (i + 1)) 576 := by rw [ix_y]; exact vp_in_nI (by omega) (by omega)
        refine br_f ?_ (in_c hsi ?_)
        · intro z
          have := nI_pos (n := s) (by omega)
          rw [z] at this
          exact this (by decide)
        · rw [ar_nc _ (by omega)]
          rcases tr_k1 T hs with ks | ks
          · rw [ks]
            refine br_f (by decide) (YW _ (br_f (nI_pos (by omega)) (in_c hpi (br_f y1 (in_c y3 ?_)))))
            rw [y2]
            exact in_c hsi (br_t (by rw [ar_nc _ (by omega), ks]; rfl) ⟨rfl, J⟩)
          · rw [ks]
            refine br_t rfl (in_c hti (nm_r (ar_nc _ (by omega)) (in_c hsi ?_)))
            rw [ar_nc _ (by omega), nI_add]
            have YV : ∀ (post : Int32 → SY → Prop), (sz t + sz s ≤ 12 → wpY_movePlaces (fun u => match u with | (f_count_44, f_length_45, a_isText_46, a_parents_47, a_sizes_48, a_items_49, a_placeNode_50, a_placeOffset_51, a_marks_52, a_opens_53, a_closes_54, a_coming_55) => (wpY_movePlaces (fun u => match u with | (f_count_57, f_length_58, a_isText_59, a_parents_60, a_sizes_61, a_items_62, a_placeNode_63, a_placeOffset_64, a_marks_65, a_opens_66, a_closes_67, a_coming_68) => (∃ n135 : Nat, wY_join_135 post (nI t) (nI s) (nI (sz t)) f_count_57 f_length_58 n135 0 a_isText_59 a_parents_60 a_sizes_61 a_items_62 a_placeNode_63 a_placeOffset_64 a_marks_65 a_opens_66 a_closes_67 a_coming_68)) (f_count_44, f_length_45, a_isText_46, a_parents_47, a_sizes_48, a_items_49, a_placeNode_50, a_placeOffset_51, a_marks_52, a_opens_53, a_closes_54, a_coming_55) (nI p) (nI (i + 1)) (nI (i + 1)) (nI t) (nI (sz t) - nI (i + 1)))) (nI c, ln, ar_n kd, ar_p pa, ar_n sz, ar_n it, ar_n pn, ar_n po, mk, os, cs, cm) (nI s) 0 12 (nI t) (nI (sz t))) → (¬ sz t + sz s ≤ 12 → post (-3) (nI c, ln, ar_n kd, ar_p pa, ar_n sz, ar_n it, ar_n pn, ar_n po, mk, os, cs, cm)) → wpY_join post (nI c, ln, ar_n kd, ar_p pa, ar_n sz, ar_n it, ar_n pn, ar_n po, mk, os, cs, cm) (nI t) := by
              intro post h1 h2
              refine YW _ (br_f (nI_pos (by omega)) (in_c hpi (br_f y1 (in_c y3 ?_))))
              rw [y2]
              refine in_c hsi (br_f (by rw [ar_nc _ (by omega), ks]; decide) (in_c y3 (nm_e (in_c hti (nm_r (ar_nc _ (by omega)) (in_c hsi ?_))))))
              rw [ar_nc _ (by omega), nI_add]
              exact cb_i (nI_leI (b := 12) (by omega) (by omega)) h1 h2
            refine cb_i (nI_leI (b := 12) (by omega) (by omega)) (fun hm => ?_) (fun hm => YV _ (fun z => absurd z hm) (fun _ => ⟨rfl, J⟩))
            have npt : p ≠ t := by rintro rfl; omega
            have nps : p ≠ s := by rintro rfl; omega
            have b8 := pl_sm8 T P.1
            obtain ⟨TF, PF⟩ := jn_P T P ht hs kt ks ne hm hp kp l he es
            have h0 := (jn_h T ht hs kt ks ne hm).1 p hp kp
            have b1 : ∀ j, j < 8 → mp_n (jn_1 t (sz t) s) pn po j < 24 ∧ mp_o (jn_1 t (sz t) s) pn po j < 25 := by
              intro j hj
              have := b8 j hj
              have val := (P.1 j hj).2
              rw [mp_n1 hj, mp_o1 hj]
              unfold jn_1
              split
              · rename_i z; rw [z.1] at val; dsimp only; omega
              · exact this
            have ab := fun (j : Nat) (_ : j < 8) => jn_12 (i := i) (m := sz t) (s := s) npt (pn j) (po j)
            refine xx_indexOf T hs ps l es (xx_slidePlaces (lo := 0) (jn_1 t (sz t) s) b8 (by omega) (by omega) ?_ (in_c hti ?_))
            · intro j hj
              refine ⟨fun q => ?_, fun q => ?_⟩
              · unfold jn_1; rw [if_pos q]; exact ⟨rfl, (nI_add _ _).symm⟩
              · unfold jn_1; rw [if_neg q]
            · dsimp only
              rw [show ar_p pa (nI t).toNatClampNeg = nI p by rw [ar_pc _ (by omega), e, nI_pred]]
              refine xx_gatherPlaces (jn_2 p i t (sz t)) b1 (by omega) (by omega) (by omega) ?_ ?_
              · intro j hj
                refine ⟨fun q => ?_, fun q => ?_⟩
                · unfold jn_2; rw [if_pos q]; exact ⟨rfl, rfl⟩
                · unfold jn_2; rw [if_neg q]
              · rw [mp_nn (jn_1 t (sz t) s) (jn_2 p i t (sz t)), mp_oo (jn_1 t (sz t) s) (jn_2 p i t (sz t)), mp_nc (F := fun v q => jn_2 p i t (sz t) (jn_1 t (sz t) s v q).1 (jn_1 t (sz t) s v q).2) (G := pl_jn p i t (sz t) s) ab, mp_oc (F := fun v q => jn_2 p i t (sz t) (jn_1 t (sz t) s v q).1 (jn_1 t (sz t) s v q).2) (G := pl_jn p i t (sz t) s) ab]
                have hz : i + 1 < st_u (st_u sz t (sz t + sz s)) s 0 p := by rw [h0.1]; exact l
                have hes : cp_i it (24 * s) (24 * t + sz t) (sz s) (24 * p + (i + 1)) = s := by rw [h0.2 _ (by omega)]; exact es
                refine xx_handLetters (o := 0) (by omega) (by omega) (Ne.symm ne) (by omega) (by omega) (by omega) ?_
                refine xx_takeOut TF PF.1 hs ps hz hes ?_
                refine YV _ (fun _ => ?_) (fun z => absurd hm z)
                refine yy_movePlaces (lo := 0) (hi := 12) (jn_1 t (sz t) s) b8 (by omega) (by omega) (by omega) ?_ ?_
                · intro j hj
                  have ts := (T.2.2.1 s hs ks).1
                  have val := (P.1 j hj).2
                  refine ⟨fun q => ?_, fun q => ?_⟩
                  · unfold jn_1; rw [if_pos ⟨q.1, by omega⟩]; exact ⟨rfl, (nI_add _ _).symm⟩
                  · unfold jn_1
                    rw [if_neg]
                    intro w
                    rw [w.1] at val
                    exact q ⟨w.1, by omega, by omega⟩
                · refine yy_movePlaces (jn_2 p i t (sz t)) b1 (by omega) (by omega) (by omega) ?_ ?_
                  · intro j hj
                    refine ⟨fun q => ?_, fun q => ?_⟩
                    · unfold jn_2
                      rw [if_pos q]
                      refine ⟨rfl, ?_⟩
                      rw [show mp_o (jn_1 t (sz t) s) pn po j = i + 1 by omega, ← nj_sb (k := sz t) (c := i + 1) (by omega) (by omega) (i + 1) (by omega)]
                      congr 1
                      omega
                    · unfold jn_2; rw [if_neg q]
                  · rw [mp_nn (jn_1 t (sz t) s) (jn_2 p i t (sz t)), mp_oo (jn_1 t (sz t) s) (jn_2 p i t (sz t)), mp_nc (F := fun v q => jn_2 p i t (sz t) (jn_1 t (sz t) s v q).1 (jn_1 t (sz t) s v q).2) (G := pl_jn p i t (sz t) s) ab, mp_oc (F := fun v q => jn_2 p i t (sz t) (jn_1 t (sz t) s v q).1 (jn_1 t (sz t) s v q).2) (G := pl_jn p i t (sz t) s) ab]
                    refine yy_join135 (by omega) (by omega) (Ne.symm ne) (by omega) ?_
                    refine yy_takeOut TF PF.1 hs ps hz hes ?_
                    exact ⟨rfl, rel_mk (tr_Ttake TF hs ps hz hes) (pl_Ptk TF hs ps hz hes PF)⟩
  · refine xx_isOfKind_f c24 h (br_t rfl ?_)
    unfold wpY_join
    dsimp only
    exact yy_isTextNode_f c24 h (br_t rfl ⟨rfl, J⟩)
