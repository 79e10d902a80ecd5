/-! split -/
theorem sp_h {c : Nat} {kd pa sz it : Nat → Nat} (T : tr_T c kd pa sz it) {t f o : Nat} (ht : t < c) (kt : kd t = 1) (kf : kd f = 1) (ne : t ≠ f) (ho : o ≤ sz t) :
    (∀ n, n < c → kd n = 0 → st_u (st_u sz f (sz t - o)) t o n = sz n ∧ ∀ i, i < 24 → cp_i it (24 * t + o) (24 * f) (sz t - o) (24 * n + i) = it (24 * n + i)) ∧
    (∀ n, n < c → kd n = 1 → st_u (st_u sz f (sz t - o)) t o n ≤ 12 ∧ ∀ i, i < st_u (st_u sz f (sz t - o)) t o n → cp_i it (24 * t + o) (24 * f) (sz t - o) (24 * n + i) ≤ 9) := by
  have tt := T.2.2.1 t ht kt
  have oth : ∀ n i, n ≠ f → i < 24 → cp_i it (24 * t + o) (24 * f) (sz t - o) (24 * n + i) = it (24 * n + i) := by
    intro n i e hi
    unfold cp_i
    exact if_neg (by omega)
  refine ⟨fun n hn kn => ?_, fun n hn kn => ?_⟩
  · have e1 : n ≠ t := by rintro rfl; omega
    have e2 : n ≠ f := by rintro rfl; omega
    exact ⟨by rw [st_un e1, st_un e2], fun i hi => oth n i e2 hi⟩
  · by_cases e1 : n = t
    · subst e1
      rw [st_us]
      refine ⟨by omega, fun i hi => ?_⟩
      rw [oth n i ne (by omega)]
      exact tt.2 i (by omega)
    · rw [st_un e1]
      by_cases e2 : n = f
      · subst e2
        rw [st_us]
        refine ⟨by omega, fun i hi => ?_⟩
        unfold cp_i
        rw [if_pos (by omega), show 24 * t + o + (24 * n + i - 24 * n) = 24 * t + (o + i) by omega]
        exact tt.2 _ (by omega)
      · rw [st_un e2]
        have := T.2.2.1 n hn kn
        refine ⟨this.1, fun i hi => ?_⟩
        rw [oth n i e2 (by omega)]
        exact this.2 i hi
theorem xx_hand0 {c : Nat} {kd pa sz it pn po : Nat → Nat} {sg eg : Int32} {rl rn oa ca il dm : Nat → Int32} {post : SX → Prop} {f o t : Nat} (hf : f < 24) (ht : t < 24) (ne : f ≠ t) (h1 : sz f ≤ 24) (ho : o ≤ sz f) (hz : sz t = 0)
    (h : post (nI c, sg, eg, ar_n kd, ar_p pa, ar_n (st_u (st_u sz t (sz f - o)) f o), ar_n (cp_i it (24 * f + o) (24 * t) (sz f - o)), ar_n pn, ar_n po, rl, rn, oa, ca, il, dm)) : wpX_handLetters post (nI c, sg, eg, ar_n kd, ar_p pa, ar_n sz, ar_n it, ar_n pn, ar_n po, rl, rn, oa, ca, il, dm) (nI f) (nI o) (nI t) := by
  refine xx_handLetters hf ht ne h1 ho (by omega) ?_
  rw [hz, Nat.zero_add, Nat.add_zero]
  exact h
theorem sp_0e (t o v q : Nat) : sp_0 t o v q = pl_ex t (fun q => if o < q then o else q) v q := by
  unfold sp_0 pl_ex
  by_cases e : v = t
  · by_cases l : o < q
    · rw [if_pos ⟨e, l⟩, if_pos e]; dsimp only; rw [if_pos l]
    · rw [if_neg (fun z => l z.2), if_pos e]; dsimp only; rw [if_neg l, e]
  · rw [if_neg (fun z => e z.1), if_neg e]
theorem sp_P0 {c : Nat} {kd pa sz it pn po : Nat → Nat} (T : tr_T c kd pa sz it) (P : pl_P c kd pa sz it pn po) {t f o : Nat} (ht : t < c) (hf : f < c) (kt : kd t = 1) (kf : kd f = 1) (ne : t ≠ f) (ho : o ≤ sz t) (nf : ∀ k, k < 8 → pn k ≠ f) :
    tr_T c kd pa (st_u (st_u sz f (sz t - o)) t o) (cp_i it (24 * t + o) (24 * f) (sz t - o)) ∧ pl_P c kd pa (st_u (st_u sz f (sz t - o)) t o) (cp_i it (24 * t + o) (24 * f) (sz t - o)) (mp_n (sp_0 t o) pn po) (mp_o (sp_0 t o) pn po) := by
  obtain ⟨h0, h1⟩ := sp_h T ht kt kf ne ho
  refine ⟨tr_Ttx T h0 h1, pl_map _ (fun v q => pl_ok c sz v q ∧ v ≠ f) P (fun k hk => ⟨P.1 k hk, nf k hk⟩) ?_ ?_⟩
  · rintro v q ⟨h, e⟩
    have := h.2
    unfold sp_0
    split
    · exact ⟨ht, by rw [st_us]; exact Nat.le_refl _⟩
    · rename_i z
      refine ⟨h.1, ?_⟩
      dsimp only
      by_cases e1 : v = t
      · subst e1; rw [st_us]; omega
      · rw [st_un e1, st_un e]; exact h.2
  · rintro v q v' q' _ _ R
    rw [sp_0e, sp_0e]
    refine pl_Rex T h0 kt ?_ R ht
    intro a b hab
    try dsimp only
    split <;> split <;> omega
def sp_a (p i v q : Nat) : Nat × Nat := if v = p ∧ i + 1 ≤ q ∧ q ≤ i + 1 then (p, i + 2) else (v, q)
def sp_b (t o f v q : Nat) : Nat × Nat := if v = t ∧ o + 1 ≤ q then (f, q - o) else (v, q)
theorem sp_ab {p i t o f : Nat} (ne : p ≠ t) (v q : Nat) : sp_b t o f (sp_a p i v q).1 (sp_a p i v q).2 = pl_sp p i t o f v q := by
  unfold pl_sp
  by_cases h : v = p ∧ q = i + 1
  · have e : sp_a p i v q = (p, i + 2) := by unfold sp_a; exact if_pos (by omega)
    rw [e, if_pos h]
    unfold sp_b
    exact if_neg (fun z => ne z.1)
  · have e : sp_a p i v q = (v, q) := by unfold sp_a; exact if_neg (by omega)
    rw [e, if_neg h]
    unfold sp_b
    by_cases h2 : v = t ∧ o < q
    · rw [if_pos h2, if_pos (by omega)]
    · rw [if_neg h2, if_neg (by omega)]
theorem sp_P1 {c : Nat} {kd pa sz it pn po : Nat → Nat} (T : tr_T c kd pa sz it) (P : pl_P c kd pa sz it pn po) {p i t f o : Nat} (ht : t < c) (hf : f < c) (kt : kd t = 1) (kf : kd f = 1) (ne : t ≠ f) (ho : o ≤ sz t) (nf : ∀ k, k < 8 → pn k ≠ f)
    (hp : p < c) (kp : kd p = 0) (hi : i + 1 < sz p) (et : it (24 * p + i) = t) (ef : it (24 * p + (i + 1)) = f) :
    tr_T c kd pa (st_u (st_u sz f (sz t - o)) t o) (cp_i it (24 * t + o) (24 * f) (sz t - o)) ∧ pl_P c kd pa (st_u (st_u sz f (sz t - o)) t o) (cp_i it (24 * t + o) (24 * f) (sz t - o)) (mp_n (pl_sp p i t o f) pn po) (mp_o (pl_sp p i t o f) pn po) := by
  obtain ⟨h0, h1⟩ := sp_h T ht kt kf ne ho
  have npt : p ≠ t := by rintro rfl; omega
  have npf : p ≠ f := by rintro rfl; omega
  refine ⟨tr_Ttx T h0 h1, pl_map _ (fun v q => pl_ok c sz v q ∧ v ≠ f) P (fun k hk => ⟨P.1 k hk, nf k hk⟩) ?_ ?_⟩
  · rintro v q ⟨h, e⟩
    have := h.2
    unfold pl_sp
    split
    · exact ⟨hp, by rw [st_un npt, st_un npf]; dsimp only; omega⟩
    · split
      · rename_i z
        have z1 := z.1
        subst z1
        exact ⟨hf, by rw [st_un (Ne.symm ne), st_us]; dsimp only; omega⟩
      · rename_i z
        refine ⟨h.1, ?_⟩
        dsimp only
        by_cases e1 : v = t
        · subst e1; rw [st_us]; omega
        · rw [st_un e1, st_un e]; exact h.2
  · rintro v q v' q' h h' R
    exact pl_Rsp T h0 hp kp hi et ef kt kf h.1.1 h'.1.1 h.2 h'.2 R
theorem i_vc_split {k : Nat} {u : SX} {v : SY} (I : i_Rel k u v) (hk : k + 5 ≤ 2560) (v1 : Int32) (v2 : Int32) : wpX_split (fun r u' => wpY_split (fun r' v' => r' = r ∧ i_Rel (k + 5) u' v') v v1 v2) u v1 v2 := by
  have J := i_up I
  obtain ⟨c, kd, pa, sz, it, pn, po, sg, eg, rl, rn, oa, ca, il, dm, ln, mk, os, cs, cm, rfl, rfl, T, P⟩ := I
  have c24 := tr_c24 T
  unfold wpX_split
  dsimp only
  rcases nd_cases c v1 with ⟨t, ht, rfl⟩ | h
  · have hti : vp_in (nI t) 24 := vp_in_nI (by omega) (by omega)
    have s24 := tr_s24 T ht
    rcases tr_k1 T ht with kt | kt
    · refine xx_isOfKind_k (k := 1) c24 ht (by omega) (by omega) (by omega) (br_t rfl ?_)
      unfold wpY_split
      dsimp only
      exact yy_isTextNode_k c24 ht kt (br_t rfl ⟨rfl, J⟩)
    · refine xx_isOfKind_t (k := 1) c24 ht kt (br_f (by decide) ?_)
      by_cases z : v2 < 0
      · refine br_t z ?_
        unfold wpY_split
        dsimp only
        exact yy_isTextNode_t c24 ht kt (br_f (by decide) (br_t z ⟨rfl, J⟩))
      · obtain ⟨o, ho, rfl⟩ := nI_of z
        refine br_f z (in_c hti ?_)
        have sa : ar_n sz (nI t).toNatClampNeg = nI (sz t) := ar_nc _ (by omega)
        rw [sa]
        refine cb_i (nI_leI ho (by omega)) (fun l => ?_) (fun l => ?_)
        · have YW : ∀ (post : Int32 → SY → Prop), wpY_make (fun r_18 u => match u with | (f_count_19, f_length_20, a_isText_21, a_parents_22, a_sizes_23, a_items_24, a_placeNode_25, a_placeOffset_26, a_marks_27, a_opens_28, a_closes_29, a_coming_30) => (((0 ≤ r_18 → (vp_in (nI t) 24 ∧ (∀ x4_33 : Int32, x4_33 = a_parents_22 (nI t).toNatClampNeg → (((x4_33 < 0 → (∃ n104 : Nat, wY_split_104 post (nI t) (nI o) r_18 f_count_19 f_length_20 n104 0 a_isText_21 a_parents_22 a_sizes_23 a_items_24 a_placeNode_25 a_placeOffset_26 a_marks_27 a_opens_28 a_closes_29 a_coming_30)) ∧ (¬ x4_33 < 0 → (wpY_indexOf (fun r_62 => (wpY_putIn (fun u => match u with | (f_count_76, f_length_77, a_isText_78, a_parents_79, a_sizes_80, a_items_81, a_placeNode_82, a_placeOffset_83, a_marks_84, a_opens_85, a_closes_86, a_coming_87) => (wpY_movePlaces (fun u => match u with | (f_count_89, f_length_90, a_isText_91, a_parents_92, a_sizes_93, a_items_94, a_placeNode_95, a_placeOffset_96, a_marks_97, a_opens_98, a_closes_99, a_coming_100) => (wpY_movePlaces (fun u => match u with | (f_count_102, f_length_103, a_isText_104, a_parents_105, a_sizes_106, a_items_107, a_placeNode_108, a_placeOffset_109, a_marks_110, a_opens_111, a_closes_112, a_coming_113) => (∃ n104 : Nat, wY_split_104 post (nI t) (nI o) r_18 f_count_102 f_length_103 n104 0 a_isText_104 a_parents_105 a_sizes_106 a_items_107 a_placeNode_108 a_placeOffset_109 a_marks_110 a_opens_111 a_closes_112 a_coming_113)) (f_count_89, f_length_90, a_isText_91, a_parents_92, a_sizes_93, a_items_94, a_placeNode_95, a_placeOffset_96, a_marks_97, a_opens_98, a_closes_99, a_coming_100) (nI t) (nI o + 1) 12 r_18 (-nI o))) (f_count_76, f_length_77, a_isText_78, a_parents_79, a_sizes_80, a_items_81, a_placeNode_82, a_placeOffset_83, a_marks_84, a_opens_85, a_closes_86, a_coming_87) x4_33 (r_62 + 1) (r_62 + 1) x4_33 1)) (f_count_19, f_length_20, a_isText_21, a_parents_22, a_sizes_23, a_items_24, a_placeNode_25, a_placeOffset_26, a_marks_27, a_opens_28, a_closes_29, a_coming_30) x4_33 r_18 (r_62 + 1))) (f_count_19, f_length_20, a_isText_21, a_parents_22, a_sizes_23, a_items_24, a_placeNode_25, a_placeOffset_26, a_marks_27, a_opens_28, a_closes_29, a_coming_30) (nI t)))))))) ∧ (¬ 0 ≤ r_18 → (post (-3) (f_count_19, f_length_20, a_isText_21, a_parents_22, a_sizes_23, a_items_24, a_placeNode_25, a_placeOffset_26, a_marks_27, a_opens_28, a_closes_29, a_coming_30)))))) (nI c, ln, ar_n kd, ar_p pa, ar_n sz, ar_n it, ar_n pn, ar_n po, mk, os, cs, cm) 1 → wpY_split post (nI c, ln, ar_n kd, ar_p pa, ar_n sz, ar_n it, ar_n pn, ar_n po, mk, os, cs, cm) (nI t) (nI o) := by
            intro post h
            unfold wpY_split
            dsimp only
            exact yy_isTextNode_t c24 ht kt (br_f (by decide) (br_f z (in_c hti (br_t (by rw [sa, nI_leI ho (by omega)]; exact l) h))))
          refine cb_i (nI_ltI (b := 24) (by omega) (by omega)) (fun hc => ?_) (fun hc => ?_)
          · have T1 := tr_Tmake T hc (k := 1) (by omega)
            have P1 := pl_Pmk T P (k := 1)
            have ne : t ≠ c := by omega
            have e1 : st_u sz c 0 t = sz t := st_un ne
            have e2 : st_u sz c 0 c = 0 := st_us _ _ _
            have e3 : st_u pa c 0 t = pa t := st_un ne
            have kt1 : st_u kd c 1 t = 1 := by rw [st_un ne]; exact kt
            have kf1 : st_u kd c 1 c = 1 := st_us _ _ _
            have nf : ∀ j, j < 8 → pn j ≠ c := fun j hj => by have := (P.1 j hj).1; omega
            have b8 := pl_sm8 T1 P1.1
            have pos : (0 : Int32) ≤ nI c := nI_pos' (by omega)
            refine xx_makeNode (k := 1) hc (in_c hti ?_)
            cases e : pa t with
            | zero =>
              obtain ⟨TF, PF⟩ := sp_P0 T1 P1 (t := t) (f := c) (o := o) (by omega) (by omega) kt1 kf1 ne (by omega) nf
              refine nm_r ((ar_pc _ (by omega)).trans (by rw [e3, e])) (br_t (by decide) (in_c hti ?_))
              dsimp only
              rw [ar_nc _ (by omega), e1, nI_1 o]
              refine xx_gatherPlaces (sp_0 t o) b8 (by omega) (by omega) (by omega) ?_ ?_
              · intro j hj
                have := (P.1 j hj).2
                refine ⟨fun q => ?_, fun q => ?_⟩
                · unfold sp_0; rw [if_pos (by omega)]; exact ⟨rfl, rfl⟩
                · unfold sp_0
                  rw [if_neg]
                  rintro ⟨q1, q2⟩
                  rw [q1] at this
                  exact q ⟨q1, by omega, by omega⟩
              · unfold wX_split_128
                refine xx_hand0 (by omega) (by omega) ne (by omega) (by omega) e2 ?_
                refine YW _ (yy_make (k := 1) (by omega) hc (br_t pos (in_c hti (nm_r ((ar_pc _ (by omega)).trans (by rw [e3, e])) (br_t (by decide) (yy_split104 b8 (by omega) (by omega) (by omega) (by omega) ne (by omega) ?_))))))
                exact ⟨rfl, rel_mk TF PF⟩
            | succ p =>
              obtain ⟨hp, kp, i, hi, he⟩ := tr_pe T ht e
              have sp24 := tr_sz T hp kp
              have nec : p ≠ c := by omega
              have f1 : st_u sz c 0 p = sz p := st_un nec
              have kp1 : st_u kd c 1 p = 0 := by rw [st_un nec]; exact kp
              have npt : p ≠ t := by rintro rfl; omega
              have nw : ¬ tr_w (st_u pa c 0) (p + 1) c := fun z => by have := tr_lt T hp (tr_e1 z); omega
              have e31 : st_u pa c 0 t = p + 1 := by rw [e3, e]
              have T2 := tr_Tput T1 (n0 := c) (p0 := p) (i0 := i + 1) (by omega) kp1 (by omega) (st_us _ _ _) nw (by rw [f1]; omega)
              have P2 := pl_Ppt T1 (n0 := c) (p0 := p) (i0 := i + 1) (by omega) kp1 (by omega) (st_us _ _ _) nw (by rw [f1]; omega) P1
              have b82 := pl_sm8 T2 P2.1
              have nf2 : ∀ j, j < 8 → mp_n (pl_pt p (i + 1)) pn po j ≠ c := fun j hj => by rw [mp_n1 hj, pl_p1]; exact nf j hj
              have g1 : st_u (st_u sz c 0) p (st_u sz c 0 p + 1) t = sz t := by rw [st_un (Ne.symm npt), e1]
              have g2 : st_u (st_u sz c 0) p (st_u sz c 0 p + 1) c = 0 := by rw [st_un (by omega), e2]
              have g3 : st_u (st_u sz c 0) p (st_u sz c 0 p + 1) p = sz p + 1 := by rw [st_us, f1]
              have et : st_u (mv_r it (24 * p) (i + 1) (st_u sz c 0 p) 1) (24 * p + (i + 1)) c (24 * p + i) = t := by
                rw [st_un (by omega), mv_rb it (by omega)]; exact he
              obtain ⟨TF, PF⟩ := sp_P1 T2 P2 (p := p) (i := i) (t := t) (f := c) (o := o) (by omega) (by omega) kt1 kf1 ne (by rw [g1]; exact l) nf2 (by omega) kp1 (by rw [g3]; omega) et (st_us _ _ _)
              have ba : ∀ j, j < 8 → mp_n (sp_a p i) (mp_n (pl_pt p (i + 1)) pn po) (mp_o (pl_pt p (i + 1)) pn po) j < 24 ∧ mp_o (sp_a p i) (mp_n (pl_pt p (i + 1)) pn po) (mp_o (pl_pt p (i + 1)) pn po) j < 25 := by
                intro j hj
                have := b82 j hj
                rw [mp_n1 (F := sp_a p i) hj, mp_o1 (F := sp_a p i) hj]
                unfold sp_a
                split
                · dsimp only; omega
                · exact this
              have ab := fun (j : Nat) (_ : j < 8) => sp_ab (i := i) (o := o) (f := c) npt (mp_n (pl_pt p (i + 1)) pn po j) (mp_o (pl_pt p (i + 1)) pn po j)
              refine nm_r ((ar_pc _ (by omega)).trans (by rw [e31, nI_pred])) (br_f ?_ (xx_indexOf T1 (by omega) e31 (by rw [f1]; exact hi) he ?_))
              · intro z
                have := nI_pos (n := p) (by omega)
                rw [z] at this
                exact this (by decide)
              · rw [nI_1 i, nI_1 o, show nI i + 2 = nI (i + 2) from nI_add i 2]
                refine xx_putIn T1 P1.1 (by omega) (by omega) (by rw [f1]; omega) (by rw [f1]; omega) ?_
                refine xx_gatherPlaces (sp_a p i) b82 (by omega) (by omega) (by omega) ?_ ?_
                · intro j hj
                  refine ⟨fun q => ?_, fun q => ?_⟩
                  · unfold sp_a; rw [if_pos q]; exact ⟨rfl, rfl⟩
                  · unfold sp_a; rw [if_neg q]
                · refine xx_slidePlaces (sp_b t o c) ba (by omega) (by omega) ?_ ?_
                  · intro j hj
                    refine ⟨fun q => ?_, fun q => ?_⟩
                    · unfold sp_b
                      rw [if_pos q]
                      exact ⟨rfl, by rw [← Int32.sub_eq_add_neg, pk_sub (by omega)]⟩
                    · unfold sp_b; rw [if_neg q]
                  · rw [mp_nn (sp_a p i) (sp_b t o c), mp_oo (sp_a p i) (sp_b t o c), mp_nc (F := fun v q => sp_b t o c (sp_a p i v q).1 (sp_a p i v q).2) (G := pl_sp p i t o c) ab, mp_oc (F := fun v q => sp_b t o c (sp_a p i v q).1 (sp_a p i v q).2) (G := pl_sp p i t o c) ab]
                    unfold wX_split_128
                    refine xx_hand0 (by omega) (by omega) ne (by rw [g1]; omega) (by rw [g1]; exact l) g2 ?_
                    refine YW _ (yy_make (k := 1) (by omega) hc (br_t pos (in_c hti (nm_r ((ar_pc _ (by omega)).trans (by rw [e31, nI_pred])) (br_f (nI_pos (by omega)) (yy_indexOf T1 (by omega) e31 (by rw [f1]; exact hi) he ?_))))))
                    rw [nI_1 i, nI_1 o]
                    refine yy_putIn T1 P1.1 (by omega) (by omega) (by rw [f1]; omega) (by rw [f1]; omega) ?_
                    refine yy_movePlaces (sp_a p i) b82 (by omega) (by omega) (by omega) ?_ ?_
                    · intro j hj
                      refine ⟨fun q => ?_, fun q => ?_⟩
                      · unfold sp_a; rw [if_pos q]; exact ⟨rfl, by rw [nI_1]; congr 1; omega⟩
                      · unfold sp_a; rw [if_neg q]
                    · refine yy_movePlaces (hi := 12) (sp_b t o c) ba (by omega) (by omega) (by omega) ?_ ?_
                      · intro j hj
                        have tt := (T.2.2.1 t ht kt).1
                        have val := (P2.1 j hj).2
                        refine ⟨fun q => ?_, fun q => ?_⟩
                        · unfold sp_b
                          rw [if_pos ⟨q.1, q.2.1⟩]
                          exact ⟨rfl, by rw [← Int32.sub_eq_add_neg, pk_sub (by omega)]⟩
                        · unfold sp_b
                          rw [if_neg]
                          intro y
                          apply q
                          refine ⟨y.1, y.2, ?_⟩
                          have y1 := y.1
                          rw [mp_n1 (F := sp_a p i) hj] at y1
                          rw [mp_o1 (F := sp_a p i) hj]
                          by_cases w : mp_n (pl_pt p (i + 1)) pn po j = p ∧ i + 1 ≤ mp_o (pl_pt p (i + 1)) pn po j ∧ mp_o (pl_pt p (i + 1)) pn po j ≤ i + 1
                          · unfold sp_a at y1
                            rw [if_pos w] at y1
                            exact absurd y1 npt
                          · unfold sp_a at y1 ⊢
                            rw [if_neg w] at y1 ⊢
                            dsimp only at y1 ⊢
                            rw [y1, g1] at val
                            omega
                      · rw [mp_nn (sp_a p i) (sp_b t o c), mp_oo (sp_a p i) (sp_b t o c), mp_nc (F := fun v q => sp_b t o c (sp_a p i v q).1 (sp_a p i v q).2) (G := pl_sp p i t o c) ab, mp_oc (F := fun v q => sp_b t o c (sp_a p i v q).1 (sp_a p i v q).2) (G := pl_sp p i t o c) ab]
                        have idn : ∀ j, j < 8 → sp_0 t o (mp_n (pl_sp p i t o c) (mp_n (pl_pt p (i + 1)) pn po) (mp_o (pl_pt p (i + 1)) pn po) j) (mp_o (pl_sp p i t o c) (mp_n (pl_pt p (i + 1)) pn po) (mp_o (pl_pt p (i + 1)) pn po) j) = (mp_n (pl_sp p i t o c) (mp_n (pl_pt p (i + 1)) pn po) (mp_o (pl_pt p (i + 1)) pn po) j, mp_o (pl_sp p i t o c) (mp_n (pl_pt p (i + 1)) pn po) (mp_o (pl_pt p (i + 1)) pn po) j) := by
                          intro j hj
                          rw [mp_n1 (F := pl_sp p i t o c) hj, mp_o1 (F := pl_sp p i t o c) hj]
                          unfold sp_0
                          rw [if_neg]
                          unfold pl_sp
                          split
                          · exact fun y => npt y.1
                          · split
                            · exact fun y => ne y.1.symm
                            · rename_i y; exact y
                        have bF := pl_sm8 TF PF.1
                        refine yy_split104 bF (by omega) (by rw [g1]; omega) (by omega) (by omega) ne (by rw [g1]; exact l) ?_
                        rw [mp_ni idn, mp_oi idn]
                        exact ⟨rfl, rel_mk TF PF⟩
          · exact YW _ (yy_make_f (by omega) (br_f (by decide) ⟨rfl, J⟩))
        · unfold wpY_split
          dsimp only
          exact yy_isTextNode_t c24 ht kt (br_f (by decide) (br_f z (in_c hti (br_f (by rw [sa, nI_leI ho (by omega)]; exact l) ⟨rfl, J⟩))))
  · refine xx_isOfKind_f c24 h (br_t rfl ?_)
    unfold wpY_split
    dsimp only
    exact yy_isTextNode_f c24 h (br_t rfl ⟨rfl, J⟩)
