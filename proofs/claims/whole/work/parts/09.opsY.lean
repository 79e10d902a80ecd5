/-! Y's changing methods against the pure core -/
theorem nar_b : ∀ k, k < 2 → vp_nar .boolean (nI k) = nI k := by
  intro k hk
  match k, hk with
  | 0, _ => decide
  | 1, _ => decide
theorem yy_make {c : Nat} {kd pa sz it pn po : Nat → Nat} {ln : Int32} {mk os cs cm : Nat → Int32} {post : Int32 → SY → Prop} {k : Nat} (hk : k < 2) (hc : c < 24) (hp : post (nI c) (nI (c+1), ln, ar_n (st_u kd c k), ar_p (st_u pa c 0), ar_n (st_u sz c 0), ar_n it, ar_n pn, ar_n po, mk, os, cs, cm)) : wpY_make post (nI c, ln, ar_n kd, ar_p pa, ar_n sz, ar_n it, ar_n pn, ar_n po, mk, os, cs, cm) (nI k) := by
  have hi : vp_in (nI c) 24 := vp_in_nI hc (by omega)
  refine br_f (fun z => ?_) (in_c hi (nm_r (show upd (ar_n kd) (nI c).toNatClampNeg (vp_nar .boolean (nI k)) = _ by rw [nI_clamp (by omega), nar_b k hk, ar_nu]) (in_c hi (nm_r (show upd (ar_p pa) (nI c).toNatClampNeg (-1) = _ by rw [nI_clamp (by omega), ar_pm]) (in_c hi (nm_r (show upd (ar_n sz) (nI c).toNatClampNeg (nI 0) = _ by rw [nI_clamp (by omega), ar_nu]) (nm_r (nI_1 c) ?_)))))))
  · have := (nI_eq (a := c) (b := 24) (by omega) (by omega)).mp z
    omega
  · rw [nI_pred]; exact hp
theorem yy_make_f {c : Nat} {kd pa sz it pn po : Nat → Nat} {ln : Int32} {mk os cs cm : Nat → Int32} {post : Int32 → SY → Prop} {x : Int32} (hc : c = 24) (hp : post (-2) (nI c, ln, ar_n kd, ar_p pa, ar_n sz, ar_n it, ar_n pn, ar_n po, mk, os, cs, cm)) : wpY_make post (nI c, ln, ar_n kd, ar_p pa, ar_n sz, ar_n it, ar_n pn, ar_n po, mk, os, cs, cm) x := by
  subst hc
  exact br_t rfl hp
section
variable {c : Nat} {kd pa sz it pn po : Nat → Nat} {ln : Int32} {mk os cs cm : Nat → Int32}
theorem yy_mt {post : SY → Prop} {n p i : Nat} (T : tr_T c kd pa sz it) (V : ∀ k, k < 8 → pl_ok c sz (pn k) (po k)) (hn : n < c) (hp : p < c) (hi : i < 24)
    (h : post (nI c, ln, ar_n kd, ar_p pa, ar_n sz, ar_n it, ar_n (mp_n (pl_tk pa n p i) pn po), ar_n (mp_o (pl_tk pa n p i) pn po), mk, os, cs, cm)) :
    ∀ d k, k + d = 8 → wY_moveTaken_3 post (nI p) (nI i) (nI n) (nI c) ln (d + 1) (nI k) (ar_n kd) (ar_p pa) (ar_n sz) (ar_n it) (ar_n (mq_n (pl_tk pa n p i) pn po k)) (ar_n (mq_o (pl_tk pa n p i) pn po k)) mk os cs cm := by
  have c24 := tr_c24 T
  have b8 := pl_sm8 T V
  intro d
  induction d with
  | zero =>
    intro k hk
    obtain rfl : k = 8 := by omega
    exact br_t (nI_le (a := 8) (by omega) (by omega)) h
  | succ d ih =>
    intro k hk
    have h8 : k < 8 := by omega
    have hb := b8 k h8
    have hi8 : vp_in (nI k) 8 := vp_in_nI h8 (by omega)
    have nx := ih (k + 1) (by omega)
    have set : tr_w pa (pn k + 1) n → wY_moveTaken_36 post (wY_moveTaken_3 post (nI p) (nI i) (nI n) (nI c) ln (d + 1)) (nI p) (nI i) (nI n) (nI k) (nI c) ln (ar_n kd) (ar_p pa) (ar_n sz) (ar_n it) (ar_n (mq_n (pl_tk pa n p i) pn po k)) (ar_n (mq_o (pl_tk pa n p i) pn po k)) mk os cs cm := by
      intro z
      refine in_c hi8 (nm_r (e' := ar_n (mq_n (pl_tk pa n p i) pn po (k + 1))) ?_ (in_c hi8 (nm_r (e' := ar_n (mq_o (pl_tk pa n p i) pn po (k + 1))) ?_ (nm_r (nI_1 k) nx))))
      · rw [nI_clamp (by omega), ar_nu, mq_ns (by unfold pl_tk; rw [cl_t z])]
      · rw [nI_clamp (by omega), ar_nu, mq_os (by unfold pl_tk; rw [cl_t z])]
    have skip : ¬ tr_w pa (pn k + 1) n → ¬ (pn k = p ∧ i < po k) → wY_moveTaken_3 post (nI p) (nI i) (nI n) (nI c) ln (d + 1) (nI (k + 1)) (ar_n kd) (ar_p pa) (ar_n sz) (ar_n it) (ar_n (mq_n (pl_tk pa n p i) pn po k)) (ar_n (mq_o (pl_tk pa n p i) pn po k)) mk os cs cm := by
      intro z y
      rw [mq_nu (F := pl_tk pa n p i) (pn := pn) (po := po) (k := k) (by unfold pl_tk; rw [cl_f z, if_neg y]), mq_ou (F := pl_tk pa n p i) (pn := pn) (po := po) (k := k) (by unfold pl_tk; rw [cl_f z, if_neg y])]
      exact nx
    refine br_f (nI_ge (b := 8) h8 (by omega)) (in_c hi8 (cb_i (d := pn k = n) ?_ (fun e => set (by rw [e]; exact tr_wr _ _)) fun e => in_c hi8 ?_))
    · rw [ar_nc _ (by omega), mq_nk, nI_eq (by omega) (by omega)]
    · rw [ar_nc _ (by omega), mq_nk]
      refine yy_isBelow T (V k h8).1 hn (fun z => br_f (by decide) (set (tr_ws z))) (fun z => br_t rfl (in_c hi8 ?_))
      have z : ¬ tr_w pa (pn k + 1) n := fun q => (tr_wc q).elim e z
      refine cb_i (nI_eq (by omega) (by omega)) (fun y => in_c hi8 ?_) (fun y => nm_r (nI_1 k) (skip z (fun q => y q.1)))
      rw [ar_nc _ (by omega), mq_ok]
      refine cb_i (nI_leI (by omega) (by omega)) (fun l => nm_r (nI_1 k) (skip z (by omega))) (fun l => in_c hi8 (in_c hi8 (nm_r (e' := ar_n (mq_o (pl_tk pa n p i) pn po (k + 1))) ?_ (nm_r (nI_1 k) ?_))))
      · rw [nI_clamp (by omega), show nI (po k) - 1 = nI (po k - 1) from pk_sub (b := 1) (by omega), ar_nu, mq_os (by unfold pl_tk; rw [cl_f z, if_pos ⟨y, by omega⟩])]
      · rw [mq_nu (F := pl_tk pa n p i) (pn := pn) (po := po) (k := k) (by unfold pl_tk; rw [cl_f z, if_pos ⟨y, by omega⟩])]
        exact nx
theorem yy_tkl {post : Int32 → SY → Prop} {n p i s : Nat} (hn : n < 24) (hp : p < 24) (hs : s < 24) (hi : i < s)
    (h : post (nI i) (nI c, ln, ar_n kd, ar_p (st_u pa n 0), ar_n (st_u sz p (s - 1)), ar_n (mv_l it (24 * p) (i + 1) s 1), ar_n pn, ar_n po, mk, os, cs, cm)) :
    ∀ d k, k + d + 1 = s → i ≤ k → wY_takeOut_33 post (nI n) (nI p) (nI i) (nI c) ln (d + 1) (nI k) (ar_n kd) (ar_p pa) (ar_n (st_u sz p (s - 1))) (ar_n (mv_l it (24 * p) (i + 1) (k + 1) 1)) (ar_n pn) (ar_n po) mk os cs cm := by
  intro d
  induction d with
  | zero =>
    intro k hk hik
    obtain rfl : s = k + 1 := by omega
    refine in_c (vp_in_nI hp (by omega)) (br_t ?_ (in_c (vp_in_nI hn (by omega)) (nm_r (show upd (ar_p pa) (nI n).toNatClampNeg (-1) = _ by rw [nI_clamp (by omega), ar_pm]) h)))
    rw [ar_nc _ (by omega), st_us, nI_leI (by omega) (by omega)]; omega
  | succ d ih =>
    intro k hk hik
    refine in_c (vp_in_nI hp (by omega)) (br_f ?_ ?_)
    · rw [ar_nc _ (by omega), st_us, nI_leI (by omega) (by omega)]; omega
    · rw [ix_y, nI_1]
      refine in_c (vp_in_nI (by omega) (by omega)) (in_c (vp_in_nI (by omega) (by omega)) (nm_r ?_ (nm_r (nI_1 k) (ih (k + 1) (by omega) (by omega)))))
      rw [ar_nc _ (by omega), nI_clamp (by omega), Nat.add_assoc, mv_lk, ar_nu]
      have := mv_ls it (b := 24 * p) (f := i + 1) (e := 1) (k := k + 1) (by omega) (by omega)
      rw [show 24 * p + (k + 1) - 1 = 24 * p + k by omega] at this
      rw [this]
theorem yy_takeOut {post : Int32 → SY → Prop} {n p i : Nat} (T : tr_T c kd pa sz it) (V : ∀ k, k < 8 → pl_ok c sz (pn k) (po k)) (hn : n < c) (hp : pa n = p + 1) (hi : i < sz p) (he : it (24 * p + i) = n)
    (h : post (nI i) (nI c, ln, ar_n kd, ar_p (st_u pa n 0), ar_n (st_u sz p (sz p - 1)), ar_n (mv_l it (24 * p) (i + 1) (sz p) 1), ar_n (mp_n (pl_tk pa n p i) pn po), ar_n (mp_o (pl_tk pa n p i) pn po), mk, os, cs, cm)) : wpY_takeOut post (nI c, ln, ar_n kd, ar_p pa, ar_n sz, ar_n it, ar_n pn, ar_n po, mk, os, cs, cm) (nI n) := by
  have c24 := tr_c24 T
  obtain ⟨h1, h2, _⟩ := tr_pe T hn hp
  have s24 := tr_s24 T h1
  refine in_c (vp_in_nI (by omega) (by omega)) (nm_r ((ar_pc pa (by omega)).trans (by rw [hp, nI_pred])) (yy_indexOf T hn hp hi he ⟨9, ?_⟩))
  have := yy_mt (c := c) (kd := kd) (pa := pa) (sz := sz) (it := it) (pn := pn) (po := po) (ln := ln) (mk := mk) (os := os) (cs := cs) (cm := cm) (post := fun u => match u with | (f_count_17, f_length_18, a_isText_19, a_parents_20, a_sizes_21, a_items_22, a_placeNode_23, a_placeOffset_24, a_marks_25, a_opens_26, a_closes_27, a_coming_28) => (vp_in (nI p) 24 ∧ (vp_in (nI p) 24 ∧ ∀ a_sizes_31 : Nat → Int32, a_sizes_31 = upd a_sizes_21 (nI p).toNatClampNeg ((a_sizes_21 (nI p).toNatClampNeg) - 1) → (∃ n33 : Nat, wY_takeOut_33 post (nI n) (nI p) (nI i) f_count_17 f_length_18 n33 (nI i) a_isText_19 a_parents_20 a_sizes_31 a_items_22 a_placeNode_23 a_placeOffset_24 a_marks_25 a_opens_26 a_closes_27 a_coming_28)))) T V hn h1 (by omega : i < 24) ?_ 8 0 rfl
  · rw [mq_n0, mq_o0] at this
    exact this
  · refine in_c (vp_in_nI (by omega) (by omega)) (in_c (vp_in_nI (by omega) (by omega)) (nm_r (e' := ar_n (st_u sz p (sz p - 1))) ?_ ⟨sz p - 1 - i + 1, ?_⟩))
    · rw [ar_nc _ (by omega), nI_clamp (by omega), show nI (sz p) - 1 = nI (sz p - 1) from pk_sub (b := 1) (by omega), ar_nu]
    · have := yy_tkl (c := c) (kd := kd) (pa := pa) (sz := sz) (it := it) (ln := ln) (mk := mk) (os := os) (cs := cs) (cm := cm) (post := post) (by omega) (by omega) s24 hi h (sz p - 1 - i) i (by omega) (Nat.le_refl i)
      rw [mv_l0] at this
      exact this
end
