/-! Y writes the row -/
def rw_E (kd sz it L op : Nat → Nat) (mk os cs : Nat → Int32) (m : Nat) : Prop :=
  os m = nI (op m) ∧ cs m = nI (op m + L m - 1) ∧ mk (op m) = -1 ∧ mk (op m + L m - 1) = -1 ∧ (kd m = 1 → ∀ i, i < sz m → mk (op m + 1 + i) = nI (it (24 * m + i)))
def rw_G (pa op : Nat → Nat) (n : Nat) (mk os cs cm mk' os' cs' cm' : Nat → Int32) : Prop := (∀ k, k < op n → mk' k = mk k) ∧ ∀ m, ¬ tr_w pa (m + 1) n → os' m = os m ∧ cs' m = cs m ∧ cm' m = cm m
section
variable {c : Nat} {kd pa sz it pn po : Nat → Nat} {ln : Int32} {mk os cs cm : Nat → Int32} {L op N : Nat → Nat}
theorem rw_Ek {mk' os' cs' : Nat → Int32} {m : Nat} (Q : ly_Q c kd pa sz it L op N) (T : tr_T c kd pa sz it) (hm : m < c) (D : rw_E kd sz it L op mk os cs m) (h1 : ∀ k, op m ≤ k → k < op m + L m → mk' k = mk k) (h2 : os' m = os m) (h3 : cs' m = cs m) : rw_E kd sz it L op mk' os' cs' m := by
  have l2 := ly_L2 Q T hm
  obtain ⟨a, b, d, f, h⟩ := D
  have p1 := h1 (op m) (Nat.le_refl _) (by omega)
  have p2 := h1 (op m + L m - 1) (by omega) (by omega)
  refine ⟨h2.trans a, h3.trans b, p1.trans d, p2.trans f, fun k i hi => ?_⟩
  have p3 := h1 (op m + 1 + i) (by omega) (by rw [Q.1 m hm k]; omega)
  exact p3.trans (h k i hi)
theorem yy_mark {post : SY → Prop} {a : Nat} {x : Int32} (ha : a < 400) (h : post (nI c, nI (a + 1), ar_n kd, ar_p pa, ar_n sz, ar_n it, ar_n pn, ar_n po, upd mk a x, os, cs, cm)) : wpY_mark post (nI c, nI a, ar_n kd, ar_p pa, ar_n sz, ar_n it, ar_n pn, ar_n po, mk, os, cs, cm) x :=
  in_c (vp_in_nI ha (by omega)) (nm_r (congrArg (fun j => upd mk j x) (nI_clamp (by omega))) (nm_r (nI_1 a) h))
theorem yy_wOpen {post : SY → Prop} {r n a t : Nat} (hn : n < 24) (ha : a < 400) (ht : t < 100) (h : wY_write_49 post (wY_write_12 post (nI r) (200 - (t + 1))) (nI r) (nI n) (nI t) (nI c) (nI (a + 1)) (ar_n kd) (ar_p pa) (ar_n sz) (ar_n it) (ar_n pn) (ar_n po) (upd mk a (-1)) (upd os n (nI a)) cs (upd cm n 0)) : wY_write_12 post (nI r) (200 - t) (nI n) 1 (nI t) (nI c) (nI a) (ar_n kd) (ar_p pa) (ar_n sz) (ar_n it) (ar_n pn) (ar_n po) mk os cs cm := by
  have hi : vp_in (nI n) 24 := vp_in_nI hn (by omega)
  rw [show 200 - t = 200 - (t + 1) + 1 by omega]
  refine br_f (nI_ge (b := 100) ht (by omega)) (br_f (nI_pos (by omega)) (br_f (by decide) (in_c hi (nm_r (congrArg (fun j => upd os j (nI a)) (nI_clamp (by omega))) (in_c hi (nm_r (congrArg (fun j => upd cm j 0) (nI_clamp (by omega))) ?_))))))
  exact yy_mark ha h
theorem yy_wCont {post : SY → Prop} {r n t : Nat} (hn : n < 24) (ht : t < 100) (h : wY_write_49 post (wY_write_12 post (nI r) (200 - (t + 1))) (nI r) (nI n) (nI t) (nI c) ln (ar_n kd) (ar_p pa) (ar_n sz) (ar_n it) (ar_n pn) (ar_n po) mk os cs cm) : wY_write_12 post (nI r) (200 - t) (nI n) 0 (nI t) (nI c) ln (ar_n kd) (ar_p pa) (ar_n sz) (ar_n it) (ar_n pn) (ar_n po) mk os cs cm := by
  rw [show 200 - t = 200 - (t + 1) + 1 by omega]
  exact br_f (nI_ge (b := 100) ht (by omega)) (br_f (nI_pos (by omega)) (br_t rfl h))
theorem yy_wChild {post : SY → Prop} {r n t i m f : Nat} (hn : n < 24) (k : kd n = 0) (hs : sz n < 24) (e : cm n = nI i) (hi' : i < sz n) (em : it (24 * n + i) = m) (h : wY_write_12 post (nI r) f (nI m) 1 (nI (t + 1)) (nI c) ln (ar_n kd) (ar_p pa) (ar_n sz) (ar_n it) (ar_n pn) (ar_n po) mk os cs (upd cm n (nI (i + 1)))) : wY_write_49 post (wY_write_12 post (nI r) f) (nI r) (nI n) (nI t) (nI c) ln (ar_n kd) (ar_p pa) (ar_n sz) (ar_n it) (ar_n pn) (ar_n po) mk os cs cm := by
  have hi : vp_in (nI n) 24 := vp_in_nI hn (by omega)
  have ec : cm (nI n).toNatClampNeg = nI i := by rw [nI_clamp (by omega)]; exact e
  refine in_c hi (br_t (by rw [ar_nc _ (by omega), k]; rfl) (in_c hi (in_c hi (br_f (by rw [ec, ar_nc _ (by omega), nI_leI (by omega) (by omega)]; omega) (in_c hi (in_c hi (nm_r (e' := upd cm n (nI (i + 1))) ?_ (in_c hi ?_))))))))
  · rw [ec, nI_1, nI_clamp (by omega)]
  · have e1 : upd cm n (nI (i + 1)) (nI n).toNatClampNeg = nI (i + 1) := by rw [nI_clamp (by omega), pk_us]
    rw [e1, ix_y, show nI (24 * n + (i + 1)) - 1 = nI (24 * n + i) from pk_sub (b := 1) (by omega)]
    exact in_c (vp_in_nI (by omega) (by omega)) (nm_r ((ar_nc _ (by omega)).trans (congrArg nI em)) (nm_r (nI_1 t) h))
theorem yy_wClose {post : SY → Prop} {r n t a f : Nat} (hn : n < 24) (hr : r < 24) (ha : a < 400) (pr : pa r = 0) (h : wY_write_12 post (nI r) f (nI (pa n) - 1) 0 (nI (t + 1)) (nI c) (nI (a + 1)) (ar_n kd) (ar_p pa) (ar_n sz) (ar_n it) (ar_n pn) (ar_n po) (upd mk a (-1)) os (upd cs n (nI a)) cm) : wY_write_152 post (wY_write_12 post (nI r) f) (nI r) (nI n) (nI t) (nI c) (nI a) (ar_n kd) (ar_p pa) (ar_n sz) (ar_n it) (ar_n pn) (ar_n po) mk os cs cm := by
  have hi : vp_in (nI n) 24 := vp_in_nI hn (by omega)
  refine in_c hi (nm_r (congrArg (fun j => upd cs j (nI a)) (nI_clamp (by omega))) (yy_mark ha (cb_i (nI_eq (by omega) (by omega)) (fun e => nm_r (nI_1 t) ?_) (fun e => in_c hi (nm_r (ar_pc _ (by omega)) (nm_r (nI_1 t) h))))))
  subst e
  rw [pr] at h
  exact h
theorem yy_wCloseE {post : SY → Prop} {r n t a f : Nat} (hn : n < 24) (hr : r < 24) (ha : a < 400) (pr : pa r = 0) (k : kd n = 0) (hs : sz n < 24) (e : cm n = nI (sz n)) (h : wY_write_12 post (nI r) f (nI (pa n) - 1) 0 (nI (t + 1)) (nI c) (nI (a + 1)) (ar_n kd) (ar_p pa) (ar_n sz) (ar_n it) (ar_n pn) (ar_n po) (upd mk a (-1)) os (upd cs n (nI a)) cm) : wY_write_49 post (wY_write_12 post (nI r) f) (nI r) (nI n) (nI t) (nI c) (nI a) (ar_n kd) (ar_p pa) (ar_n sz) (ar_n it) (ar_n pn) (ar_n po) mk os cs cm := by
  have hi : vp_in (nI n) 24 := vp_in_nI hn (by omega)
  have ec : cm (nI n).toNatClampNeg = nI (sz n) := by rw [nI_clamp (by omega)]; exact e
  refine in_c hi (br_t (by rw [ar_nc _ (by omega), k]; rfl) (in_c hi (in_c hi (br_t (by rw [ec, ar_nc _ (by omega), nI_leI (by omega) (by omega)]; omega) ⟨1, in_c hi (br_c (fun _ => ?_) (fun _ => in_c hi (br_t (by rw [ar_nc _ (by omega), k]; rfl) ?_)))⟩))))
  · exact yy_wClose hn hr ha pr h
  · exact yy_wClose hn hr ha pr h
theorem yy_w110 {post : SY → Prop} {r n t a f : Nat} (hn : n < 24) (hr : r < 24) (pr : pa r = 0) (k : kd n = 1) (hs : sz n < 24) (ha : a + sz n < 400) {mk0 : Nat → Int32}
    (K : ∀ mk : Nat → Int32, (∀ j, j < sz n → mk (a + j) = nI (it (24 * n + j))) → (∀ q, q < a → mk q = mk0 q) → wY_write_12 post (nI r) f (nI (pa n) - 1) 0 (nI (t + 1)) (nI c) (nI (a + sz n + 1)) (ar_n kd) (ar_p pa) (ar_n sz) (ar_n it) (ar_n pn) (ar_n po) (upd mk (a + sz n) (-1)) os (upd cs n (nI (a + sz n))) cm) :
    ∀ d i (mk : Nat → Int32), i + d = sz n → (∀ j, j < i → mk (a + j) = nI (it (24 * n + j))) → (∀ q, q < a → mk q = mk0 q) → wY_write_110 post (wY_write_12 post (nI r) f) (nI r) (nI n) (nI t) (d + 1) (nI i) (nI c) (nI (a + i)) (ar_n kd) (ar_p pa) (ar_n sz) (ar_n it) (ar_n pn) (ar_n po) mk os cs cm := by
  have hi : vp_in (nI n) 24 := vp_in_nI hn (by omega)
  intro d
  induction d with
  | zero =>
    intro i mk e h1 h2
    have ei : i = sz n := by omega
    subst ei
    exact in_c hi (br_t (by rw [ar_nc _ (by omega), nI_leI (by omega) (by omega)]; omega) (yy_wClose hn hr ha pr (K mk h1 h2)))
  | succ d ih =>
    intro i mk e h1 h2
    refine in_c hi (br_f (by rw [ar_nc _ (by omega), nI_leI (by omega) (by omega)]; omega) (in_c hi (br_f (by rw [ar_nc _ (by omega), k]; decide) ?_)))
    rw [ix_y]
    refine in_c (vp_in_nI (by omega) (by omega)) ?_
    rw [ar_nc _ (by omega)]
    refine yy_mark (by omega) (nm_r (nI_1 i) ?_)
    refine ih (i + 1) _ (by omega) ?_ ?_
    · intro j hj
      by_cases ej : j = i
      · subst ej; rw [pk_us]
      · rw [pk_un (by omega)]; exact h1 j (by omega)
    · intro q hq
      rw [pk_un (by omega)]; exact h2 q hq
end
theorem yy_wNode {c : Nat} {kd pa sz it pn po : Nat → Nat} {ln : Int32} {mk os cs cm : Nat → Int32} {L op N : Nat → Nat} {post : SY → Prop} {r : Nat} (Q : ly_Q c kd pa sz it L op N) (T : tr_T c kd pa sz it) (hr : r < c) (pr : pa r = 0) :
    ∀ n, n < c → op n + L n ≤ 336 → ∀ t (mk os cs cm : Nat → Int32), t + 2 * N n ≤ 100 →
      (∀ mk' os' cs' cm', (∀ m, m < c → tr_w pa (m + 1) n → rw_E kd sz it L op mk' os' cs' m) → rw_G pa op n mk os cs cm mk' os' cs' cm' → wY_write_12 post (nI r) (200 - (t + 2 * N n - 1)) (nI (pa n) - 1) 0 (nI (t + 2 * N n - 1)) (nI c) (nI (op n + L n)) (ar_n kd) (ar_p pa) (ar_n sz) (ar_n it) (ar_n pn) (ar_n po) mk' os' cs' cm') →
      wY_write_12 post (nI r) (200 - t) (nI n) 1 (nI t) (nI c) (nI (op n)) (ar_n kd) (ar_p pa) (ar_n sz) (ar_n it) (ar_n pn) (ar_n po) mk os cs cm := by
  have c24 := tr_c24 T
  refine tr_hi T ?_
  intro n hn IH hb t mk0 os0 cs0 cm0 ht K
  have s24 := tr_s24 T hn
  rcases tr_k1 T hn with k | k
  · have eL := Q.2.1 n hn k
    have eN := Q.2.2.2.2.2.2.1 n hn k
    have IH := IH k
    have loop : ∀ d i (mk os cs cm : Nat → Int32), i + d = sz n → os n = nI (op n) → cm n = nI i → mk (op n) = -1 → (∀ j, j < i → ∀ m, m < c → tr_w pa (m + 1) (it (24 * n + j)) → rw_E kd sz it L op mk os cs m) → rw_G pa op n mk0 os0 cs0 cm0 mk os cs cm →
        wY_write_49 post (wY_write_12 post (nI r) (200 - (t + 2 * ly_s (fun j => N (it (24 * n + j))) i + 1))) (nI r) (nI n) (nI (t + 2 * ly_s (fun j => N (it (24 * n + j))) i)) (nI c) (nI (op n + 1 + ly_s (fun j => L (it (24 * n + j))) i)) (ar_n kd) (ar_p pa) (ar_n sz) (ar_n it) (ar_n pn) (ar_n po) mk os cs cm := by
      intro d
      induction d with
      | zero =>
        intro i mk os cs cm hi e1 e2 e3 e5 F
        have ei : i = sz n := by omega
        subst ei
        refine yy_wCloseE (by omega) (by omega) (by omega) pr k s24 e2 ?_
        rw [show op n + 1 + ly_s (fun j => L (it (24 * n + j))) (sz n) + 1 = op n + L n by omega, show t + 2 * ly_s (fun j => N (it (24 * n + j))) (sz n) + 1 = t + 2 * N n - 1 by omega]
        refine K _ _ _ _ ?_ ?_
        · intro m hm w
          rcases tr_wl w with z | ⟨q, z, g⟩
          · have : m = n := by omega
            subst this
            refine ⟨e1, ?_, ?_, ?_, ?_⟩
            · rw [pk_us]; congr 1; omega
            · rw [pk_un (by omega)]; exact e3
            · rw [show op m + L m - 1 = op m + 1 + ly_s (fun j => L (it (24 * m + j))) (sz m) by omega, pk_us]
            · intro k1; omega
          · have hq := tr_lt T hm g
            obtain ⟨_, _, j, hj, he⟩ := tr_pe T hq z
            have D := e5 j hj m hm (by rw [he]; exact g)
            have cl := ly_cl Q hn k hj
            rw [he] at cl
            have inn := ly_in Q T hm g
            have ne : m ≠ n := by
              rintro rfl
              exact tr_ac T hq z g
            exact rw_Ek Q T hm D (fun r h1 h2 => pk_un (by omega)) rfl (pk_un ne)
        · refine ⟨fun q hq => ?_, fun m w => ?_⟩
          · rw [pk_un (by omega)]; exact F.1 q hq
          · have ne : m ≠ n := by rintro rfl; exact w (tr_wr _ _)
            rw [pk_un ne]
            exact F.2 m w
      | succ d ih =>
        intro i mk os cs cm hi e1 e2 e3 e5 F
        have hi' : i < sz n := by omega
        have ch := tr_ch T hn k hi'
        have opc := ly_ch Q hn k hi'
        have cl := ly_cl Q hn k hi'
        have step := IH i hi'
        have e3s : ly_s (fun j => L (it (24 * n + j))) (i + 1) = ly_s (fun j => L (it (24 * n + j))) i + L (it (24 * n + i)) := rfl
        have e3n : ly_s (fun j => N (it (24 * n + j))) (i + 1) = ly_s (fun j => N (it (24 * n + j))) i + N (it (24 * n + i)) := rfl
        have smn := ly_sm (fun j => N (it (24 * n + j))) (i := i + 1) (j := sz n) (by omega)
        generalize em : it (24 * n + i) = m at ch opc cl step e3s e3n
        obtain ⟨hm, pm⟩ := ch
        have nem : n ≠ m := by rintro rfl; exact tr_ac T hm pm (tr_wr _ _)
        have nwn : ¬ tr_w pa (n + 1) m := tr_ac T hm pm
        refine yy_wChild (by omega) k s24 e2 hi' em ?_
        rw [← opc]
        refine step (by omega) _ _ _ _ _ (by omega) ?_
        intro mk' os' cs' cm' D' F'
        rw [pm, nI_pred]
        rw [show op m + L m = op n + 1 + ly_s (fun j => L (it (24 * n + j))) (i + 1) by omega, show t + 2 * ly_s (fun j => N (it (24 * n + j))) i + 1 + 2 * N m - 1 = t + 2 * ly_s (fun j => N (it (24 * n + j))) (i + 1) by omega]
        have fn := F'.2 n nwn
        have fo := F'.1 (op n) (by omega)
        refine yy_wCont (by omega) (by omega) (ih (i + 1) mk' os' cs' cm' (by omega) ?_ ?_ ?_ ?_ ?_)
        · rw [fn.1]; exact e1
        · rw [fn.2.2, pk_us]
        · rw [fo]; exact e3
        · intro j hj q hq w
          by_cases ej : j = i
          · subst ej
            rw [em] at w
            exact D' q hq w
          · have D := e5 j (by omega) q hq w
            have clj := ly_cl Q hn k (i := j) (by omega)
            have opj := ly_ch Q hn k (i := j) (by omega)
            have inn := ly_in Q T hq w
            have sm := ly_sm (fun j => L (it (24 * n + j))) (i := j + 1) (j := i) (by omega)
            have e3j : ly_s (fun j => L (it (24 * n + j))) (j + 1) = ly_s (fun j => L (it (24 * n + j))) j + L (it (24 * n + j)) := rfl
            have nw : ¬ tr_w pa (q + 1) m := by
              intro w2
              have := pl_odd1 T hn hq ⟨j, by omega, k, w, rfl⟩ ⟨i, hi', k, by rw [em]; exact w2, rfl⟩
              omega
            have fq := F'.2 q nw
            exact rw_Ek Q T hq D (fun r h1 h2 => F'.1 r (by omega)) fq.1 fq.2.1
        · refine ⟨fun r hr => ?_, fun q w => ?_⟩
          · rw [F'.1 r (by omega)]
            exact F.1 r hr
          · have nw : ¬ tr_w pa (q + 1) m := fun w2 => w (tr_wt w2 (tr_wp pm (tr_wr _ _)))
            have nen : q ≠ n := by rintro rfl; exact w (tr_wr _ _)
            have fq := F'.2 q nw
            rw [fq.1, fq.2.1, fq.2.2, pk_un nen]
            exact F.2 q w
    refine yy_wOpen (by omega) (by omega) (by omega) ?_
    refine loop (sz n) 0 _ _ _ _ (by omega) pk_us pk_us pk_us (fun j hj => by omega) ⟨fun q hq => pk_un (by omega), fun m w => ?_⟩
    have ne : m ≠ n := by rintro rfl; exact w (tr_wr _ _)
    exact ⟨pk_un ne, rfl, pk_un ne⟩
  · have eL := Q.1 n hn k
    have eN := Q.2.2.2.2.2.1 n hn k
    refine yy_wOpen (by omega) (by omega) (by omega) ?_
    have hi : vp_in (nI n) 24 := vp_in_nI (by omega) (by omega)
    refine in_c hi (br_f (by rw [ar_nc _ (by omega), k]; decide) ⟨sz n + 1, ?_⟩)
    refine yy_w110 (a := op n + 1) (mk0 := upd mk0 (op n) (-1)) (by omega) (by omega) pr k s24 (by omega) ?_ (sz n) 0 (upd mk0 (op n) (-1)) (by omega) (fun j hj => by omega) (fun _ _ => rfl)
    intro mk h1 h2
    have := K (upd mk (op n + 1 + sz n) (-1)) (upd os0 n (nI (op n))) (upd cs0 n (nI (op n + 1 + sz n))) (upd cm0 n 0) ?_ ?_
    · rw [eN, show t + 2 * 1 - 1 = t + 1 by omega, show op n + L n = op n + 1 + sz n + 1 by omega] at this
      exact this
    · intro m hm w
      have := pl_wtx T hm k w
      subst this
      refine ⟨pk_us, ?_, ?_, ?_, ?_⟩
      · rw [pk_us]; congr 1; omega
      · rw [pk_un (by omega), h2 _ (by omega), pk_us]
      · rw [show op m + L m - 1 = op m + 1 + sz m by omega, pk_us]
      · intro _ i hi
        rw [pk_un (by omega)]
        exact h1 i hi
    · refine ⟨fun q hq => ?_, fun m w => ?_⟩
      · rw [pk_un (by omega), h2 q (by omega), pk_un (by omega)]
      · have ne : m ≠ n := by rintro rfl; exact w (tr_wr _ _)
        exact ⟨pk_un ne, pk_un ne, pk_un ne⟩
theorem yy_write {c : Nat} {kd pa sz it pn po : Nat → Nat} {ln : Int32} {mk os cs cm : Nat → Int32} {L op N : Nat → Nat} {post : SY → Prop} {r : Nat} (Q : ly_Q c kd pa sz it L op N) (T : tr_T c kd pa sz it) (hr : r < c) (pr : pa r = 0)
    (h : ∀ ln mk os cs cm, (∀ m, m < c → tr_w pa (m + 1) r → rw_E kd sz it L op mk os cs m) → post (nI c, ln, ar_n kd, ar_p pa, ar_n sz, ar_n it, ar_n pn, ar_n po, mk, os, cs, cm)) : wpY_write post (nI c, ln, ar_n kd, ar_p pa, ar_n sz, ar_n it, ar_n pn, ar_n po, mk, os, cs, cm) (nI r) := by
  have o0 := Q.2.2.1 r hr pr
  have l336 := Q.2.2.2.2.1 r hr
  have n24 := Q.2.2.2.2.2.2.2 r hr
  refine ⟨200, ?_⟩
  have := yy_wNode (ln := ln) (mk := mk) (os := os) (cs := cs) (cm := cm) (pn := pn) (po := po) (post := post) Q T hr pr r hr (by omega) 0 mk os cs cm (by omega) ?_
  · rw [o0] at this
    exact this
  · intro mk' os' cs' cm' D F
    rw [pr, show 200 - (0 + 2 * N r - 1) = 199 - (0 + 2 * N r - 1) + 1 by omega]
    exact br_f (nI_ge (b := 100) (by omega) (by omega)) (br_t (by decide) (h _ mk' os' cs' cm' D))
