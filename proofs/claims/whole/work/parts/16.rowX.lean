/-! X lays the row -/
def rw_D (kd sz it L op : Nat → Nat) (rl rn oa ca : Nat → Int32) (m : Nat) : Prop :=
  oa m = nI (op m) ∧ ca m = nI (op m + L m - 1) ∧ rl (op m) = -1 ∧ rn (op m) = nI m ∧ rl (op m + L m - 1) = -1 ∧ rn (op m + L m - 1) = -1 ∧ (kd m = 1 → ∀ i, i < sz m → rl (op m + 1 + i) = nI (it (24 * m + i)) ∧ rn (op m + 1 + i) = -1)
def rw_F (pa op : Nat → Nat) (n : Nat) (rl rn oa ca il rl' rn' oa' ca' il' : Nat → Int32) : Prop := (∀ k, k ≤ op n → rl' k = rl k ∧ rn' k = rn k) ∧ ∀ m, ¬ tr_w pa (m + 1) n → oa' m = oa m ∧ ca' m = ca m ∧ il' m = il m
section
variable {c : Nat} {kd pa sz it pn po : Nat → Nat} {sg eg : Int32} {rl rn oa ca il dm : Nat → Int32} {L op N : Nat → Nat}
theorem rw_Dk {rl' rn' oa' ca' : Nat → Int32} {m : Nat} (Q : ly_Q c kd pa sz it L op N) (T : tr_T c kd pa sz it) (hm : m < c) (D : rw_D kd sz it L op rl rn oa ca m) (h1 : ∀ k, op m ≤ k → k < op m + L m → rl' k = rl k ∧ rn' k = rn k) (h2 : oa' m = oa m) (h3 : ca' m = ca m) : rw_D kd sz it L op rl' rn' oa' ca' m := by
  have l2 := ly_L2 Q T hm
  obtain ⟨a, b, d, e, f, g, h⟩ := D
  have p1 := h1 (op m) (Nat.le_refl _) (by omega)
  have p2 := h1 (op m + L m - 1) (by omega) (by omega)
  refine ⟨h2.trans a, h3.trans b, p1.1.trans d, p1.2.trans e, p2.1.trans f, p2.2.trans g, fun k i hi => ?_⟩
  have p3 := h1 (op m + 1 + i) (by omega) (by rw [Q.1 m hm k]; omega)
  exact ⟨p3.1.trans (h k i hi).1, p3.2.trans (h k i hi).2⟩
theorem xx_layOpening {post : SX → Prop} {m a : Nat} (hm : m < 24) (ha : a < 336) (h : post (nI c, sg, eg, ar_n kd, ar_p pa, ar_n sz, ar_n it, ar_n pn, ar_n po, upd rl a (-1), upd rn a (nI m), upd oa m (nI a), ca, upd il m 0, dm)) : wpX_layOpening post (nI c, sg, eg, ar_n kd, ar_p pa, ar_n sz, ar_n it, ar_n pn, ar_n po, rl, rn, oa, ca, il, dm) (nI m) (nI a) := by
  refine in_c (vp_in_nI ha (by omega)) (nm_r (congrArg (fun j => upd rl j (-1)) (nI_clamp (by omega))) (in_c (vp_in_nI ha (by omega)) (nm_r (congrArg (fun j => upd rn j (nI m)) (nI_clamp (by omega))) (in_c (vp_in_nI hm (by omega)) (nm_r (congrArg (fun j => upd oa j (nI a)) (nI_clamp (by omega))) (in_c (vp_in_nI hm (by omega)) (nm_r (congrArg (fun j => upd il j 0) (nI_clamp (by omega))) h)))))))
theorem xx_layInside {post : SX → Prop} {a : Nat} {x : Int32} (ha : a < 336) (h : post (nI c, sg, eg, ar_n kd, ar_p pa, ar_n sz, ar_n it, ar_n pn, ar_n po, upd rl a x, upd rn a (-1), oa, ca, il, dm)) : wpX_layInside post (nI c, sg, eg, ar_n kd, ar_p pa, ar_n sz, ar_n it, ar_n pn, ar_n po, rl, rn, oa, ca, il, dm) x (nI a) := by
  refine in_c (vp_in_nI ha (by omega)) (nm_r (congrArg (fun j => upd rl j x) (nI_clamp (by omega))) (in_c (vp_in_nI ha (by omega)) (nm_r (congrArg (fun j => upd rn j (-1)) (nI_clamp (by omega))) h)))
theorem xx_lClose {post : SX → Prop} {n a : Nat} (hn : n < 24) (hs : sz n < 24) (ha : a < 336) (e : il n = nI (sz n)) (h : wX_layRow_10 post (340 - (a + 1)) (nI (pa n) - 1) (nI (a + 1)) (nI c) sg eg (ar_n kd) (ar_p pa) (ar_n sz) (ar_n it) (ar_n pn) (ar_n po) (upd rl a (-1)) (upd rn a (-1)) oa (upd ca n (nI a)) il dm) : wX_layRow_10 post (340 - a) (nI n) (nI a) (nI c) sg eg (ar_n kd) (ar_p pa) (ar_n sz) (ar_n it) (ar_n pn) (ar_n po) rl rn oa ca il dm := by
  have hi : vp_in (nI n) 24 := vp_in_nI hn (by omega)
  rw [show 340 - a = 340 - (a + 1) + 1 by omega]
  refine br_f (nI_ge (b := 336) ha (by omega)) (br_f (fun z => ?_) (in_c hi (nm_r (e' := nI (sz n)) ?_ (in_c hi (br_f ?_ ?_)))))
  · have := nI_pos (n := n) (by omega)
    rw [z] at this
    exact this (by decide)
  · rw [nI_clamp (by omega), e]
  · rw [ar_nc _ (by omega), nI_ltI (by omega) (by omega)]; omega
  · exact xx_layInside ha (in_c hi (nm_r (congrArg (fun j => upd ca j (nI a)) (nI_clamp (by omega))) (in_c hi (nm_r (ar_pc _ (by omega)) (nm_r (nI_1 a) h)))))
theorem xx_lLetter {post : SX → Prop} {n a i : Nat} (hn : n < 24) (k : kd n = 1) (hs : sz n < 24) (ha : a < 336) (e : il n = nI i) (hi' : i < sz n) (h : wX_layRow_10 post (340 - (a + 1)) (nI n) (nI (a + 1)) (nI c) sg eg (ar_n kd) (ar_p pa) (ar_n sz) (ar_n it) (ar_n pn) (ar_n po) (upd rl a (nI (it (24 * n + i)))) (upd rn a (-1)) oa ca (upd il n (nI (i + 1))) dm) : wX_layRow_10 post (340 - a) (nI n) (nI a) (nI c) sg eg (ar_n kd) (ar_p pa) (ar_n sz) (ar_n it) (ar_n pn) (ar_n po) rl rn oa ca il dm := by
  have hi : vp_in (nI n) 24 := vp_in_nI hn (by omega)
  rw [show 340 - a = 340 - (a + 1) + 1 by omega]
  refine br_f (nI_ge (b := 336) ha (by omega)) (br_f (fun z => ?_) (in_c hi (nm_r (e' := nI i) ?_ (in_c hi (br_t ?_ ?_)))))
  · have := nI_pos (n := n) (by omega)
    rw [z] at this
    exact this (by decide)
  · rw [nI_clamp (by omega), e]
  · rw [ar_nc _ (by omega), nI_ltI (by omega) (by omega)]; omega
  · rw [ix_x, nI_1 i]
    refine in_c (vp_in_nI (by omega) (by omega)) (nm_r (ar_nc _ (by omega)) (in_c hi (nm_r (congrArg (fun j => upd il j (nI (i + 1))) (nI_clamp (by omega))) (in_c hi (br_t (by rw [ar_nc _ (by omega), k]; rfl) ?_)))))
    exact xx_layInside ha (nm_r (nI_1 a) h)
theorem xx_lChild {post : SX → Prop} {n a i m : Nat} (hn : n < 24) (k : kd n = 0) (hs : sz n < 24) (ha : a < 336) (e : il n = nI i) (hi' : i < sz n) (em : it (24 * n + i) = m) (hm : m < 24) (h : wX_layRow_10 post (340 - (a + 1)) (nI m) (nI (a + 1)) (nI c) sg eg (ar_n kd) (ar_p pa) (ar_n sz) (ar_n it) (ar_n pn) (ar_n po) (upd rl a (-1)) (upd rn a (nI m)) (upd oa m (nI a)) ca (upd (upd il n (nI (i + 1))) m 0) dm) : wX_layRow_10 post (340 - a) (nI n) (nI a) (nI c) sg eg (ar_n kd) (ar_p pa) (ar_n sz) (ar_n it) (ar_n pn) (ar_n po) rl rn oa ca il dm := by
  have hi : vp_in (nI n) 24 := vp_in_nI hn (by omega)
  rw [show 340 - a = 340 - (a + 1) + 1 by omega]
  refine br_f (nI_ge (b := 336) ha (by omega)) (br_f (fun z => ?_) (in_c hi (nm_r (e' := nI i) ?_ (in_c hi (br_t ?_ ?_)))))
  · have := nI_pos (n := n) (by omega)
    rw [z] at this
    exact this (by decide)
  · rw [nI_clamp (by omega), e]
  · rw [ar_nc _ (by omega), nI_ltI (by omega) (by omega)]; omega
  · rw [ix_x, nI_1 i]
    refine in_c (vp_in_nI (by omega) (by omega)) (nm_r ((ar_nc _ (by omega)).trans (congrArg nI em)) (in_c hi (nm_r (congrArg (fun j => upd il j (nI (i + 1))) (nI_clamp (by omega))) (in_c hi (br_f (by rw [ar_nc _ (by omega), k]; decide) ?_)))))
    exact xx_layOpening hm ha (nm_r (nI_1 a) h)
end
/-- the text's letters, from the i-th on, then its closing -/
theorem xx_lText {c : Nat} {kd pa sz it pn po : Nat → Nat} {sg eg : Int32} {rl rn oa ca il dm : Nat → Int32} {L op N : Nat → Nat} {post : SX → Prop} {n : Nat} (Q : ly_Q c kd pa sz it L op N) (T : tr_T c kd pa sz it) (hn : n < c) (k : kd n = 1) (hb : op n + L n ≤ 336) {rl0 rn0 oa0 ca0 il0 : Nat → Int32}
    (K : ∀ rl rn oa ca il, (∀ m, m < c → tr_w pa (m + 1) n → rw_D kd sz it L op rl rn oa ca m) → rw_F pa op n rl0 rn0 oa0 ca0 il0 rl rn oa ca il → wX_layRow_10 post (340 - (op n + L n)) (nI (pa n) - 1) (nI (op n + L n)) (nI c) sg eg (ar_n kd) (ar_p pa) (ar_n sz) (ar_n it) (ar_n pn) (ar_n po) rl rn oa ca il dm) :
    ∀ d i rl rn oa ca il, i + d = sz n → oa n = nI (op n) → il n = nI i → rl (op n) = -1 → rn (op n) = nI n → (∀ j, j < i → rl (op n + 1 + j) = nI (it (24 * n + j)) ∧ rn (op n + 1 + j) = -1) → rw_F pa op n rl0 rn0 oa0 ca0 il0 rl rn oa ca il →
      wX_layRow_10 post (340 - (op n + 1 + i)) (nI n) (nI (op n + 1 + i)) (nI c) sg eg (ar_n kd) (ar_p pa) (ar_n sz) (ar_n it) (ar_n pn) (ar_n po) rl rn oa ca il dm := by
  have c24 := tr_c24 T
  have s24 := tr_s24 T hn
  have eL := Q.1 n hn k
  have only : ∀ m, m < c → tr_w pa (m + 1) n → m = n := fun m hm w => pl_wtx T hm k w
  intro d
  induction d with
  | zero =>
    intro i rl rn oa ca il hi e1 e2 e3 e4 e5 F
    have ei : i = sz n := by omega
    subst ei
    refine xx_lClose (by omega) s24 (by omega) e2 ?_
    rw [show op n + 1 + sz n + 1 = op n + L n by omega]
    refine K _ _ _ _ _ ?_ ?_
    · intro m hm w
      have := only m hm w
      subst this
      refine ⟨e1, ?_, ?_, ?_, ?_, ?_, ?_⟩
      · rw [pk_us]; congr 1; omega
      · rw [pk_un (by omega)]; exact e3
      · rw [pk_un (by omega)]; exact e4
      · rw [show op m + L m - 1 = op m + 1 + sz m by omega, pk_us]
      · rw [show op m + L m - 1 = op m + 1 + sz m by omega, pk_us]
      · intro _ i hi
        rw [pk_un (by omega), pk_un (by omega)]
        exact e5 i (by omega)
    · refine ⟨fun q hq => ?_, fun m w => ?_⟩
      · rw [pk_un (by omega), pk_un (by omega)]; exact F.1 q hq
      · have ne : m ≠ n := by rintro rfl; exact w (tr_wr _ _)
        rw [pk_un ne]
        exact F.2 m w
  | succ d ih =>
    intro i rl rn oa ca il hi e1 e2 e3 e4 e5 F
    refine xx_lLetter (by omega) k s24 (by omega) e2 (by omega) ?_
    rw [show op n + 1 + i + 1 = op n + 1 + (i + 1) by omega]
    refine ih (i + 1) _ _ _ _ _ (by omega) e1 (by rw [pk_us]) (by rw [pk_un (by omega)]; exact e3) (by rw [pk_un (by omega)]; exact e4) ?_ ?_
    · intro j hj
      by_cases e : j = i
      · subst e; rw [pk_us, pk_us]; exact ⟨rfl, rfl⟩
      · rw [pk_un (by omega), pk_un (by omega)]; exact e5 j (by omega)
    · refine ⟨fun q hq => ?_, fun m w => ?_⟩
      · rw [pk_un (by omega), pk_un (by omega)]; exact F.1 q hq
      · have ne : m ≠ n := by rintro rfl; exact w (tr_wr _ _)
        rw [pk_un ne]
        exact F.2 m w
/-- a node's whole row -/
theorem xx_lNode {c : Nat} {kd pa sz it pn po : Nat → Nat} {sg eg : Int32} {rl rn oa ca il dm : Nat → Int32} {L op N : Nat → Nat} {post : SX → Prop} (Q : ly_Q c kd pa sz it L op N) (T : tr_T c kd pa sz it) :
    ∀ n, n < c → op n + L n ≤ 336 → ∀ rl rn oa ca il, oa n = nI (op n) → il n = 0 → rl (op n) = -1 → rn (op n) = nI n →
      (∀ rl' rn' oa' ca' il', (∀ m, m < c → tr_w pa (m + 1) n → rw_D kd sz it L op rl' rn' oa' ca' m) → rw_F pa op n rl rn oa ca il rl' rn' oa' ca' il' → wX_layRow_10 post (340 - (op n + L n)) (nI (pa n) - 1) (nI (op n + L n)) (nI c) sg eg (ar_n kd) (ar_p pa) (ar_n sz) (ar_n it) (ar_n pn) (ar_n po) rl' rn' oa' ca' il' dm) →
      wX_layRow_10 post (340 - (op n + 1)) (nI n) (nI (op n + 1)) (nI c) sg eg (ar_n kd) (ar_p pa) (ar_n sz) (ar_n it) (ar_n pn) (ar_n po) rl rn oa ca il dm := by
  have c24 := tr_c24 T
  refine tr_hi T ?_
  intro n hn IH hb rl0 rn0 oa0 ca0 il0 e1 e2 e3 e4 K
  have s24 := tr_s24 T hn
  rcases tr_k1 T hn with k | k
  · have eL := Q.2.1 n hn k
    have IH := IH k
    have loop : ∀ d i rl rn oa ca il, i + d = sz n → oa n = nI (op n) → il n = nI i → rl (op n) = -1 → rn (op n) = nI n → (∀ j, j < i → ∀ m, m < c → tr_w pa (m + 1) (it (24 * n + j)) → rw_D kd sz it L op rl rn oa ca m) → rw_F pa op n rl0 rn0 oa0 ca0 il0 rl rn oa ca il →
        wX_layRow_10 post (340 - (op n + 1 + ly_s (fun j => L (it (24 * n + j))) i)) (nI n) (nI (op n + 1 + ly_s (fun j => L (it (24 * n + j))) i)) (nI c) sg eg (ar_n kd) (ar_p pa) (ar_n sz) (ar_n it) (ar_n pn) (ar_n po) rl rn oa ca il dm := by
      intro d
      induction d with
      | zero =>
        intro i rl rn oa ca il hi e1 e2 e3 e4 e5 F
        have ei : i = sz n := by omega
        subst ei
        refine xx_lClose (by omega) s24 (by omega) e2 ?_
        rw [show op n + 1 + ly_s (fun j => L (it (24 * n + j))) (sz n) + 1 = op n + L n by omega]
        refine K _ _ _ _ _ ?_ ?_
        · intro m hm w
          rcases tr_wl w with z | ⟨q, z, g⟩
          · have : m = n := by omega
            subst this
            refine ⟨e1, ?_, ?_, ?_, ?_, ?_, ?_⟩
            · rw [pk_us]; congr 1; omega
            · rw [pk_un (by omega)]; exact e3
            · rw [pk_un (by omega)]; exact e4
            · rw [show op m + L m - 1 = op m + 1 + ly_s (fun j => L (it (24 * m + j))) (sz m) by omega, pk_us]
            · rw [show op m + L m - 1 = op m + 1 + ly_s (fun j => L (it (24 * m + j))) (sz m) by omega, pk_us]
            · intro k1; omega
          · have hq := tr_lt T hm g
            obtain ⟨_, _, j, hj, he⟩ := tr_pe T hq z
            have D := e5 j hj m hm (by rw [he]; exact g)
            have cl := ly_cl Q hn k hj
            rw [he] at cl
            have inn := ly_in Q T hm g
            have ne : m ≠ n := by
              rintro rfl
              exact tr_ac T hq z g
            exact rw_Dk Q T hm D (fun r h1 h2 => ⟨pk_un (by omega), pk_un (by omega)⟩) rfl (pk_un ne)
        · refine ⟨fun q hq => ?_, fun m w => ?_⟩
          · rw [pk_un (by omega), pk_un (by omega)]; exact F.1 q hq
          · have ne : m ≠ n := by rintro rfl; exact w (tr_wr _ _)
            rw [pk_un ne]
            exact F.2 m w
      | succ d ih =>
        intro i rl rn oa ca il hi e1 e2 e3 e4 e5 F
        have hi' : i < sz n := by omega
        have ch := tr_ch T hn k hi'
        have opc := ly_ch Q hn k hi'
        have cl := ly_cl Q hn k hi'
        have step := IH i hi'
        generalize em : it (24 * n + i) = m at ch opc cl step
        obtain ⟨hm, pm⟩ := ch
        have nem : n ≠ m := by rintro rfl; exact tr_ac T hm pm (tr_wr _ _)
        have nwn : ¬ tr_w pa (n + 1) m := tr_ac T hm pm
        refine xx_lChild (by omega) k s24 (by omega) e2 hi' em (by omega) ?_
        rw [← opc]
        refine step (by omega) _ _ _ _ _ (pk_us) (pk_us) (pk_us) (pk_us) ?_
        intro rl' rn' oa' ca' il' D' F'
        rw [pm, nI_pred]
        have e3s : ly_s (fun j => L (it (24 * n + j))) (i + 1) = ly_s (fun j => L (it (24 * n + j))) i + L (it (24 * n + i)) := rfl
        rw [show op m + L m = op n + 1 + ly_s (fun j => L (it (24 * n + j))) (i + 1) by rw [e3s, em]; omega]
        have fn := F'.2 n nwn
        have fo := F'.1 (op n) (by omega)
        refine ih (i + 1) rl' rn' oa' ca' il' (by omega) ?_ ?_ ?_ ?_ ?_ ?_
        · rw [fn.1, pk_un nem]; exact e1
        · rw [fn.2.2, pk_un nem, pk_us]
        · rw [fo.1, pk_un (by omega)]; exact e3
        · rw [fo.2, pk_un (by omega)]; exact e4
        · intro j hj q hq w
          by_cases ej : j = i
          · subst ej
            rw [em] at w
            exact D' q hq w
          · have D := e5 j (by omega) q hq w
            have clj := ly_cl Q hn k (i := j) (by omega)
            have opj := ly_ch Q hn k (i := j) (by omega)
            have inn := ly_in Q T hq w
            have sm := ly_sm (fun j => L (it (24 * n + j))) (i := j + 1) (j := i) (by omega)
            have e3j : ly_s (fun j => L (it (24 * n + j))) (j + 1) = ly_s (fun j => L (it (24 * n + j))) j + L (it (24 * n + j)) := rfl
            have nw : ¬ tr_w pa (q + 1) m := by
              intro w2
              have := pl_odd1 T hn hq ⟨j, by omega, k, w, rfl⟩ ⟨i, hi', k, by rw [em]; exact w2, rfl⟩
              omega
            have neq : q ≠ m := by rintro rfl; exact nw (tr_wr _ _)
            have fq := F'.2 q nw
            refine rw_Dk Q T hq D (fun r h1 h2 => ?_) ?_ ?_
            · have fr := F'.1 r (by omega)
              rw [fr.1, fr.2, pk_un (by omega), pk_un (by omega)]
              exact ⟨rfl, rfl⟩
            · rw [fq.1, pk_un neq]
            · rw [fq.2.1]
        · refine ⟨fun r hr => ?_, fun q w => ?_⟩
          · have fr := F'.1 r (by omega)
            rw [fr.1, fr.2, pk_un (by omega), pk_un (by omega)]
            exact F.1 r hr
          · have nw : ¬ tr_w pa (q + 1) m := fun w2 => w (tr_wt w2 (tr_wp pm (tr_wr _ _)))
            have neq : q ≠ m := by rintro rfl; exact nw (tr_wr _ _)
            have nen : q ≠ n := by rintro rfl; exact w (tr_wr _ _)
            have fq := F'.2 q nw
            rw [fq.1, fq.2.1, fq.2.2, pk_un neq, pk_un neq, pk_un nen]
            exact F.2 q w
    exact loop (sz n) 0 rl0 rn0 oa0 ca0 il0 (by omega) e1 e2 e3 e4 (fun j hj => by omega) ⟨fun _ _ => ⟨rfl, rfl⟩, fun _ _ => ⟨rfl, rfl, rfl⟩⟩
  · have := xx_lText (rl := rl0) (rn := rn0) (oa := oa0) (ca := ca0) (il := il0) Q T hn k hb K (sz n) 0 rl0 rn0 oa0 ca0 il0 (by omega) e1 e2 e3 e4 (fun j hj => by omega) ⟨fun _ _ => ⟨rfl, rfl⟩, fun _ _ => ⟨rfl, rfl, rfl⟩⟩
    exact this
/-- the row of a tree -/
theorem xx_layRow {c : Nat} {kd pa sz it pn po : Nat → Nat} {sg eg : Int32} {rl rn oa ca il dm : Nat → Int32} {L op N : Nat → Nat} {post : SX → Prop} {r : Nat} (Q : ly_Q c kd pa sz it L op N) (T : tr_T c kd pa sz it) (hr : r < c) (pr : pa r = 0)
    (h : ∀ rl rn oa ca il, (∀ m, m < c → tr_w pa (m + 1) r → rw_D kd sz it L op rl rn oa ca m) → post (nI c, sg, eg, ar_n kd, ar_p pa, ar_n sz, ar_n it, ar_n pn, ar_n po, rl, rn, oa, ca, il, dm)) : wpX_layRow post (nI c, sg, eg, ar_n kd, ar_p pa, ar_n sz, ar_n it, ar_n pn, ar_n po, rl, rn, oa, ca, il, dm) (nI r) := by
  have c24 := tr_c24 T
  have o0 := Q.2.2.1 r hr pr
  have l336 := Q.2.2.2.2.1 r hr
  have l2 := ly_L2 Q T hr
  unfold wpX_layRow
  dsimp only
  refine xx_layOpening (a := 0) (by omega) (by omega) ⟨339, ?_⟩
  have := xx_lNode (rl := rl) (rn := rn) (oa := oa) (ca := ca) (il := il) (pn := pn) (po := po) (sg := sg) (eg := eg) (dm := dm) (post := post) Q T r hr (by omega) (upd rl 0 (-1)) (upd rn 0 (nI r)) (upd oa r (nI 0)) ca (upd il r 0) (by rw [pk_us, o0]) pk_us (by rw [o0, pk_us]) (by rw [o0, pk_us]) ?_
  · rw [o0] at this
    exact this
  · intro rl' rn' oa' ca' il' D F
    have hp := h rl' rn' oa' ca' il' D
    rw [o0, pr, show 340 - (0 + L r) = 339 - L r + 1 by omega]
    by_cases z : 336 ≤ 0 + L r
    · exact br_t (nI_le (a := 336) z (by omega)) hp
    · exact br_f (nI_ge (b := 336) (by omega) (by omega)) (br_t (by decide) hp)
