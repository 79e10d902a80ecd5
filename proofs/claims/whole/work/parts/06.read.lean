/-! the walks that only read: X and Y -/
theorem nd_cases (c : Nat) (x : Int32) : (∃ n, n < c ∧ x = nI n) ∨ ∀ n, n < c → x ≠ nI n := by
  by_cases h : ∃ n, n < c ∧ x = nI n
  · exact Or.inl h
  · exact Or.inr fun n hn e => h ⟨n, hn, e⟩
theorem nd_f {c : Nat} {x : Int32} (hc : c ≤ 24) (h : ∀ n, n < c → x ≠ nI n) : x < 0 ∨ (¬ x < 0 ∧ nI c ≤ x) := by
  by_cases z : x < 0
  · exact Or.inl z
  · obtain ⟨j, hj, rfl⟩ := nI_of z
    refine Or.inr ⟨z, nI_le ?_ hj⟩
    apply Classical.byContradiction
    intro q
    exact h j (by omega) rfl
theorem xx_isNode_t {c : Nat} {kd pa sz it pn po : Nat → Nat} {sg eg : Int32} {rl rn oa ca il dm : Nat → Int32} {post : Int32 → Prop} {n : Nat} (hc : c ≤ 24) (h : n < c) (hp : post 1) : wpX_isNode post (nI c, sg, eg, ar_n kd, ar_p pa, ar_n sz, ar_n it, ar_n pn, ar_n po, rl, rn, oa, ca, il, dm) (nI n) :=
  br_f (nI_pos (by omega)) (br_f (nI_ge h (by omega)) hp)
theorem xx_isNode_f {c : Nat} {kd pa sz it pn po : Nat → Nat} {sg eg : Int32} {rl rn oa ca il dm : Nat → Int32} {post : Int32 → Prop} {x : Int32} (hc : c ≤ 24) (h : ∀ n, n < c → x ≠ nI n) (hp : post 0) : wpX_isNode post (nI c, sg, eg, ar_n kd, ar_p pa, ar_n sz, ar_n it, ar_n pn, ar_n po, rl, rn, oa, ca, il, dm) x := by
  rcases nd_f hc h with z | ⟨z, z2⟩
  · exact br_t z hp
  · exact br_f z (br_t z2 hp)
theorem yy_isNode_t {c : Nat} {kd pa sz it pn po : Nat → Nat} {ln : Int32} {mk os cs cm : Nat → Int32} {post : Int32 → Prop} {n : Nat} (hc : c ≤ 24) (h : n < c) (hp : post 1) : wpY_isNode post (nI c, ln, ar_n kd, ar_p pa, ar_n sz, ar_n it, ar_n pn, ar_n po, mk, os, cs, cm) (nI n) :=
  br_f (nI_pos (by omega)) (br_f (nI_ge h (by omega)) hp)
theorem yy_isNode_f {c : Nat} {kd pa sz it pn po : Nat → Nat} {ln : Int32} {mk os cs cm : Nat → Int32} {post : Int32 → Prop} {x : Int32} (hc : c ≤ 24) (h : ∀ n, n < c → x ≠ nI n) (hp : post 0) : wpY_isNode post (nI c, ln, ar_n kd, ar_p pa, ar_n sz, ar_n it, ar_n pn, ar_n po, mk, os, cs, cm) x := by
  rcases nd_f hc h with z | ⟨z, z2⟩
  · exact br_t z hp
  · exact br_f z (br_t z2 hp)
theorem xx_isOfKind_t {c : Nat} {kd pa sz it pn po : Nat → Nat} {sg eg : Int32} {rl rn oa ca il dm : Nat → Int32} {post : Int32 → Prop} {n k : Nat} (hc : c ≤ 24) (h : n < c) (e : kd n = k) (hp : post 1) : wpX_isOfKind post (nI c, sg, eg, ar_n kd, ar_p pa, ar_n sz, ar_n it, ar_n pn, ar_n po, rl, rn, oa, ca, il, dm) (nI n) (nI k) := by
  unfold wpX_isOfKind; dsimp only; exact
  xx_isNode_t hc h (br_f (by decide) (in_c (vp_in_nI (by omega) (by omega)) (br_t (by rw [ar_nc kd (by omega), e]) hp)))
theorem xx_isOfKind_k {c : Nat} {kd pa sz it pn po : Nat → Nat} {sg eg : Int32} {rl rn oa ca il dm : Nat → Int32} {post : Int32 → Prop} {n k : Nat} (hc : c ≤ 24) (h : n < c) (hk : kd n < 2) (hk2 : k < 2) (e : kd n ≠ k) (hp : post 0) : wpX_isOfKind post (nI c, sg, eg, ar_n kd, ar_p pa, ar_n sz, ar_n it, ar_n pn, ar_n po, rl, rn, oa, ca, il, dm) (nI n) (nI k) := by
  unfold wpX_isOfKind; dsimp only; exact
  xx_isNode_t hc h (br_f (by decide) (in_c (vp_in_nI (by omega) (by omega)) (br_f (by rw [ar_nc kd (by omega), nI_eq (by omega) (by omega)]; exact e) hp)))
theorem xx_isOfKind_f {c : Nat} {kd pa sz it pn po : Nat → Nat} {sg eg : Int32} {rl rn oa ca il dm : Nat → Int32} {post : Int32 → Prop} {x y : Int32} (hc : c ≤ 24) (h : ∀ n, n < c → x ≠ nI n) (hp : post 0) : wpX_isOfKind post (nI c, sg, eg, ar_n kd, ar_p pa, ar_n sz, ar_n it, ar_n pn, ar_n po, rl, rn, oa, ca, il, dm) x y := by
  unfold wpX_isOfKind; dsimp only; exact
  xx_isNode_f hc h (br_t rfl hp)
theorem yy_isTextNode_t {c : Nat} {kd pa sz it pn po : Nat → Nat} {ln : Int32} {mk os cs cm : Nat → Int32} {post : Int32 → Prop} {n : Nat} (hc : c ≤ 24) (h : n < c) (e : kd n = 1) (hp : post 1) : wpY_isTextNode post (nI c, ln, ar_n kd, ar_p pa, ar_n sz, ar_n it, ar_n pn, ar_n po, mk, os, cs, cm) (nI n) := by
  unfold wpY_isTextNode; dsimp only; exact
  yy_isNode_t hc h (br_f (by decide) (in_c (vp_in_nI (by omega) (by omega)) (br_f (by rw [ar_nc kd (by omega), e]; decide) hp)))
theorem yy_isTextNode_k {c : Nat} {kd pa sz it pn po : Nat → Nat} {ln : Int32} {mk os cs cm : Nat → Int32} {post : Int32 → Prop} {n : Nat} (hc : c ≤ 24) (h : n < c) (e : kd n = 0) (hp : post 0) : wpY_isTextNode post (nI c, ln, ar_n kd, ar_p pa, ar_n sz, ar_n it, ar_n pn, ar_n po, mk, os, cs, cm) (nI n) := by
  unfold wpY_isTextNode; dsimp only; exact
  yy_isNode_t hc h (br_f (by decide) (in_c (vp_in_nI (by omega) (by omega)) (br_t (by rw [ar_nc kd (by omega), e]; decide) hp)))
theorem yy_isTextNode_f {c : Nat} {kd pa sz it pn po : Nat → Nat} {ln : Int32} {mk os cs cm : Nat → Int32} {post : Int32 → Prop} {x : Int32} (hc : c ≤ 24) (h : ∀ n, n < c → x ≠ nI n) (hp : post 0) : wpY_isTextNode post (nI c, ln, ar_n kd, ar_p pa, ar_n sz, ar_n it, ar_n pn, ar_n po, mk, os, cs, cm) x := by
  unfold wpY_isTextNode; dsimp only; exact
  yy_isNode_f hc h (br_t rfl hp)
/-! ranges -/
theorem rg_f {x : Int32} (h : ∀ n, n < 4 → x ≠ nI n) : x < 0 ∨ (¬ x < 0 ∧ 4 ≤ x ∧ 3 < x) := by
  rcases nd_f (c := 4) (by omega) h with z | ⟨z, z2⟩
  · exact Or.inl z
  · obtain ⟨j, hj, rfl⟩ := nI_of z
    rw [nI_leI (by omega) hj] at z2
    exact Or.inr ⟨z, nI_le (a := 4) z2 hj, nI_lt (a := 3) (by omega) hj⟩
theorem xx_isRange_t {c : Nat} {kd pa sz it pn po : Nat → Nat} {sg eg : Int32} {rl rn oa ca il dm : Nat → Int32} {post : Int32 → Prop} {r : Nat} (h : r < 4) (hp : post 1) : wpX_isRange post (nI c, sg, eg, ar_n kd, ar_p pa, ar_n sz, ar_n it, ar_n pn, ar_n po, rl, rn, oa, ca, il, dm) (nI r) :=
  br_f (nI_pos (by omega)) (br_f (nI_ge (b := 4) h (by omega)) hp)
theorem xx_isRange_f {c : Nat} {kd pa sz it pn po : Nat → Nat} {sg eg : Int32} {rl rn oa ca il dm : Nat → Int32} {post : Int32 → Prop} {x : Int32} (h : ∀ n, n < 4 → x ≠ nI n) (hp : post 0) : wpX_isRange post (nI c, sg, eg, ar_n kd, ar_p pa, ar_n sz, ar_n it, ar_n pn, ar_n po, rl, rn, oa, ca, il, dm) x := by
  rcases rg_f h with z | ⟨z, z2, _⟩
  · exact br_t z hp
  · exact br_f z (br_t z2 hp)
theorem yy_isRange_t {c : Nat} {kd pa sz it pn po : Nat → Nat} {ln : Int32} {mk os cs cm : Nat → Int32} {post : Int32 → Prop} {r : Nat} (h : r < 4) (hp : post 1) : wpY_isRange post (nI c, ln, ar_n kd, ar_p pa, ar_n sz, ar_n it, ar_n pn, ar_n po, mk, os, cs, cm) (nI r) :=
  br_f (nI_pos (by omega)) (br_f (nI_nlt (b := r) (a := 3) (by omega) (by omega)) hp)
theorem yy_isRange_f {c : Nat} {kd pa sz it pn po : Nat → Nat} {ln : Int32} {mk os cs cm : Nat → Int32} {post : Int32 → Prop} {x : Int32} (h : ∀ n, n < 4 → x ≠ nI n) (hp : post 0) : wpY_isRange post (nI c, ln, ar_n kd, ar_p pa, ar_n sz, ar_n it, ar_n pn, ar_n po, mk, os, cs, cm) x := by
  rcases rg_f h with z | ⟨z, _, z2⟩
  · exact br_t z hp
  · exact br_f z (br_t z2 hp)
theorem wh_f {x : Int32} (h : ∀ n, n < 2 → x ≠ nI n) : ¬ x = 0 ∧ ¬ x = 1 := ⟨h 0 (by omega), h 1 (by omega)⟩
theorem xx_isWhich_t {c : Nat} {kd pa sz it pn po : Nat → Nat} {sg eg : Int32} {rl rn oa ca il dm : Nat → Int32} {post : Int32 → Prop} {r : Nat} (h : r < 2) (hp : post 1) : wpX_isWhich post (nI c, sg, eg, ar_n kd, ar_p pa, ar_n sz, ar_n it, ar_n pn, ar_n po, rl, rn, oa, ca, il, dm) (nI r) := by
  match r, h with
  | 0, _ => exact br_t rfl hp
  | 1, _ => exact br_f (by decide) (br_t rfl hp)
theorem xx_isWhich_f {c : Nat} {kd pa sz it pn po : Nat → Nat} {sg eg : Int32} {rl rn oa ca il dm : Nat → Int32} {post : Int32 → Prop} {x : Int32} (h : ∀ n, n < 2 → x ≠ nI n) (hp : post 0) : wpX_isWhich post (nI c, sg, eg, ar_n kd, ar_p pa, ar_n sz, ar_n it, ar_n pn, ar_n po, rl, rn, oa, ca, il, dm) x :=
  br_f (wh_f h).1 (br_f (wh_f h).2 hp)
theorem yy_isPlace_t {c : Nat} {kd pa sz it pn po : Nat → Nat} {ln : Int32} {mk os cs cm : Nat → Int32} {post : Int32 → Prop} {q r : Nat} (hq : q < 4) (h : r < 2) (hp : post 1) : wpY_isPlace post (nI c, ln, ar_n kd, ar_p pa, ar_n sz, ar_n it, ar_n pn, ar_n po, mk, os, cs, cm) (nI q) (nI r) := by
  unfold wpY_isPlace; dsimp only
  refine yy_isRange_t hq (br_f (by decide) ?_)
  match r, h with
  | 0, _ => exact br_t rfl hp
  | 1, _ => exact br_f (by decide) (br_t rfl hp)
theorem yy_isPlace_f1 {c : Nat} {kd pa sz it pn po : Nat → Nat} {ln : Int32} {mk os cs cm : Nat → Int32} {post : Int32 → Prop} {x y : Int32} (h : ∀ n, n < 4 → x ≠ nI n) (hp : post 0) : wpY_isPlace post (nI c, ln, ar_n kd, ar_p pa, ar_n sz, ar_n it, ar_n pn, ar_n po, mk, os, cs, cm) x y := by
  unfold wpY_isPlace; dsimp only; exact
  yy_isRange_f h (br_t rfl hp)
theorem yy_isPlace_f2 {c : Nat} {kd pa sz it pn po : Nat → Nat} {ln : Int32} {mk os cs cm : Nat → Int32} {post : Int32 → Prop} {q : Nat} {y : Int32} (hq : q < 4) (h : ∀ n, n < 2 → y ≠ nI n) (hp : post 0) : wpY_isPlace post (nI c, ln, ar_n kd, ar_p pa, ar_n sz, ar_n it, ar_n pn, ar_n po, mk, os, cs, cm) (nI q) y := by
  unfold wpY_isPlace; dsimp only; exact
  yy_isRange_t hq (br_f (by decide) (br_f (wh_f h).1 (br_f (wh_f h).2 hp)))
/-! ways up -/
theorem xx_isW {c : Nat} {kd pa sz it pn po : Nat → Nat} {sg eg : Int32} {rl rn oa ca il dm : Nat → Int32} {post : Int32 → Prop} {m : Nat} (hm : m < 24) : ∀ d k x, k + d = 24 → tr_c pa d x = 0 → (∀ j, tr_c pa j x ≤ 24) → (tr_w pa x m → post 1) → (¬ tr_w pa x m → post 0) → wX_isWithin_5 post (nI m) (nI c) sg eg (ar_n kd) (ar_p pa) (ar_n sz) (ar_n it) (ar_n pn) (ar_n po) rl rn oa ca il dm (d + 1) (nI x - 1) (nI k) := by
  intro d
  induction d with
  | zero =>
    intro k x hk h0 _ _ f
    have e : x = 0 := h0
    subst e
    exact br_t (nI_le (a := 24) (by omega) (by omega)) (f tr_w0)
  | succ d ih =>
    intro k x hk h0 hb t f
    refine br_f (nI_ge (b := 24) (by omega) (by omega)) ?_
    cases x with
    | zero => exact br_t (by decide) (f tr_w0)
    | succ v =>
      have hv : v + 1 ≤ 24 := hb 0
      refine br_f (by rw [ar_no (by omega)]; omega) ?_
      rw [nI_pred]
      by_cases e : v = m
      · subst e; exact br_t rfl (t (tr_wr _ _))
      · refine br_f (by rw [nI_eq (by omega) (by omega)]; exact e) (in_c (vp_in_nI (by omega) (by omega)) (nm_r (ar_pc pa (by omega)) (nm_r (nI_1 k) ?_)))
        refine ih (k + 1) (pa v) (by omega) h0 (fun j => hb (j + 1)) (fun z => t (tr_ws z)) (fun z => f fun y => ?_)
        rcases tr_wc y with y | y
        · exact e y
        · exact z y
theorem xx_isWithin {c : Nat} {kd pa sz it pn po : Nat → Nat} {sg eg : Int32} {rl rn oa ca il dm : Nat → Int32} {post : Int32 → Prop} {n m : Nat} (T : tr_T c kd pa sz it) (hn : n < c) (hm : m < c) (t : tr_w pa (n + 1) m → post 1) (f : ¬ tr_w pa (n + 1) m → post 0) : wpX_isWithin post (nI c, sg, eg, ar_n kd, ar_p pa, ar_n sz, ar_n it, ar_n pn, ar_n po, rl, rn, oa, ca, il, dm) (nI n) (nI m) := by
  have c24 := tr_c24 T
  refine ⟨25, ?_⟩
  have := xx_isW (by omega : m < 24) 24 0 (n + 1) rfl (tr_dp T hn) (fun j => Nat.le_trans (tr_cle T hn j) c24) t f (c := c) (kd := kd) (sz := sz) (it := it) (pn := pn) (po := po) (sg := sg) (eg := eg) (rl := rl) (rn := rn) (oa := oa) (ca := ca) (il := il) (dm := dm)
  rw [nI_pred] at this
  exact this
theorem yy_isB {c : Nat} {kd pa sz it pn po : Nat → Nat} {ln : Int32} {mk os cs cm : Nat → Int32} {post : Int32 → Prop} {m : Nat} (hm : m < 24) : ∀ d k x, k + d = 24 → tr_c pa d x = 0 → (∀ j, tr_c pa j x ≤ 24) → (tr_w pa x m → post 1) → (¬ tr_w pa x m → post 0) → wY_isBelow_10 post (nI m) (nI c) ln (ar_n kd) (ar_p pa) (ar_n sz) (ar_n it) (ar_n pn) (ar_n po) mk os cs cm (d + 1) (nI x - 1) (nI k) := by
  intro d
  induction d with
  | zero =>
    intro k x hk h0 _ _ f
    have e : x = 0 := h0
    subst e
    exact br_t (nI_le (a := 24) (by omega) (by omega)) (f tr_w0)
  | succ d ih =>
    intro k x hk h0 hb t f
    refine br_f (nI_ge (b := 24) (by omega) (by omega)) ?_
    cases x with
    | zero => exact br_t (by decide) (f tr_w0)
    | succ v =>
      have hv : v + 1 ≤ 24 := hb 0
      refine br_f (by rw [ar_neg (by omega)]; omega) ?_
      rw [nI_pred]
      by_cases e : v = m
      · subst e; exact br_t rfl (t (tr_wr _ _))
      · refine br_f (by rw [nI_eq (by omega) (by omega)]; exact e) (in_c (vp_in_nI (by omega) (by omega)) (nm_r (ar_pc pa (by omega)) (nm_r (nI_1 k) ?_)))
        refine ih (k + 1) (pa v) (by omega) h0 (fun j => hb (j + 1)) (fun z => t (tr_ws z)) (fun z => f fun y => ?_)
        rcases tr_wc y with y | y
        · exact e y
        · exact z y
/-- 'below' is 'within the parent' -/
theorem yy_isBelow {c : Nat} {kd pa sz it pn po : Nat → Nat} {ln : Int32} {mk os cs cm : Nat → Int32} {post : Int32 → Prop} {n m : Nat} (T : tr_T c kd pa sz it) (hn : n < c) (hm : m < c) (t : tr_w pa (pa n) m → post 1) (f : ¬ tr_w pa (pa n) m → post 0) : wpY_isBelow post (nI c, ln, ar_n kd, ar_p pa, ar_n sz, ar_n it, ar_n pn, ar_n po, mk, os, cs, cm) (nI n) (nI m) := by
  have c24 := tr_c24 T
  refine in_c (vp_in_nI (by omega) (by omega)) (nm_r (ar_pc pa (by omega)) ⟨25, ?_⟩)
  refine yy_isB (by omega : m < 24) 24 0 (pa n) rfl ?_ (fun j => Nat.le_trans (tr_cle T hn (j + 1)) c24) t f
  have : tr_c pa 25 (n + 1) = 0 := by rw [tr_cs, tr_dp T hn]; rfl
  exact this
theorem xx_top {c : Nat} {kd pa sz it pn po : Nat → Nat} {sg eg : Int32} {rl rn oa ca il dm : Nat → Int32} {post : Int32 → Prop} {r : Nat} (T : tr_T c kd pa sz it) (hr : pa r = 0) (hp : post (nI r)) : ∀ d k v, k + d = 24 → v < c → tr_c pa d (v + 1) = 0 → tr_w pa (v + 1) r → wX_topOf_4 post (nI c) sg eg (ar_n kd) (ar_p pa) (ar_n sz) (ar_n it) (ar_n pn) (ar_n po) rl rn oa ca il dm (d + 1) (nI v) (nI k) := by
  intro d
  have c24 := tr_c24 T
  induction d with
  | zero =>
    intro k v hk _ h0 _
    exact absurd h0 (by show v + 1 ≠ 0; omega)
  | succ d ih =>
    intro k v hk hv h0 w
    refine br_f (nI_ge (b := 24) (by omega) (by omega)) (in_c (vp_in_nI (by omega) (by omega)) ?_)
    cases e : pa v with
    | zero =>
      rcases tr_wc w with q | q
      · subst q; exact br_t (by rw [ar_pc pa (by omega), e]; decide) hp
      · rw [e] at q; exact absurd q tr_w0
    | succ p =>
      have hp' := (tr_pe T hv e).1
      refine br_f (by rw [ar_pc pa (by omega), e, ar_no (by omega)]; omega) (in_c (vp_in_nI (by omega) (by omega)) (nm_r ((ar_pc pa (by omega)).trans (by rw [e, nI_pred])) (nm_r (nI_1 k) ?_)))
      refine ih (k + 1) p (by omega) hp' (by rw [← e]; exact h0) ?_
      rcases tr_wc w with q | q
      · subst q; omega
      · rw [e] at q; exact q
theorem xx_topOf {c : Nat} {kd pa sz it pn po : Nat → Nat} {sg eg : Int32} {rl rn oa ca il dm : Nat → Int32} {post : Int32 → Prop} {n r : Nat} (T : tr_T c kd pa sz it) (hn : n < c) (hr : pa r = 0) (w : tr_w pa (n + 1) r) (hp : post (nI r)) : wpX_topOf post (nI c, sg, eg, ar_n kd, ar_p pa, ar_n sz, ar_n it, ar_n pn, ar_n po, rl, rn, oa, ca, il, dm) (nI n) :=
  ⟨25, xx_top T hr hp 24 0 n rfl hn (tr_dp T hn) w⟩
theorem yy_top {c : Nat} {kd pa sz it pn po : Nat → Nat} {ln : Int32} {mk os cs cm : Nat → Int32} {post : Int32 → Prop} {r : Nat} (T : tr_T c kd pa sz it) (hr : pa r = 0) (hp : post (nI r)) : ∀ d k v, k + d = 24 → v < c → tr_c pa d (v + 1) = 0 → tr_w pa (v + 1) r → wY_treeOf_4 post (nI c) ln (ar_n kd) (ar_p pa) (ar_n sz) (ar_n it) (ar_n pn) (ar_n po) mk os cs cm (d + 1) (nI v) (nI k) := by
  intro d
  have c24 := tr_c24 T
  induction d with
  | zero =>
    intro k v hk _ h0 _
    exact absurd h0 (by show v + 1 ≠ 0; omega)
  | succ d ih =>
    intro k v hk hv h0 w
    refine br_f (nI_ge (b := 24) (by omega) (by omega)) (in_c (vp_in_nI (by omega) (by omega)) ?_)
    cases e : pa v with
    | zero =>
      rcases tr_wc w with q | q
      · subst q; exact br_t (by rw [ar_pc pa (by omega), e]; decide) hp
      · rw [e] at q; exact absurd q tr_w0
    | succ p =>
      have hp' := (tr_pe T hv e).1
      refine br_f (by rw [ar_pc pa (by omega), e, ar_neg (by omega)]; omega) (in_c (vp_in_nI (by omega) (by omega)) (nm_r ((ar_pc pa (by omega)).trans (by rw [e, nI_pred])) (nm_r (nI_1 k) ?_)))
      refine ih (k + 1) p (by omega) hp' (by rw [← e]; exact h0) ?_
      rcases tr_wc w with q | q
      · subst q; omega
      · rw [e] at q; exact q
theorem yy_treeOf {c : Nat} {kd pa sz it pn po : Nat → Nat} {ln : Int32} {mk os cs cm : Nat → Int32} {post : Int32 → Prop} {n r : Nat} (T : tr_T c kd pa sz it) (hn : n < c) (hr : pa r = 0) (w : tr_w pa (n + 1) r) (hp : post (nI r)) : wpY_treeOf post (nI c, ln, ar_n kd, ar_p pa, ar_n sz, ar_n it, ar_n pn, ar_n po, mk, os, cs, cm) (nI n) :=
  ⟨25, yy_top T hr hp 24 0 n rfl hn (tr_dp T hn) w⟩
/-! the index of a child -/
theorem xx_ix {c : Nat} {kd pa sz it pn po : Nat → Nat} {sg eg : Int32} {rl rn oa ca il dm : Nat → Int32} {post : Int32 → Prop} {n p i : Nat} (T : tr_T c kd pa sz it) (hp : p < c) (hk : kd p = 0) (hi : i < sz p) (he : it (24 * p + i) = n) (h : post (nI i)) : ∀ d k y, k + d = sz p → (k ≤ i ∨ y = i) → wX_indexOf_12 post (nI n) (nI p) (nI c) sg eg (ar_n kd) (ar_p pa) (ar_n sz) (ar_n it) (ar_n pn) (ar_n po) rl rn oa ca il dm (d + 1) (nI y) (nI k) := by
  intro d
  have c24 := tr_c24 T
  have s24 := tr_s24 T hp
  have hn := (tr_ch T hp hk hi).1
  rw [he] at hn
  induction d with
  | zero =>
    intro k y hk o
    have e : y = i := by omega
    subst e
    exact in_c (vp_in_nI (by omega) (by omega)) (br_t (by rw [ar_nc sz (by omega), nI_leI (by omega) (by omega)]; omega) h)
  | succ d ih =>
    intro k y hk o
    refine in_c (vp_in_nI (by omega) (by omega)) (br_f (by rw [ar_nc sz (by omega), nI_leI (by omega) (by omega)]; omega) ?_)
    have b := tr_ch T hp ‹_› (i := k) (by omega)
    rw [ix_x]
    refine in_c (vp_in_nI (by omega) (by omega)) ?_
    rw [ar_nc it (by omega)]
    by_cases e : it (24 * p + k) = n
    · have e2 := tr_in T hp ‹_› (i := k) (j := i) (by omega) hi (by rw [e, he])
      subst e2
      exact br_t (by rw [e]) (nm_r (nI_1 k) (ih (k + 1) k (by omega) (Or.inr rfl)))
    · refine br_f (by rw [nI_eq (by omega) (by omega)]; exact e) (nm_r (nI_1 k) (ih (k + 1) y (by omega) ?_))
      rcases o with o | o
      · refine Or.inl ?_
        have : k ≠ i := by rintro rfl; exact e he
        omega
      · exact Or.inr o
theorem xx_indexOf {c : Nat} {kd pa sz it pn po : Nat → Nat} {sg eg : Int32} {rl rn oa ca il dm : Nat → Int32} {post : Int32 → Prop} {n p i : Nat} (T : tr_T c kd pa sz it) (hn : n < c) (hp : pa n = p + 1) (hi : i < sz p) (he : it (24 * p + i) = n) (h : post (nI i)) : wpX_indexOf post (nI c, sg, eg, ar_n kd, ar_p pa, ar_n sz, ar_n it, ar_n pn, ar_n po, rl, rn, oa, ca, il, dm) (nI n) := by
  have c24 := tr_c24 T
  obtain ⟨h1, h2, _⟩ := tr_pe T hn hp
  exact in_c (vp_in_nI (by omega) (by omega)) (nm_r ((ar_pc pa (by omega)).trans (by rw [hp, nI_pred])) ⟨sz p + 1, xx_ix T h1 h2 hi he h (sz p) 0 0 (by omega) (by omega)⟩)
theorem yy_ix {c : Nat} {kd pa sz it pn po : Nat → Nat} {ln : Int32} {mk os cs cm : Nat → Int32} {post : Int32 → Prop} {n p i : Nat} (T : tr_T c kd pa sz it) (hp : p < c) (hk : kd p = 0) (hi : i < sz p) (he : it (24 * p + i) = n) (h : post (nI i)) : ∀ d k, k + d = sz p → k ≤ i → wY_indexOf_9 post (nI n) (nI p) (nI c) ln (ar_n kd) (ar_p pa) (ar_n sz) (ar_n it) (ar_n pn) (ar_n po) mk os cs cm (d + 1) (nI k) := by
  intro d
  have c24 := tr_c24 T
  have s24 := tr_s24 T hp
  have hn := (tr_ch T hp hk hi).1
  rw [he] at hn
  induction d with
  | zero => intro k hk o; omega
  | succ d ih =>
    intro k hk o
    refine in_c (vp_in_nI (by omega) (by omega)) (br_f (by rw [ar_nc sz (by omega), nI_leI (by omega) (by omega)]; omega) ?_)
    have b := tr_ch T hp ‹_› (i := k) (by omega)
    rw [ix_y]
    refine in_c (vp_in_nI (by omega) (by omega)) ?_
    rw [ar_nc it (by omega)]
    by_cases e : it (24 * p + k) = n
    · have e2 := tr_in T hp ‹_› (i := k) (j := i) (by omega) hi (by rw [e, he])
      subst e2
      exact br_t (by rw [e]) h
    · refine br_f (by rw [nI_eq (by omega) (by omega)]; exact e) (nm_r (nI_1 k) (ih (k + 1) (by omega) ?_))
      have : k ≠ i := by rintro rfl; exact e he
      omega
theorem yy_indexOf {c : Nat} {kd pa sz it pn po : Nat → Nat} {ln : Int32} {mk os cs cm : Nat → Int32} {post : Int32 → Prop} {n p i : Nat} (T : tr_T c kd pa sz it) (hn : n < c) (hp : pa n = p + 1) (hi : i < sz p) (he : it (24 * p + i) = n) (h : post (nI i)) : wpY_indexOf post (nI c, ln, ar_n kd, ar_p pa, ar_n sz, ar_n it, ar_n pn, ar_n po, mk, os, cs, cm) (nI n) := by
  have c24 := tr_c24 T
  obtain ⟨h1, h2, _⟩ := tr_pe T hn hp
  exact in_c (vp_in_nI (by omega) (by omega)) (nm_r ((ar_pc pa (by omega)).trans (by rw [hp, nI_pred])) ⟨sz p + 1, yy_ix T h1 h2 hi he h (sz p) 0 (by omega) (by omega)⟩)
