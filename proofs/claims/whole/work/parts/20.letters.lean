/-! letters, letterIn, holds -/
theorem xx_layRange {c : Nat} {kd pa sz it pn po : Nat → Nat} {sg eg : Int32} {rl rn oa ca il dm : Nat → Int32} {L op N : Nat → Nat} {post : SX → Prop} {q r : Nat} (Q : ly_Q c kd pa sz it L op N) (T : tr_T c kd pa sz it) (V : ∀ k, k < 8 → pl_ok c sz (pn k) (po k)) (hq : q < 4) (pr : pa r = 0) (w : tr_w pa (pn (2 * q) + 1) r) (w' : tr_w pa (pn (2 * q + 1) + 1) r)
    (h : ∀ rl rn oa ca il, (∀ m, m < c → tr_w pa (m + 1) r → rw_D kd sz it L op rl rn oa ca m) → post (nI c, nI (ly_g kd it L op (pn (2 * q)) (po (2 * q))), nI (ly_g kd it L op (pn (2 * q + 1)) (po (2 * q + 1))), ar_n kd, ar_p pa, ar_n sz, ar_n it, ar_n pn, ar_n po, rl, rn, oa, ca, il, dm)) : wpX_layRange post (nI c, sg, eg, ar_n kd, ar_p pa, ar_n sz, ar_n it, ar_n pn, ar_n po, rl, rn, oa, ca, il, dm) (nI q) := by
  have va := V (2 * q) (by omega)
  have vb := V (2 * q + 1) (by omega)
  have hr := tr_lt T va.1 w
  refine nm_r (ix_2x q) (in_c (vp_in_nI (by omega) (by omega)) ?_)
  rw [ar_nc _ (by omega), nI_1]
  refine xx_topOf T va.1 pr w (xx_layRow Q T hr pr ?_)
  intro rl rn oa ca il D
  exact xx_gapOf Q T D (by omega) va w (xx_gapOf Q T D (by omega) vb w' (h rl rn oa ca il D))
theorem yy_writeOf {c : Nat} {kd pa sz it pn po : Nat → Nat} {ln : Int32} {mk os cs cm : Nat → Int32} {L op N : Nat → Nat} {post : SY → Prop} {a r : Nat} (Q : ly_Q c kd pa sz it L op N) (T : tr_T c kd pa sz it) (V : ∀ k, k < 8 → pl_ok c sz (pn k) (po k)) (ha : a < 8) (pr : pa r = 0) (w : tr_w pa (pn a + 1) r)
    (h : ∀ ln mk os cs cm, (∀ m, m < c → tr_w pa (m + 1) r → rw_E kd sz it L op mk os cs m) → post (nI c, ln, ar_n kd, ar_p pa, ar_n sz, ar_n it, ar_n pn, ar_n po, mk, os, cs, cm)) : wpY_writeOf post (nI c, ln, ar_n kd, ar_p pa, ar_n sz, ar_n it, ar_n pn, ar_n po, mk, os, cs, cm) (nI a) := by
  refine in_c (vp_in_nI ha (by omega)) ?_
  rw [ar_nc _ (by omega)]
  exact yy_treeOf T (V a ha).1 pr w (yy_write Q T (tr_lt T (V a ha).1 w) pr h)
/-- both rows hold the same marks and letters -/
theorem rw_eq {c : Nat} {kd pa sz it L op N : Nat → Nat} {rl rn oa ca mk os cs : Nat → Int32} {r : Nat} (Q : ly_Q c kd pa sz it L op N) (T : tr_T c kd pa sz it) (hr : r < c) (pr : pa r = 0) (D : ∀ m, m < c → tr_w pa (m + 1) r → rw_D kd sz it L op rl rn oa ca m) (E : ∀ m, m < c → tr_w pa (m + 1) r → rw_E kd sz it L op mk os cs m) :
    ∀ k, k < L r → (rl k = -1 ∧ mk k = -1) ∨ ∃ d, d ≤ 9 ∧ rl k = nI d ∧ mk k = nI d := by
  intro k hk
  have o0 := Q.2.2.1 r hr pr
  obtain ⟨m, hm, w, o⟩ := ly_cov Q T r hr k (by omega) (by omega)
  have d := D m hm w
  have e := E m hm w
  rcases o with o | o | ⟨k1, i, hi, o⟩
  · rw [o]; exact Or.inl ⟨d.2.2.1, e.2.2.1⟩
  · rw [show k = op m + L m - 1 by omega]; exact Or.inl ⟨d.2.2.2.2.1, e.2.2.2.1⟩
  · rw [o]
    exact Or.inr ⟨_, (T.2.2.1 m hm k1).2 i hi, (d.2.2.2.2.2.2 k1 i hi).1, e.2.2.2.2 k1 i hi⟩
theorem nj_m1 {d : Nat} (h : d < 2 ^ 31) : ¬ nI d = -1 := by
  intro z
  have := nI_pos h
  rw [z] at this
  exact this (by decide)
/-- the common top of a range -/
theorem pl_top {c : Nat} {kd pa sz it pn po : Nat → Nat} (T : tr_T c kd pa sz it) (P : pl_P c kd pa sz it pn po) {q : Nat} (hq : q < 4) : ∃ r, r < c ∧ pa r = 0 ∧ tr_w pa (pn (2 * q) + 1) r ∧ tr_w pa (pn (2 * q + 1) + 1) r := by
  obtain ⟨w, a, b⟩ := (P.2 q hq).1
  obtain ⟨r, hr, pr, g⟩ := tr_top T (tr_lt T (P.1 (2 * q) (by omega)).1 a)
  exact ⟨r, hr, pr, tr_wt a g, tr_wt b g⟩
def lt_n (rl : Nat → Int32) (ge : Nat) : Nat → Nat → Int32 → Int32
  | 0, _, n => n
  | d + 1, k, n => if ge ≤ k then n else if rl k = -1 then lt_n rl ge d (k + 1) n else lt_n rl ge d (k + 1) (n + 1)
def lt_i (rl : Nat → Int32) (ge : Nat) (x : Int32) : Nat → Nat → Nat → Int32
  | 0, _, _ => -2
  | d + 1, k, n => if ge ≤ k then -2 else if rl k = -1 then lt_i rl ge x d (k + 1) n else if nI n = x then rl k else lt_i rl ge x d (k + 1) (n + 1)
theorem xx_ltl {c : Nat} {kd pa sz it pn po : Nat → Nat} {sg eg : Int32} {rl rn oa ca il dm : Nat → Int32} {ge : Nat} {post : Int32 → SX → Prop} (hg : ge ≤ 336) : ∀ d k n, ge ≤ k + d → k ≤ 336 → post (lt_n rl ge d k n) (nI c, sg, nI ge, ar_n kd, ar_p pa, ar_n sz, ar_n it, ar_n pn, ar_n po, rl, rn, oa, ca, il, dm) → wX_letters_22 post (nI c) sg (nI ge) (ar_n kd) (ar_p pa) (ar_n sz) (ar_n it) (ar_n pn) (ar_n po) rl rn oa ca il dm (d + 1) n (nI k) := by
  intro d
  induction d with
  | zero => intro k n h1 h2 hp; exact br_t (nI_le (by omega) (by omega)) hp
  | succ d ih =>
    intro k n h1 h2 hp
    unfold lt_n at hp
    by_cases z : ge ≤ k
    · rw [if_pos z] at hp
      exact br_t (nI_le z (by omega)) hp
    · rw [if_neg z] at hp
      refine br_f (nI_ge (by omega) (by omega)) (in_c (vp_in_nI (by omega) (by omega)) (cb_i (d := rl k = -1) (by rw [nI_clamp (by omega)]) (fun e => nm_r (nI_1 k) (ih (k + 1) n (by omega) (by omega) ?_)) (fun e => nm_e (nm_r (nI_1 k) (ih (k + 1) (n + 1) (by omega) (by omega) ?_)))))
      · rw [if_pos e] at hp; exact hp
      · rw [if_neg e] at hp; exact hp
theorem yy_ltl {c : Nat} {kd pa sz it pn po : Nat → Nat} {ln : Int32} {mk os cs cm : Nat → Int32} {L op N : Nat → Nat} {rl : Nat → Int32} {r q : Nat} {post : Int32 → SY → Prop} (Q : ly_Q c kd pa sz it L op N) (T : tr_T c kd pa sz it) (V : ∀ k, k < 8 → pl_ok c sz (pn k) (po k)) (hq : q < 4) (pr : pa r = 0) (w' : tr_w pa (pn (2 * q + 1) + 1) r) (E : ∀ m, m < c → tr_w pa (m + 1) r → rw_E kd sz it L op mk os cs m) (ag : ∀ k, k < L r → (rl k = -1 ∧ mk k = -1) ∨ ∃ d, d ≤ 9 ∧ rl k = nI d ∧ mk k = nI d) :
    ∀ d k n, ly_g kd it L op (pn (2 * q + 1)) (po (2 * q + 1)) ≤ k + d → k ≤ 336 → post (lt_n rl (ly_g kd it L op (pn (2 * q + 1)) (po (2 * q + 1))) d k n) (nI c, ln, ar_n kd, ar_p pa, ar_n sz, ar_n it, ar_n pn, ar_n po, mk, os, cs, cm) → wY_letters_27 post (nI q) (nI c) ln (ar_n kd) (ar_p pa) (ar_n sz) (ar_n it) (ar_n pn) (ar_n po) mk os cs cm (d + 1) n (nI k) := by
  have vb := V (2 * q + 1) (by omega)
  have hr := tr_lt T vb.1 w'
  have g := ly_gr Q T vb hr pr w'
  intro d
  induction d with
  | zero =>
    intro k n h1 h2 hp
    unfold wY_letters_27
    rw [ix_2y, nI_1 (2 * q)]
    exact yy_gap Q T E (by omega) vb w' (br_t (nI_le (by omega) (by omega)) hp)
  | succ d ih =>
    intro k n h1 h2 hp
    unfold lt_n at hp
    unfold wY_letters_27
    rw [ix_2y, nI_1 (2 * q)]
    refine yy_gap Q T E (by omega) vb w' ?_
    by_cases z : ly_g kd it L op (pn (2 * q + 1)) (po (2 * q + 1)) ≤ k
    · rw [if_pos z] at hp
      exact br_t (nI_le z (by omega)) hp
    · rw [if_neg z] at hp
      refine br_f (nI_ge (by omega) (by omega)) (in_c (vp_in_nI (by omega) (by omega)) ?_)
      rw [nI_clamp (by omega)]
      rcases ag k (by omega) with ⟨e1, e2⟩ | ⟨b, hb, e1, e2⟩
      · rw [if_pos e1] at hp
        exact br_t (by rw [e2]; decide) (nm_r (nI_1 k) (ih (k + 1) n (by omega) (by omega) hp))
      · rw [if_neg (by rw [e1]; exact nj_m1 (by omega))] at hp
        exact br_f (by rw [e2]; exact nI_pos (by omega)) (nm_e (nm_r (nI_1 k) (ih (k + 1) (n + 1) (by omega) (by omega) hp)))
theorem i_vc_letters {k : Nat} {u : SX} {v : SY} (I : i_Rel k u v) (hk : k + 5 ≤ 2560) (v1 : Int32) : wpX_letters (fun r u' => wpY_letters (fun r' v' => r' = r ∧ i_Rel (k + 5) u' v') v v1) u v1 := by
  have J := i_up I
  obtain ⟨c, kd, pa, sz, it, pn, po, sg, eg, rl, rn, oa, ca, il, dm, ln, mk, os, cs, cm, rfl, rfl, T, P⟩ := I
  unfold wpX_letters
  dsimp only
  rcases nd_cases 4 v1 with ⟨q, hq, rfl⟩ | h
  · refine xx_isRange_t hq (br_f (by decide) ?_)
    obtain ⟨r, hr, pr, w, w'⟩ := pl_top T P hq
    obtain ⟨L, op, N, Q⟩ := ly_ex T
    have ga := ly_gr Q T (P.1 (2 * q) (by omega)) hr pr w
    have gb := ly_gr Q T (P.1 (2 * q + 1) (by omega)) hr pr w'
    refine xx_layRange Q T P.1 hq pr w w' ?_
    intro rl rn oa ca il D
    refine ⟨337, xx_ltl (eg := eg) (by omega) 336 (ly_g kd it L op (pn (2 * q)) (po (2 * q))) 0 (by omega) (by omega) ?_⟩
    show wpY_letters _ _ _
    unfold wpY_letters
    dsimp only
    refine yy_isRange_t hq (br_f (by decide) ?_)
    rw [ix_2y]
    refine yy_writeOf Q T P.1 (by omega) pr w ?_
    intro ln mk os cs cm E
    refine yy_gap Q T E (by omega) (P.1 _ (by omega)) w ⟨337, ?_⟩
    exact yy_ltl Q T P.1 hq pr w' E (rw_eq Q T hr pr D E) 336 _ 0 (by omega) (by omega) ⟨rfl, rel_mk T P⟩
  · refine xx_isRange_f h (br_t rfl ?_)
    unfold wpY_letters
    dsimp only
    exact yy_isRange_f h (br_t rfl ⟨rfl, J⟩)
theorem xx_lil {c : Nat} {kd pa sz it pn po : Nat → Nat} {sg eg : Int32} {rl rn oa ca il dm : Nat → Int32} {ge : Nat} {x : Int32} {post : Int32 → SX → Prop} (hg : ge ≤ 336) : ∀ d k n, ge ≤ k + d → k ≤ 336 → post (lt_i rl ge x d k n) (nI c, sg, nI ge, ar_n kd, ar_p pa, ar_n sz, ar_n it, ar_n pn, ar_n po, rl, rn, oa, ca, il, dm) → wX_letterIn_23 post x (nI c) sg (nI ge) (ar_n kd) (ar_p pa) (ar_n sz) (ar_n it) (ar_n pn) (ar_n po) rl rn oa ca il dm (d + 1) (nI n) (nI k) := by
  intro d
  induction d with
  | zero => intro k n h1 h2 hp; exact br_t (nI_le (by omega) (by omega)) hp
  | succ d ih =>
    intro k n h1 h2 hp
    unfold lt_i at hp
    by_cases z : ge ≤ k
    · rw [if_pos z] at hp
      exact br_t (nI_le z (by omega)) hp
    · rw [if_neg z] at hp
      refine br_f (nI_ge (by omega) (by omega)) (in_c (vp_in_nI (by omega) (by omega)) (cb_i (d := rl k = -1) (by rw [nI_clamp (by omega)]) (fun e => nm_r (nI_1 k) (ih (k + 1) n (by omega) (by omega) ?_)) (fun e => br_c (fun e2 => in_c (vp_in_nI (by omega) (by omega)) ?_) (fun e2 => nm_r (nI_1 n) (nm_r (nI_1 k) (ih (k + 1) (n + 1) (by omega) (by omega) ?_))))))
      · rw [if_pos e] at hp; exact hp
      · rw [if_neg e, if_pos e2] at hp
        rw [nI_clamp (by omega)]
        exact hp
      · rw [if_neg e, if_neg e2] at hp; exact hp
theorem sb_0 {x y : Int32} : x - y = 0 ↔ y = x := by
  constructor
  · intro h
    have : x - y + y = 0 + y := by rw [h]
    rw [Int32.sub_add_cancel, Int32.zero_add] at this
    exact this.symm
  · rintro rfl; exact Int32.sub_self _
theorem sb_1 (x : Int32) (n : Nat) : x - nI n + (-1) = x - nI (n + 1) := by
  rw [← nI_1]
  generalize nI n = y
  grind
theorem yy_lil {c : Nat} {kd pa sz it pn po : Nat → Nat} {ln : Int32} {mk os cs cm : Nat → Int32} {L op N : Nat → Nat} {rl : Nat → Int32} {r q : Nat} {x : Int32} {post : Int32 → SY → Prop} (Q : ly_Q c kd pa sz it L op N) (T : tr_T c kd pa sz it) (V : ∀ k, k < 8 → pl_ok c sz (pn k) (po k)) (hq : q < 4) (pr : pa r = 0) (w' : tr_w pa (pn (2 * q + 1) + 1) r) (E : ∀ m, m < c → tr_w pa (m + 1) r → rw_E kd sz it L op mk os cs m) (ag : ∀ k, k < L r → (rl k = -1 ∧ mk k = -1) ∨ ∃ d, d ≤ 9 ∧ rl k = nI d ∧ mk k = nI d) :
    ∀ d k n, ly_g kd it L op (pn (2 * q + 1)) (po (2 * q + 1)) ≤ k + d → k ≤ 336 → post (lt_i rl (ly_g kd it L op (pn (2 * q + 1)) (po (2 * q + 1))) x d k n) (nI c, ln, ar_n kd, ar_p pa, ar_n sz, ar_n it, ar_n pn, ar_n po, mk, os, cs, cm) → wY_letterIn_28 post (nI q) (nI c) ln (ar_n kd) (ar_p pa) (ar_n sz) (ar_n it) (ar_n pn) (ar_n po) mk os cs cm (d + 1) (x - nI n) (nI k) := by
  have vb := V (2 * q + 1) (by omega)
  have hr := tr_lt T vb.1 w'
  have g := ly_gr Q T vb hr pr w'
  intro d
  induction d with
  | zero =>
    intro k n h1 h2 hp
    unfold wY_letterIn_28
    rw [ix_2y, nI_1 (2 * q)]
    exact yy_gap Q T E (by omega) vb w' (br_t (nI_le (by omega) (by omega)) hp)
  | succ d ih =>
    intro k n h1 h2 hp
    unfold lt_i at hp
    unfold wY_letterIn_28
    rw [ix_2y, nI_1 (2 * q)]
    refine yy_gap Q T E (by omega) vb w' ?_
    by_cases z : ly_g kd it L op (pn (2 * q + 1)) (po (2 * q + 1)) ≤ k
    · rw [if_pos z] at hp
      exact br_t (nI_le z (by omega)) hp
    · rw [if_neg z] at hp
      have hi : vp_in (nI k) 400 := vp_in_nI (by omega) (by omega)
      refine br_f (nI_ge (by omega) (by omega)) (in_c hi ?_)
      rw [nI_clamp (by omega)]
      rcases ag k (by omega) with ⟨e1, e2⟩ | ⟨b, hb, e1, e2⟩
      · rw [if_pos e1] at hp
        exact br_t (by rw [e2]; decide) (nm_r (nI_1 k) (ih (k + 1) n (by omega) (by omega) hp))
      · rw [if_neg (by rw [e1]; exact nj_m1 (by omega))] at hp
        refine br_f (by rw [e2]; exact nI_pos (by omega)) (cb_i sb_0 (fun e => in_c hi ?_) (fun e => nm_r (sb_1 x n) (nm_r (nI_1 k) (ih (k + 1) (n + 1) (by omega) (by omega) ?_))))
        · rw [if_pos e, e1] at hp
          rw [e2]
          exact hp
        · rw [if_neg e] at hp
          exact hp
theorem i_vc_letterIn {k : Nat} {u : SX} {v : SY} (I : i_Rel k u v) (hk : k + 5 ≤ 2560) (v1 : Int32) (v2 : Int32) : wpX_letterIn (fun r u' => wpY_letterIn (fun r' v' => r' = r ∧ i_Rel (k + 5) u' v') v v1 v2) u v1 v2 := by
  have J := i_up I
  obtain ⟨c, kd, pa, sz, it, pn, po, sg, eg, rl, rn, oa, ca, il, dm, ln, mk, os, cs, cm, rfl, rfl, T, P⟩ := I
  unfold wpX_letterIn
  dsimp only
  rcases nd_cases 4 v1 with ⟨q, hq, rfl⟩ | h
  · refine xx_isRange_t hq (br_f (by decide) ?_)
    obtain ⟨r, hr, pr, w, w'⟩ := pl_top T P hq
    obtain ⟨L, op, N, Q⟩ := ly_ex T
    have ga := ly_gr Q T (P.1 (2 * q) (by omega)) hr pr w
    have gb := ly_gr Q T (P.1 (2 * q + 1) (by omega)) hr pr w'
    refine xx_layRange Q T P.1 hq pr w w' ?_
    intro rl rn oa ca il D
    refine ⟨337, xx_lil (eg := eg) (by omega) 336 (ly_g kd it L op (pn (2 * q)) (po (2 * q))) 0 (by omega) (by omega) ?_⟩
    show wpY_letterIn _ _ _ _
    unfold wpY_letterIn
    dsimp only
    refine yy_isRange_t hq (br_f (by decide) ?_)
    rw [ix_2y]
    refine yy_writeOf Q T P.1 (by omega) pr w ?_
    intro ln mk os cs cm E
    refine yy_gap Q T E (by omega) (P.1 _ (by omega)) w ⟨337, ?_⟩
    have := yy_lil (pn := pn) (po := po) (ln := ln) (cm := cm) (x := v2) (post := fun r' v' => r' = lt_i rl (ly_g kd it L op (pn (2 * q + 1)) (po (2 * q + 1))) v2 336 (ly_g kd it L op (pn (2 * q)) (po (2 * q))) 0 ∧ i_Rel (k + 5) (nI c, nI (ly_g kd it L op (pn (2 * q)) (po (2 * q))), nI (ly_g kd it L op (pn (2 * q + 1)) (po (2 * q + 1))), ar_n kd, ar_p pa, ar_n sz, ar_n it, ar_n pn, ar_n po, rl, rn, oa, ca, il, dm) v') Q T P.1 hq pr w' E (rw_eq Q T hr pr D E) 336 (ly_g kd it L op (pn (2 * q)) (po (2 * q))) 0 (by omega) (by omega) ⟨rfl, rel_mk T P⟩
    rw [show v2 - nI 0 = v2 from Int32.sub_zero v2] at this
    exact this
  · refine xx_isRange_f h (br_t rfl ?_)
    unfold wpY_letterIn
    dsimp only
    exact yy_isRange_f h (br_t rfl ⟨rfl, J⟩)
/-- a node wholly between the gaps of a range -/
def in_W (pa L op : Nat → Nat) (r gs ge n : Nat) : Prop := tr_w pa (n + 1) r ∧ gs ≤ op n ∧ op n + L n ≤ ge
theorem yy_isWithin {c : Nat} {kd pa sz it pn po : Nat → Nat} {ln : Int32} {mk os cs cm : Nat → Int32} {L op N : Nat → Nat} {r q n : Nat} {post : Int32 → Prop} (Q : ly_Q c kd pa sz it L op N) (T : tr_T c kd pa sz it) (V : ∀ k, k < 8 → pl_ok c sz (pn k) (po k)) (hq : q < 4) (hn : n < c) (pr : pa r = 0) (w : tr_w pa (pn (2 * q) + 1) r) (w' : tr_w pa (pn (2 * q + 1) + 1) r) (E : ∀ m, m < c → tr_w pa (m + 1) r → rw_E kd sz it L op mk os cs m)
    (h1 : in_W pa L op r (ly_g kd it L op (pn (2 * q)) (po (2 * q))) (ly_g kd it L op (pn (2 * q + 1)) (po (2 * q + 1))) n → post 1)
    (h0 : ¬ in_W pa L op r (ly_g kd it L op (pn (2 * q)) (po (2 * q))) (ly_g kd it L op (pn (2 * q + 1)) (po (2 * q + 1))) n → post 0) : wpY_isWithin post (nI c, ln, ar_n kd, ar_p pa, ar_n sz, ar_n it, ar_n pn, ar_n po, mk, os, cs, cm) (nI q) (nI n) := by
  have c24 := tr_c24 T
  have va := V (2 * q) (by omega)
  have vb := V (2 * q + 1) (by omega)
  have hr := tr_lt T va.1 w
  have ga := ly_gr Q T va hr pr w
  have gb := ly_gr Q T vb hr pr w'
  have hni : vp_in (nI n) 24 := vp_in_nI (by omega) (by omega)
  obtain ⟨r', hr', pr', wn⟩ := tr_top T hn
  have l2 := ly_L2 Q T hn
  unfold wpY_isWithin
  dsimp only
  rw [ix_2y, nI_1 (2 * q), ar_nc _ (by omega)]
  refine in_c (vp_in_nI (by omega) (by omega)) (yy_treeOf T va.1 pr w (yy_treeOf T hn pr' wn (cb_i (nI_eq (by omega) (by omega)) (fun e => in_c hni ?_) (fun e => h0 fun z => e (tr_t1 pr' pr wn z.1)))))
  subst e
  have En := E n hn wn
  have inn := ly_in Q T hn wn
  have o0 := Q.2.2.1 r' hr' pr'
  refine yy_gap Q T E (by omega) va w ?_
  rw [nI_clamp (by omega), En.1, En.2.1]
  refine cb_i (nI_ltI (by omega) (by omega)) (fun l => h0 fun z => by have := z.2.1; omega) (fun l => in_c hni (yy_gap Q T E (by omega) vb w' (cb_i (nI_leI (by omega) (by omega)) (fun l2 => h0 fun z => by have := z.2.2; omega) (fun l2 => h1 ⟨wn, by omega, by omega⟩))))
theorem i_vc_holds {k : Nat} {u : SX} {v : SY} (I : i_Rel k u v) (hk : k + 5 ≤ 2560) (v1 : Int32) (v2 : Int32) : wpX_holds (fun r u' => wpY_holds (fun r' v' => r' = r ∧ i_Rel (k + 5) u' v') v v1 v2) u v1 v2 := by
  have J := i_up I
  obtain ⟨c, kd, pa, sz, it, pn, po, sg, eg, rl, rn, oa, ca, il, dm, ln, mk, os, cs, cm, rfl, rfl, T, P⟩ := I
  have c24 := tr_c24 T
  unfold wpX_holds
  dsimp only
  rcases nd_cases 4 v1 with ⟨q, hq, rfl⟩ | h
  · refine xx_isRange_t hq (br_f (by decide) ?_)
    rcases nd_cases c v2 with ⟨n, hn, rfl⟩ | h2
    · refine xx_isNode_t c24 hn (br_f (by decide) ?_)
      have hni : vp_in (nI n) 24 := vp_in_nI (by omega) (by omega)
      obtain ⟨r, hr, pr, w, w'⟩ := pl_top T P hq
      obtain ⟨L, op, N, Q⟩ := ly_ex T
      have va := P.1 (2 * q) (by omega)
      have vb := P.1 (2 * q + 1) (by omega)
      have ga := ly_gr Q T va hr pr w
      have gb := ly_gr Q T vb hr pr w'
      obtain ⟨r', hr', pr', wn⟩ := tr_top T hn
      have l2 := ly_L2 Q T hn
      have YW : ∀ post : Int32 → SY → Prop, (∀ ln mk os cs cm, (in_W pa L op r (ly_g kd it L op (pn (2 * q)) (po (2 * q))) (ly_g kd it L op (pn (2 * q + 1)) (po (2 * q + 1))) n → post 1 (nI c, ln, ar_n kd, ar_p pa, ar_n sz, ar_n it, ar_n pn, ar_n po, mk, os, cs, cm)) ∧ (¬ in_W pa L op r (ly_g kd it L op (pn (2 * q)) (po (2 * q))) (ly_g kd it L op (pn (2 * q + 1)) (po (2 * q + 1))) n → post 0 (nI c, ln, ar_n kd, ar_p pa, ar_n sz, ar_n it, ar_n pn, ar_n po, mk, os, cs, cm))) → wpY_holds post (nI c, ln, ar_n kd, ar_p pa, ar_n sz, ar_n it, ar_n pn, ar_n po, mk, os, cs, cm) (nI q) (nI n) := by
        intro post h
        unfold wpY_holds
        dsimp only
        refine yy_isRange_t hq (br_f (by decide) (yy_isNode_t c24 hn (br_f (by decide) ?_)))
        rw [ix_2y]
        refine yy_writeOf Q T P.1 (by omega) pr w ?_
        intro ln mk os cs cm E
        exact yy_isWithin Q T P.1 hq hn pr w w' E (fun z => br_f (by decide) ((h ln mk os cs cm).1 z)) (fun z => br_t rfl ((h ln mk os cs cm).2 z))
      rw [ix_2x, ar_nc _ (by omega)]
      refine in_c (vp_in_nI (by omega) (by omega)) (xx_topOf T va.1 pr w (xx_topOf T hn pr' wn (cb_i (nI_eq (by omega) (by omega)) (fun e => ?_) (fun e => YW _ fun ln mk os cs cm => ⟨fun z => absurd (tr_t1 pr pr' z.1 wn) e, fun _ => ⟨rfl, rel_mk T P⟩⟩))))
      subst e
      have inn := ly_in Q T hn wn
      have o0 := Q.2.2.1 r hr pr
      refine xx_layRange Q T P.1 hq pr w w' ?_
      intro rl rn oa ca il D
      have Dn := D n hn wn
      refine in_c hni ?_
      show (oa (nI n).toNatClampNeg < nI (ly_g kd it L op (pn (2 * q)) (po (2 * q))) → _) ∧ (¬ oa (nI n).toNatClampNeg < nI (ly_g kd it L op (pn (2 * q)) (po (2 * q))) → vp_in (nI n) 24 ∧ (nI (ly_g kd it L op (pn (2 * q + 1)) (po (2 * q + 1))) ≤ ca (nI n).toNatClampNeg → _) ∧ (¬ nI (ly_g kd it L op (pn (2 * q + 1)) (po (2 * q + 1))) ≤ ca (nI n).toNatClampNeg → _))
      rw [nI_clamp (by omega), Dn.1, Dn.2.1]
      refine cb_i (nI_ltI (by omega) (by omega)) (fun l => YW _ fun ln mk os cs cm => ⟨fun z => by have := z.2.1; omega, fun _ => ⟨rfl, rel_mk T P⟩⟩) (fun l => in_c hni (cb_i (nI_leI (by omega) (by omega)) (fun l2 => YW _ fun ln mk os cs cm => ⟨fun z => by have := z.2.2; omega, fun _ => ⟨rfl, rel_mk T P⟩⟩) (fun l2 => YW _ fun ln mk os cs cm => ⟨fun _ => ⟨rfl, rel_mk T P⟩, fun z => absurd ⟨wn, by omega, by omega⟩ z⟩)))
    · refine xx_isNode_f c24 h2 (br_t rfl ?_)
      unfold wpY_holds
      dsimp only
      exact yy_isRange_t hq (br_f (by decide) (yy_isNode_f c24 h2 (br_t rfl ⟨rfl, J⟩)))
  · refine xx_isRange_f h (br_t rfl ?_)
    unfold wpY_holds
    dsimp only
    exact yy_isRange_f h (br_t rfl ⟨rfl, J⟩)
