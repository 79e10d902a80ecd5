/-! loops that move places and items: pure steps, then X's walks -/
theorem cb_i {c d A B : Prop} (e : c ↔ d) (f : d → A) (g : ¬ d → B) : (c → A) ∧ (¬ c → B) := ⟨fun h => f (e.mp h), fun h => g fun z => h (e.mpr z)⟩
def mq_n (F : Nat → Nat → Nat × Nat) (pn po : Nat → Nat) (k : Nat) : Nat → Nat := fun j => if j < k then (F (pn j) (po j)).1 else pn j
def mq_o (F : Nat → Nat → Nat × Nat) (pn po : Nat → Nat) (k : Nat) : Nat → Nat := fun j => if j < k then (F (pn j) (po j)).2 else po j
section
variable {F : Nat → Nat → Nat × Nat} {pn po : Nat → Nat}
theorem mq_n0 : mq_n F pn po 0 = pn := by funext j; exact if_neg (by omega)
theorem mq_o0 : mq_o F pn po 0 = po := by funext j; exact if_neg (by omega)
theorem mq_nk (k : Nat) : mq_n F pn po k k = pn k := if_neg (by omega)
theorem mq_ok (k : Nat) : mq_o F pn po k k = po k := if_neg (by omega)
theorem mq_ns {k a : Nat} (h : (F (pn k) (po k)).1 = a) : st_u (mq_n F pn po k) k a = mq_n F pn po (k + 1) := by
  funext j
  unfold st_u mq_n
  split
  · rename_i e; subst e; rw [if_pos (by omega)]; exact h.symm
  · by_cases z : j < k
    · rw [if_pos z, if_pos (by omega)]
    · rw [if_neg z, if_neg (by omega)]
theorem mq_os {k a : Nat} (h : (F (pn k) (po k)).2 = a) : st_u (mq_o F pn po k) k a = mq_o F pn po (k + 1) := by
  funext j
  unfold st_u mq_o
  split
  · rename_i e; subst e; rw [if_pos (by omega)]; exact h.symm
  · by_cases z : j < k
    · rw [if_pos z, if_pos (by omega)]
    · rw [if_neg z, if_neg (by omega)]
theorem mq_nu {k : Nat} (h : (F (pn k) (po k)).1 = pn k) : mq_n F pn po k = mq_n F pn po (k + 1) := by
  rw [← mq_ns h]
  funext j
  unfold st_u
  split
  · rename_i e; subst e; exact mq_nk j
  · rfl
theorem mq_ou {k : Nat} (h : (F (pn k) (po k)).2 = po k) : mq_o F pn po k = mq_o F pn po (k + 1) := by
  rw [← mq_os h]
  funext j
  unfold st_u
  split
  · rename_i e; subst e; exact mq_ok j
  · rfl
end
theorem mv_l0 (it : Nat → Nat) (b f e : Nat) : mv_l it b f f e = it := by
  funext j; unfold mv_l; exact if_neg (by omega)
theorem mv_r0 (it : Nat → Nat) (b s e : Nat) : mv_r it b s s e = it := by
  funext j; unfold mv_r; exact if_neg (by omega)
theorem mv_lk (it : Nat → Nat) (b f e k : Nat) : mv_l it b f k e (b + k) = it (b + k) := by
  unfold mv_l; exact if_neg (by omega)
theorem mv_ls (it : Nat → Nat) {b f e k : Nat} (hf : f ≤ k) (he : e ≤ b + k) : st_u (mv_l it b f k e) (b + k - e) (it (b + k)) = mv_l it b f (k + 1) e := by
  funext j
  unfold st_u mv_l
  split
  · rename_i q
    rw [if_pos (by omega), show j + e = b + k by omega]
  · by_cases z : b + f ≤ j + e ∧ j + e < b + k
    · rw [if_pos z, if_pos (by omega)]
    · rw [if_neg z, if_neg (by omega)]
theorem mv_rk (it : Nat → Nat) {b s e k : Nat} : mv_r it b (k + 1) s e (b + k) = it (b + k) := by
  unfold mv_r; exact if_neg (by omega)
theorem mv_rs (it : Nat → Nat) {b s e k : Nat} (hk : k < s) : st_u (mv_r it b (k + 1) s e) (b + k + e) (it (b + k)) = mv_r it b k s e := by
  funext j
  unfold st_u mv_r
  split
  · rename_i q
    rw [if_pos (by omega), show j - e = b + k by omega]
  · by_cases z : b + (k + 1) + e ≤ j ∧ j < b + s + e
    · rw [if_pos z, if_pos (by omega)]
    · rw [if_neg z, if_neg (by omega)]
def cp_i (it : Nat → Nat) (src dst k : Nat) : Nat → Nat := fun j => if dst ≤ j ∧ j < dst + k then it (src + (j - dst)) else it j
theorem cp_0 (it : Nat → Nat) (src dst : Nat) : cp_i it src dst 0 = it := by
  funext j; unfold cp_i; exact if_neg (by omega)
theorem cp_k (it : Nat → Nat) {src dst k : Nat} (h : src + k < dst ∨ dst + k ≤ src + k) : cp_i it src dst k (src + k) = it (src + k) := by
  unfold cp_i; exact if_neg (by omega)
theorem cp_s (it : Nat → Nat) (src dst k : Nat) : st_u (cp_i it src dst k) (dst + k) (it (src + k)) = cp_i it src dst (k + 1) := by
  funext j
  unfold st_u cp_i
  split
  · rename_i q
    rw [if_pos (by omega), show j - dst = k by omega]
  · by_cases z : dst ≤ j ∧ j < dst + k
    · rw [if_pos z, if_pos (by omega)]
    · rw [if_neg z, if_neg (by omega)]
def dg_w : Nat → Nat → Nat → (Nat → Nat) → Nat → Nat
  | 0, _, _, it => it
  | k + 1, b, d, it => dg_w k b (d / 10) (st_u it (b + k) (d % 10))
theorem dg_o : ∀ (k b d : Nat) (it : Nat → Nat) (j : Nat), (j < b ∨ b + k ≤ j) → dg_w k b d it j = it j := by
  intro k
  induction k with
  | zero => intro b d it j _; rfl
  | succ k ih =>
    intro b d it j h
    unfold dg_w
    rw [ih b (d / 10) _ j (by omega), st_un (by omega)]
theorem dg_9 : ∀ (k b d : Nat) (it : Nat → Nat) (j : Nat), b ≤ j → j < b + k → dg_w k b d it j ≤ 9 := by
  intro k
  induction k with
  | zero => intro b d it j _ _; omega
  | succ k ih =>
    intro b d it j h1 h2
    unfold dg_w
    by_cases e : j = b + k
    · rw [dg_o k b (d / 10) _ j (by omega), e, st_us]; omega
    · exact ih b (d / 10) _ j h1 (by omega)
theorem nj_d1 (a : Nat) : nI a + (-1) = nI a - 1 := by rw [Int32.sub_eq_add_neg]
theorem ar_ltf {k f : Nat} (hk : k < 2 ^ 30) (hf : f < 2 ^ 30) : nI k - 1 < nI f ↔ k ≤ f := by
  rw [Int32.lt_iff_toInt_lt, ar_toI hk, nI_toInt (by omega)]; omega
theorem xx_setPlace {c : Nat} {kd pa sz it pn po : Nat → Nat} {sg eg : Int32} {rl rn oa ca il dm : Nat → Int32} {post : SX → Prop} {k a b : Nat} {y z : Int32} (hk : k < 8) (ha : y = nI a) (hb : z = nI b) (hp : post (nI c, sg, eg, ar_n kd, ar_p pa, ar_n sz, ar_n it, ar_n (st_u pn k a), ar_n (st_u po k b), rl, rn, oa, ca, il, dm)) : wpX_setPlace post (nI c, sg, eg, ar_n kd, ar_p pa, ar_n sz, ar_n it, ar_n pn, ar_n po, rl, rn, oa, ca, il, dm) (nI k) y z := by
  subst ha hb
  refine in_c (vp_in_nI hk (by omega)) (nm_r ((congrArg (fun j => upd (ar_n pn) j (nI a)) (nI_clamp (by omega))).trans (ar_nu pn k a)) (in_c (vp_in_nI hk (by omega)) (nm_r ((congrArg (fun j => upd (ar_n po) j (nI b)) (nI_clamp (by omega))).trans (ar_nu po k b)) hp)))
theorem xx_sl {c : Nat} {kd pa sz it pn po : Nat → Nat} {sg eg : Int32} {rl rn oa ca il dm : Nat → Int32} {post : SX → Prop} {nd lo : Nat} {x3 x4 : Int32} (F : Nat → Nat → Nat × Nat) (hb : ∀ k, k < 8 → pn k < 24 ∧ po k < 25) (hnd : nd < 24) (hlo : lo < 100)
    (hF : ∀ k, k < 8 → (pn k = nd ∧ lo ≤ po k → nI (F (pn k) (po k)).1 = x3 ∧ nI (F (pn k) (po k)).2 = nI (po k) + x4) ∧ (¬ (pn k = nd ∧ lo ≤ po k) → F (pn k) (po k) = (pn k, po k)))
    (hp : post (nI c, sg, eg, ar_n kd, ar_p pa, ar_n sz, ar_n it, ar_n (mp_n F pn po), ar_n (mp_o F pn po), rl, rn, oa, ca, il, dm)) :
    ∀ d k, k + d = 8 → wX_slidePlaces_3 post (nI nd) (nI lo) x3 x4 (d + 1) (nI k) (nI c) sg eg (ar_n kd) (ar_p pa) (ar_n sz) (ar_n it) (ar_n (mq_n F pn po k)) (ar_n (mq_o F pn po k)) rl rn oa ca il dm := by
  intro d
  induction d with
  | zero =>
    intro k hk
    obtain rfl : k = 8 := by omega
    exact br_t (nI_le (a := 8) (by omega) (by omega)) hp
  | succ d ih =>
    intro k hk
    have h8 : k < 8 := by omega
    have hbk := hb k h8
    have same : ¬ (pn k = nd ∧ lo ≤ po k) → wX_slidePlaces_3 post (nI nd) (nI lo) x3 x4 (d + 1) (nI (k + 1)) (nI c) sg eg (ar_n kd) (ar_p pa) (ar_n sz) (ar_n it) (ar_n (mq_n F pn po k)) (ar_n (mq_o F pn po k)) rl rn oa ca il dm := by
      intro h
      have e := (hF k h8).2 h
      rw [mq_nu (F := F) (pn := pn) (po := po) (k := k) (by rw [e]), mq_ou (F := F) (pn := pn) (po := po) (k := k) (by rw [e])]
      exact ih (k + 1) (by omega)
    refine br_f (nI_ge (b := 8) h8 (by omega)) (in_c (vp_in_nI h8 (by omega)) (nm_r ((ar_nc _ (by omega)).trans (congrArg nI (mq_ok k))) (in_c (vp_in_nI h8 (by omega)) (cb_i (d := pn k = nd) ?_ ?_ ?_))))
    · rw [ar_nc _ (by omega), mq_nk, nI_eq (by omega) (by omega)]
    · intro e
      refine cb_i (nI_ltI (by omega) (by omega)) (fun l => nm_r (nI_1 k) (same (by omega))) (fun l => ?_)
      have e2 := (hF k h8).1 ⟨e, by omega⟩
      refine xx_setPlace h8 e2.1.symm e2.2.symm ?_
      rw [mq_ns (F := F) (pn := pn) (po := po) rfl, mq_os (F := F) (pn := pn) (po := po) rfl]
      exact nm_r (nI_1 k) (ih (k + 1) (by omega))
    · intro e
      exact nm_r (nI_1 k) (same (by omega))
theorem xx_slidePlaces {c : Nat} {kd pa sz it pn po : Nat → Nat} {sg eg : Int32} {rl rn oa ca il dm : Nat → Int32} {post : SX → Prop} {nd lo : Nat} {x3 x4 : Int32} (F : Nat → Nat → Nat × Nat) (hb : ∀ k, k < 8 → pn k < 24 ∧ po k < 25) (hnd : nd < 24) (hlo : lo < 100)
    (hF : ∀ k, k < 8 → (pn k = nd ∧ lo ≤ po k → nI (F (pn k) (po k)).1 = x3 ∧ nI (F (pn k) (po k)).2 = nI (po k) + x4) ∧ (¬ (pn k = nd ∧ lo ≤ po k) → F (pn k) (po k) = (pn k, po k)))
    (hp : post (nI c, sg, eg, ar_n kd, ar_p pa, ar_n sz, ar_n it, ar_n (mp_n F pn po), ar_n (mp_o F pn po), rl, rn, oa, ca, il, dm)) : wpX_slidePlaces post (nI c, sg, eg, ar_n kd, ar_p pa, ar_n sz, ar_n it, ar_n pn, ar_n po, rl, rn, oa, ca, il, dm) (nI nd) (nI lo) x3 x4 := by
  refine ⟨9, ?_⟩
  have := xx_sl F hb hnd hlo hF hp 8 0 rfl
  rw [mq_n0, mq_o0] at this
  exact this
theorem xx_ga {c : Nat} {kd pa sz it pn po : Nat → Nat} {sg eg : Int32} {rl rn oa ca il dm : Nat → Int32} {post : SX → Prop} {nd lo hi : Nat} {x3 x4 : Int32} (F : Nat → Nat → Nat × Nat) (hb : ∀ k, k < 8 → pn k < 24 ∧ po k < 25) (hnd : nd < 24) (hlo : lo < 100) (hhi : hi < 100)
    (hF : ∀ k, k < 8 → (pn k = nd ∧ lo ≤ po k ∧ po k ≤ hi → nI (F (pn k) (po k)).1 = x3 ∧ nI (F (pn k) (po k)).2 = x4) ∧ (¬ (pn k = nd ∧ lo ≤ po k ∧ po k ≤ hi) → F (pn k) (po k) = (pn k, po k)))
    (hp : post (nI c, sg, eg, ar_n kd, ar_p pa, ar_n sz, ar_n it, ar_n (mp_n F pn po), ar_n (mp_o F pn po), rl, rn, oa, ca, il, dm)) :
    ∀ d k, k + d = 8 → wX_gatherPlaces_3 post (nI nd) (nI lo) (nI hi) x3 x4 (d + 1) (nI k) (nI c) sg eg (ar_n kd) (ar_p pa) (ar_n sz) (ar_n it) (ar_n (mq_n F pn po k)) (ar_n (mq_o F pn po k)) rl rn oa ca il dm := by
  intro d
  induction d with
  | zero =>
    intro k hk
    obtain rfl : k = 8 := by omega
    exact br_t (nI_le (a := 8) (by omega) (by omega)) hp
  | succ d ih =>
    intro k hk
    have h8 : k < 8 := by omega
    have hbk := hb k h8
    have same : ¬ (pn k = nd ∧ lo ≤ po k ∧ po k ≤ hi) → wX_gatherPlaces_3 post (nI nd) (nI lo) (nI hi) x3 x4 (d + 1) (nI (k + 1)) (nI c) sg eg (ar_n kd) (ar_p pa) (ar_n sz) (ar_n it) (ar_n (mq_n F pn po k)) (ar_n (mq_o F pn po k)) rl rn oa ca il dm := by
      intro h
      have e := (hF k h8).2 h
      rw [mq_nu (F := F) (pn := pn) (po := po) (k := k) (by rw [e]), mq_ou (F := F) (pn := pn) (po := po) (k := k) (by rw [e])]
      exact ih (k + 1) (by omega)
    refine br_f (nI_ge (b := 8) h8 (by omega)) (in_c (vp_in_nI h8 (by omega)) (nm_r ((ar_nc _ (by omega)).trans (congrArg nI (mq_ok k))) (in_c (vp_in_nI h8 (by omega)) (cb_i (d := pn k = nd) ?_ ?_ ?_))))
    · rw [ar_nc _ (by omega), mq_nk, nI_eq (by omega) (by omega)]
    · intro e
      refine cb_i (nI_ltI (by omega) (by omega)) (fun l => nm_r (nI_1 k) (same (by omega))) (fun l => cb_i (nI_ltI (by omega) (by omega)) (fun l => nm_r (nI_1 k) (same (by omega))) (fun l2 => ?_))
      have e2 := (hF k h8).1 ⟨e, by omega, by omega⟩
      refine xx_setPlace h8 e2.1.symm e2.2.symm ?_
      rw [mq_ns (F := F) (pn := pn) (po := po) rfl, mq_os (F := F) (pn := pn) (po := po) rfl]
      exact nm_r (nI_1 k) (ih (k + 1) (by omega))
    · intro e
      exact nm_r (nI_1 k) (same (by omega))
theorem xx_gatherPlaces {c : Nat} {kd pa sz it pn po : Nat → Nat} {sg eg : Int32} {rl rn oa ca il dm : Nat → Int32} {post : SX → Prop} {nd lo hi : Nat} {x3 x4 : Int32} (F : Nat → Nat → Nat × Nat) (hb : ∀ k, k < 8 → pn k < 24 ∧ po k < 25) (hnd : nd < 24) (hlo : lo < 100) (hhi : hi < 100)
    (hF : ∀ k, k < 8 → (pn k = nd ∧ lo ≤ po k ∧ po k ≤ hi → nI (F (pn k) (po k)).1 = x3 ∧ nI (F (pn k) (po k)).2 = x4) ∧ (¬ (pn k = nd ∧ lo ≤ po k ∧ po k ≤ hi) → F (pn k) (po k) = (pn k, po k)))
    (hp : post (nI c, sg, eg, ar_n kd, ar_p pa, ar_n sz, ar_n it, ar_n (mp_n F pn po), ar_n (mp_o F pn po), rl, rn, oa, ca, il, dm)) : wpX_gatherPlaces post (nI c, sg, eg, ar_n kd, ar_p pa, ar_n sz, ar_n it, ar_n pn, ar_n po, rl, rn, oa, ca, il, dm) (nI nd) (nI lo) (nI hi) x3 x4 := by
  refine ⟨9, ?_⟩
  have := xx_ga F hb hnd hlo hhi hF hp 8 0 rfl
  rw [mq_n0, mq_o0] at this
  exact this
/-- items moved down -/
theorem xx_s64 {c : Nat} {kd pa sz it pn po : Nat → Nat} {sg eg : Int32} {rl rn oa ca il dm : Nat → Int32} {post : SX → Prop} {n f s e : Nat} {x3 : Int32} (hn : n < 24) (hs : s ≤ 24) (hef : e ≤ f) (h3 : ∀ a, e ≤ a → nI a + x3 = nI (a - e)) (hp : wX_shiftItems_99 post (nI n) x3 (nI s) (nI c) sg eg (ar_n kd) (ar_p pa) (ar_n sz) (ar_n (mv_l it (24 * n) f s e)) (ar_n pn) (ar_n po) rl rn oa ca il dm) :
    ∀ d k, k + d = s → f ≤ k → wX_shiftItems_64 post (nI n) x3 (nI (24 * n)) (nI s) (nI c) sg eg (d + 1) (nI k) (ar_n kd) (ar_p pa) (ar_n sz) (ar_n (mv_l it (24 * n) f k e)) (ar_n pn) (ar_n po) rl rn oa ca il dm := by
  intro d
  induction d with
  | zero =>
    intro k hk hf
    obtain rfl : k = s := by omega
    exact br_t (nI_le (by omega) (by omega)) hp
  | succ d ih =>
    intro k hk hf
    refine br_f (nI_ge (by omega) (by omega)) ?_
    rw [nI_add, h3 _ (by omega)]
    refine in_c (vp_in_nI (by omega) (by omega)) (in_c (vp_in_nI (by omega) (by omega)) (nm_r ?_ (nm_r (nI_1 k) (ih (k + 1) (by omega) (by omega)))))
    rw [ar_nc _ (by omega), nI_clamp (by omega), mv_lk, ar_nu, mv_ls it hf (by omega)]
/-- items moved up -/
theorem xx_s24 {c : Nat} {kd pa sz it pn po : Nat → Nat} {sg eg : Int32} {rl rn oa ca il dm : Nat → Int32} {post : SX → Prop} {n f s e : Nat} (hn : n < 24) (hs : s + e ≤ 24) (hp : wX_shiftItems_99 post (nI n) (nI e) (nI s) (nI c) sg eg (ar_n kd) (ar_p pa) (ar_n sz) (ar_n (mv_r it (24 * n) f s e)) (ar_n pn) (ar_n po) rl rn oa ca il dm) :
    ∀ d k, k = f + d → k ≤ s → wX_shiftItems_24 post (nI n) (nI f) (nI e) (nI (24 * n)) (nI s) (nI c) sg eg (d + 1) (nI k - 1) (ar_n kd) (ar_p pa) (ar_n sz) (ar_n (mv_r it (24 * n) k s e)) (ar_n pn) (ar_n po) rl rn oa ca il dm := by
  intro d
  induction d with
  | zero =>
    intro k hk hf
    obtain rfl : k = f := by omega
    exact br_t ((ar_ltf (by omega) (by omega)).mpr (by omega)) hp
  | succ d ih =>
    intro k hk hf
    obtain ⟨k, rfl⟩ : ∃ j, k = j + 1 := ⟨k - 1, by omega⟩
    refine br_f (fun z => by rw [ar_ltf (by omega) (by omega)] at z; omega) ?_
    rw [nI_pred, nI_add, nI_add]
    refine in_c (vp_in_nI (by omega) (by omega)) (in_c (vp_in_nI (by omega) (by omega)) (nm_r ?_ (nm_r (nj_d1 k) (ih k (by omega) (by omega)))))
    rw [ar_nc _ (by omega), nI_clamp (by omega), mv_rk, ar_nu, mv_rs it (by omega)]
theorem xx_shiftDown {c : Nat} {kd pa sz it pn po : Nat → Nat} {sg eg : Int32} {rl rn oa ca il dm : Nat → Int32} {post : SX → Prop} {n f e : Nat} {x3 : Int32} (hn : n < 24) (hs : sz n ≤ 24) (hef : e ≤ f) (hf : f ≤ sz n) (h0 : x3 ≤ 0) (h3 : ∀ a, e ≤ a → nI a + x3 = nI (a - e)) (hp : post (nI c, sg, eg, ar_n kd, ar_p pa, ar_n (st_u sz n (sz n - e)), ar_n (mv_l it (24 * n) f (sz n) e), ar_n pn, ar_n po, rl, rn, oa, ca, il, dm)) : wpX_shiftItems post (nI c, sg, eg, ar_n kd, ar_p pa, ar_n sz, ar_n it, ar_n pn, ar_n po, rl, rn, oa, ca, il, dm) (nI n) (nI f) x3 := by
  refine nm_r (show nI n * 24 = nI (24 * n) by rw [show (24 : Int32) = nI 24 from rfl, pk_mul, Nat.mul_comm]) (in_c (vp_in_nI hn (by omega)) (nm_r (ar_nc sz (by omega)) (br_t h0 ⟨sz n - f + 1, ?_⟩)))
  have q : wX_shiftItems_99 post (nI n) x3 (nI (sz n)) (nI c) sg eg (ar_n kd) (ar_p pa) (ar_n sz) (ar_n (mv_l it (24 * n) f (sz n) e)) (ar_n pn) (ar_n po) rl rn oa ca il dm :=
    in_c (vp_in_nI hn (by omega)) (nm_r (by rw [h3 _ (by omega), nI_clamp (by omega), ar_nu]) hp)
  have := xx_s64 (post := post) hn hs hef h3 q (sz n - f) f (by omega) (Nat.le_refl f)
  rw [mv_l0] at this
  exact this
theorem xx_shiftUp {c : Nat} {kd pa sz it pn po : Nat → Nat} {sg eg : Int32} {rl rn oa ca il dm : Nat → Int32} {post : SX → Prop} {n f e : Nat} (hn : n < 24) (hs : sz n + e ≤ 24) (he : 0 < e) (hf : f ≤ sz n) (hp : post (nI c, sg, eg, ar_n kd, ar_p pa, ar_n (st_u sz n (sz n + e)), ar_n (mv_r it (24 * n) f (sz n) e), ar_n pn, ar_n po, rl, rn, oa, ca, il, dm)) : wpX_shiftItems post (nI c, sg, eg, ar_n kd, ar_p pa, ar_n sz, ar_n it, ar_n pn, ar_n po, rl, rn, oa, ca, il, dm) (nI n) (nI f) (nI e) := by
  refine nm_r (show nI n * 24 = nI (24 * n) by rw [show (24 : Int32) = nI 24 from rfl, pk_mul, Nat.mul_comm]) (in_c (vp_in_nI hn (by omega)) (nm_r (ar_nc sz (by omega)) (br_f (nI_nle he (by omega)) (nm_e ⟨sz n - f + 1, ?_⟩))))
  have q : wX_shiftItems_99 post (nI n) (nI e) (nI (sz n)) (nI c) sg eg (ar_n kd) (ar_p pa) (ar_n sz) (ar_n (mv_r it (24 * n) f (sz n) e)) (ar_n pn) (ar_n po) rl rn oa ca il dm :=
    in_c (vp_in_nI hn (by omega)) (nm_r (by rw [nI_add, nI_clamp (by omega), ar_nu]) hp)
  have := xx_s24 (post := post) hn hs q (sz n - f) (sz n) (by omega) (Nat.le_refl _)
  rw [mv_r0] at this
  exact this
