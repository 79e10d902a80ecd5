/-! X's changing methods against the pure core -/
theorem st_id (f : Nat → Nat) (i : Nat) : st_u f i (f i) = f := by
  funext j
  unfold st_u
  split
  · rename_i e; rw [e]
  · rfl
theorem st_e (f : Nat → Nat) {i x : Nat} (h : x = f i) : st_u f i x = f := by rw [h]; exact st_id f i
theorem mp_nn (F G : Nat → Nat → Nat × Nat) (pn po : Nat → Nat) : mp_n G (mp_n F pn po) (mp_o F pn po) = mp_n (fun v o => G (F v o).1 (F v o).2) pn po := by
  funext k
  unfold mp_n mp_o
  by_cases h : k < 8
  · simp only [if_pos h]
  · simp only [if_neg h]
theorem mp_oo (F G : Nat → Nat → Nat × Nat) (pn po : Nat → Nat) : mp_o G (mp_n F pn po) (mp_o F pn po) = mp_o (fun v o => G (F v o).1 (F v o).2) pn po := by
  funext k
  unfold mp_n mp_o
  by_cases h : k < 8
  · simp only [if_pos h]
  · simp only [if_neg h]
theorem mp_nc {F G : Nat → Nat → Nat × Nat} {pn po : Nat → Nat} (h : ∀ k, k < 8 → F (pn k) (po k) = G (pn k) (po k)) : mp_n F pn po = mp_n G pn po := by
  funext k
  unfold mp_n
  by_cases z : k < 8
  · rw [if_pos z, if_pos z, h k z]
  · rw [if_neg z, if_neg z]
theorem mp_oc {F G : Nat → Nat → Nat × Nat} {pn po : Nat → Nat} (h : ∀ k, k < 8 → F (pn k) (po k) = G (pn k) (po k)) : mp_o F pn po = mp_o G pn po := by
  funext k
  unfold mp_o
  by_cases z : k < 8
  · rw [if_pos z, if_pos z, h k z]
  · rw [if_neg z, if_neg z]
theorem mp_ni {F : Nat → Nat → Nat × Nat} {pn po : Nat → Nat} (h : ∀ k, k < 8 → F (pn k) (po k) = (pn k, po k)) : mp_n F pn po = pn := by
  funext k
  unfold mp_n
  by_cases z : k < 8
  · rw [if_pos z, h k z]
  · rw [if_neg z]
theorem mp_oi {F : Nat → Nat → Nat × Nat} {pn po : Nat → Nat} (h : ∀ k, k < 8 → F (pn k) (po k) = (pn k, po k)) : mp_o F pn po = po := by
  funext k
  unfold mp_o
  by_cases z : k < 8
  · rw [if_pos z, h k z]
  · rw [if_neg z]
theorem nj_b1 {a : Nat} (h : 1 ≤ a) : nI a + (-1) = nI (a - 1) := by
  obtain ⟨b, rfl⟩ : ∃ b, a = b + 1 := ⟨a - 1, by omega⟩
  exact pk_m1 b
/-- valid places are small numbers -/
theorem pl_sm8 {c : Nat} {kd pa sz it pn po : Nat → Nat} (T : tr_T c kd pa sz it) (V : ∀ k, k < 8 → pl_ok c sz (pn k) (po k)) : ∀ k, k < 8 → pn k < 24 ∧ po k < 25 := by
  intro k hk
  have h := V k hk
  have := tr_c24 T
  have := tr_s24 T h.1
  have := h.1
  have := h.2
  omega
theorem xx_makeNode {c : Nat} {kd pa sz it pn po : Nat → Nat} {sg eg : Int32} {rl rn oa ca il dm : Nat → Int32} {post : Int32 → SX → Prop} {k : Nat} (hc : c < 24) (hp : post (nI c) (nI (c+1), sg, eg, ar_n (st_u kd c k), ar_p (st_u pa c 0), ar_n (st_u sz c 0), ar_n it, ar_n pn, ar_n po, rl, rn, oa, ca, il, dm)) : wpX_makeNode post (nI c, sg, eg, ar_n kd, ar_p pa, ar_n sz, ar_n it, ar_n pn, ar_n po, rl, rn, oa, ca, il, dm) (nI k) := by
  have hi : vp_in (nI c) 24 := vp_in_nI hc (by omega)
  refine in_c hi (nm_r (show upd (ar_n kd) (nI c).toNatClampNeg (nI k) = _ by rw [nI_clamp (by omega), ar_nu]) (in_c hi (nm_r (show upd (ar_p pa) (nI c).toNatClampNeg (-1) = _ by rw [nI_clamp (by omega), ar_pm]) (in_c hi (nm_r (show upd (ar_n sz) (nI c).toNatClampNeg (nI 0) = _ by rw [nI_clamp (by omega), ar_nu]) (nm_r (nI_1 c) hp))))))
noncomputable def pl_t1 (pa : Nat → Nat) (n p i v o : Nat) : Nat × Nat := cl_if (tr_w pa (v + 1) n) (p, i) (v, o)
def pl_t2 (p i v o : Nat) : Nat × Nat := if v = p ∧ i + 1 ≤ o then (p, o - 1) else (v, o)
theorem pl_t12 (pa : Nat → Nat) (n p i v o : Nat) : pl_t2 p i (pl_t1 pa n p i v o).1 (pl_t1 pa n p i v o).2 = pl_tk pa n p i v o := by
  unfold pl_t1 pl_t2 pl_tk
  by_cases z : tr_w pa (v + 1) n
  · rw [cl_t z, cl_t z]; dsimp only; rw [if_neg (by omega)]
  · rw [cl_f z, cl_f z]; dsimp only
    by_cases y : v = p ∧ i < o
    · rw [if_pos y, if_pos (by omega), y.1]
    · rw [if_neg y, if_neg (by omega)]
theorem xx_tkl {c : Nat} {kd pa sz it pn po : Nat → Nat} {sg eg : Int32} {rl rn oa ca il dm : Nat → Int32} {post : SX → Prop} {n p i : Nat} (T : tr_T c kd pa sz it) (V : ∀ k, k < 8 → pl_ok c sz (pn k) (po k)) (hn : n < c)
    (H : wX_takeOut_16 post (nI n) (nI p) (nI i) 1 (nI 8) (nI c) sg eg (ar_n kd) (ar_p pa) (ar_n sz) (ar_n it) (ar_n (mp_n (pl_t1 pa n p i) pn po)) (ar_n (mp_o (pl_t1 pa n p i) pn po)) rl rn oa ca il dm) :
    ∀ d k, k + d = 8 → wX_takeOut_16 post (nI n) (nI p) (nI i) (d + 1) (nI k) (nI c) sg eg (ar_n kd) (ar_p pa) (ar_n sz) (ar_n it) (ar_n (mq_n (pl_t1 pa n p i) pn po k)) (ar_n (mq_o (pl_t1 pa n p i) pn po k)) rl rn oa ca il dm := by
  intro d
  induction d with
  | zero =>
    intro k hk
    obtain rfl : k = 8 := by omega
    exact H
  | succ d ih =>
    intro k hk
    have h8 : k < 8 := by omega
    refine br_f (nI_ge (b := 8) h8 (by omega)) (in_c (vp_in_nI h8 (by omega)) ?_)
    rw [ar_nc _ (by omega), mq_nk]
    refine xx_isWithin T (V k h8).1 hn (fun z => br_f (by decide) ?_) (fun z => br_t rfl ?_)
    · refine xx_setPlace h8 rfl rfl ?_
      rw [mq_ns (F := pl_t1 pa n p i) (pn := pn) (po := po) (by unfold pl_t1; rw [cl_t z]), mq_os (F := pl_t1 pa n p i) (pn := pn) (po := po) (by unfold pl_t1; rw [cl_t z])]
      exact nm_r (nI_1 k) (ih (k + 1) (by omega))
    · rw [mq_nu (F := pl_t1 pa n p i) (pn := pn) (po := po) (k := k) (by unfold pl_t1; rw [cl_f z]), mq_ou (F := pl_t1 pa n p i) (pn := pn) (po := po) (k := k) (by unfold pl_t1; rw [cl_f z])]
      exact nm_r (nI_1 k) (ih (k + 1) (by omega))
theorem xx_takeOut {c : Nat} {kd pa sz it pn po : Nat → Nat} {sg eg : Int32} {rl rn oa ca il dm : Nat → Int32} {post : SX → Prop} {n p i : Nat} (T : tr_T c kd pa sz it) (V : ∀ k, k < 8 → pl_ok c sz (pn k) (po k)) (hn : n < c) (hp : pa n = p + 1) (hi : i < sz p) (he : it (24 * p + i) = n)
    (h : post (nI c, sg, eg, ar_n kd, ar_p (st_u pa n 0), ar_n (st_u sz p (sz p - 1)), ar_n (mv_l it (24 * p) (i + 1) (sz p) 1), ar_n (mp_n (pl_tk pa n p i) pn po), ar_n (mp_o (pl_tk pa n p i) pn po), rl, rn, oa, ca, il, dm)) : wpX_takeOut post (nI c, sg, eg, ar_n kd, ar_p pa, ar_n sz, ar_n it, ar_n pn, ar_n po, rl, rn, oa, ca, il, dm) (nI n) := by
  have c24 := tr_c24 T
  obtain ⟨h1, h2, _⟩ := tr_pe T hn hp
  have s24 := tr_s24 T h1
  have b8 := pl_sm8 T V
  refine in_c (vp_in_nI (by omega) (by omega)) (nm_r ((ar_pc pa (by omega)).trans (by rw [hp, nI_pred])) (xx_indexOf T hn hp hi he ⟨9, ?_⟩))
  have H : wX_takeOut_16 post (nI n) (nI p) (nI i) 1 (nI 8) (nI c) sg eg (ar_n kd) (ar_p pa) (ar_n sz) (ar_n it) (ar_n (mp_n (pl_t1 pa n p i) pn po)) (ar_n (mp_o (pl_t1 pa n p i) pn po)) rl rn oa ca il dm := by
    refine br_t (nI_le (a := 8) (by omega) (by omega)) ?_
    rw [nI_1 i]
    refine xx_slidePlaces (pl_t2 p i) ?_ (by omega) (by omega) ?_ ?_
    · intro k hk
      rw [mp_n1 hk, mp_o1 hk]
      have := b8 k hk
      unfold pl_t1
      by_cases z : tr_w pa (pn k + 1) n
      · rw [cl_t z]; dsimp only; omega
      · rw [cl_f z]; exact this
    · intro k hk
      refine ⟨fun e => ?_, fun e => ?_⟩
      · unfold pl_t2
        rw [if_pos e]
        exact ⟨rfl, (nj_b1 (by omega)).symm⟩
      · unfold pl_t2
        rw [if_neg e]
    · rw [mp_nn, mp_oo, mp_nc (G := pl_tk pa n p i) (fun k _ => pl_t12 pa n p i (pn k) (po k)), mp_oc (G := pl_tk pa n p i) (fun k _ => pl_t12 pa n p i (pn k) (po k))]
      refine xx_shiftDown (e := 1) (by omega) (by omega) (by omega) (by omega) (by decide) (fun a ha => nj_b1 ha) ?_
      exact in_c (vp_in_nI (by omega) (by omega)) (nm_r (show upd (ar_p pa) (nI n).toNatClampNeg (-1) = _ by rw [nI_clamp (by omega), ar_pm]) h)
  have := xx_tkl T V hn H 8 0 rfl
  rw [mq_n0, mq_o0] at this
  exact this
theorem xx_putIn {c : Nat} {kd pa sz it pn po : Nat → Nat} {sg eg : Int32} {rl rn oa ca il dm : Nat → Int32} {post : SX → Prop} {n p i : Nat} (T : tr_T c kd pa sz it) (V : ∀ k, k < 8 → pl_ok c sz (pn k) (po k)) (hn : n < c) (hp : p < c) (hs : sz p + 1 ≤ 24) (hi : i ≤ sz p)
    (h : post (nI c, sg, eg, ar_n kd, ar_p (st_u pa n (p + 1)), ar_n (st_u sz p (sz p + 1)), ar_n (st_u (mv_r it (24 * p) i (sz p) 1) (24 * p + i) n), ar_n (mp_n (pl_pt p i) pn po), ar_n (mp_o (pl_pt p i) pn po), rl, rn, oa, ca, il, dm)) : wpX_putIn post (nI c, sg, eg, ar_n kd, ar_p pa, ar_n sz, ar_n it, ar_n pn, ar_n po, rl, rn, oa, ca, il, dm) (nI p) (nI n) (nI i) := by
  have c24 := tr_c24 T
  have b8 := pl_sm8 T V
  unfold wpX_putIn
  dsimp only
  rw [nI_1 i]
  refine xx_slidePlaces (pl_pt p i) b8 (by omega) (by omega) ?_ ?_
  · intro k hk
    have := b8 k hk
    refine ⟨fun e => ?_, fun e => ?_⟩
    · unfold pl_pt
      rw [if_pos (by omega)]
      exact ⟨by rw [e.1], (nI_1 _).symm⟩
    · unfold pl_pt
      rw [if_neg (by omega)]
  · refine xx_shiftUp (e := 1) (by omega) hs (by omega) hi ?_
    rw [ix_x]
    refine in_c (vp_in_nI (by omega) (by omega)) (nm_r (show upd (ar_n (mv_r it (24 * p) i (sz p) 1)) (nI (24 * p + i)).toNatClampNeg (nI n) = _ by rw [nI_clamp (by omega), ar_nu]) (in_c (vp_in_nI (by omega) (by omega)) (nm_r (show upd (ar_p pa) (nI n).toNatClampNeg (nI p) = _ by rw [nI_clamp (by omega), ar_pq]) h)))
/-- how many digits: x tells k digits of d -/
def dg_c (x : Int32) (k d : Nat) : Prop := (x = -1 ∧ k = 0 ∧ d = 0) ∨ (x = nI d ∧ ((d < 10 ∧ k = 1) ∨ (10 ≤ d ∧ d < 100 ∧ k = 2) ∨ (100 ≤ d ∧ d < 1000 ∧ k = 3) ∨ (1000 ≤ d ∧ d < 10000 ∧ k = 4)))
theorem dg_k {x : Int32} {k d : Nat} (h : dg_c x k d) : k ≤ 4 ∧ d < 10000 := by
  rcases h with h | h <;> omega
theorem xx_digitCount {c : Nat} {kd pa sz it pn po : Nat → Nat} {sg eg : Int32} {rl rn oa ca il dm : Nat → Int32} {post : Int32 → Prop} {x : Int32} {k d : Nat} (h : dg_c x k d) (hp : post (nI k)) : wpX_digitCount post (nI c, sg, eg, ar_n kd, ar_p pa, ar_n sz, ar_n it, ar_n pn, ar_n po, rl, rn, oa, ca, il, dm) x := by
  rcases h with ⟨rfl, rfl, _⟩ | ⟨rfl, h⟩
  · exact br_t rfl hp
  · refine br_f (fun z => ?_) ?_
    · have := nI_pos (n := d) (by omega)
      rw [z] at this
      exact this (by decide)
    · rcases h with ⟨h1, rfl⟩ | ⟨h0, h1, rfl⟩ | ⟨h0, h1, rfl⟩ | ⟨h0, h1, rfl⟩
      · exact br_f (nI_ge (b := 10) h1 (by omega)) hp
      · exact br_t (nI_le (a := 10) h0 (by omega)) (br_f (nI_ge (b := 100) h1 (by omega)) hp)
      · exact br_t (nI_le (a := 10) (by omega) (by omega)) (br_t (nI_le (a := 100) h0 (by omega)) (br_f (nI_ge (b := 1000) h1 (by omega)) hp))
      · exact br_t (nI_le (a := 10) (by omega) (by omega)) (br_t (nI_le (a := 100) (by omega) (by omega)) (br_t (nI_le (a := 1000) h0 (by omega)) hp))
theorem xx_dgl {c : Nat} {kd pa sz it pn po : Nat → Nat} {sg eg : Int32} {rl rn oa ca il dm : Nat → Int32} {post : SX → Prop} {t a : Nat} (ht : t < 24) : ∀ k d (it : Nat → Nat), a + k ≤ 24 → d < 10000 → post (nI c, sg, eg, ar_n kd, ar_p pa, ar_n sz, ar_n (dg_w k (24 * t + a) d it), ar_n pn, ar_n po, rl, rn, oa, ca, il, dm) → wX_replaceLetters_58 post (nI t) (nI a) (nI c) sg eg (k + 1) (nI d) (nI k - 1) (ar_n kd) (ar_p pa) (ar_n sz) (ar_n it) (ar_n pn) (ar_n po) rl rn oa ca il dm := by
  intro k
  induction k with
  | zero => intro d it _ _ hp; exact br_t (by decide) hp
  | succ k ih =>
    intro d it ha hd hp
    refine br_f (by rw [ar_neg (by omega)]; omega) (And.intro (by decide) ?_)
    rw [nI_pred, ix_x, nI_add]
    refine in_c (vp_in_nI (by omega) (by omega)) (nm_r (e' := ar_n (st_u it (24 * t + a + k) (d % 10))) ?_ (And.intro (by decide) (nm_r (e' := nI (d / 10)) ?_ (nm_r (nj_d1 k) (ih (d / 10) _ (by omega) (by omega) hp)))))
    · rw [nI_clamp (by omega), show (10 : Int32) = nI 10 from rfl, pk_rem (by omega) (by omega) (by omega), ar_nu]
    · rw [show (10 : Int32) = nI 10 from rfl, pk_div (by omega) (by omega) (by omega)]
def ex_g (a c k o : Nat) : Nat := if o ≤ a then o else if o ≤ a + c then a else o + k - c
def ex_i (it : Nat → Nat) (t a c k s : Nat) : Nat → Nat := if k ≤ c then mv_l it (24 * t) (a + c) s (c - k) else mv_r it (24 * t) (a + c) s (k - c)
def ex_1 (t a c v o : Nat) : Nat × Nat := if v = t ∧ a + 1 ≤ o ∧ o ≤ a + c then (t, a) else (v, o)
def ex_2 (t a c k v o : Nat) : Nat × Nat := if v = t ∧ a + c + 1 ≤ o then (t, o + k - c) else (v, o)
theorem ex_12 (t a c k v o : Nat) : ex_2 t a c k (ex_1 t a c v o).1 (ex_1 t a c v o).2 = pl_ex t (ex_g a c k) v o := by
  unfold pl_ex ex_g
  by_cases e : v = t
  · rw [if_pos e]
    by_cases h1 : a + 1 ≤ o ∧ o ≤ a + c
    · have e1 : ex_1 t a c v o = (t, a) := by unfold ex_1; exact if_pos ⟨e, h1⟩
      rw [e1, if_neg (by omega), if_pos (by omega)]
      unfold ex_2
      exact if_neg (by omega)
    · have e1 : ex_1 t a c v o = (v, o) := by unfold ex_1; exact if_neg (fun z => h1 z.2)
      rw [e1]
      unfold ex_2
      by_cases h2 : a + c + 1 ≤ o
      · rw [if_pos ⟨e, h2⟩, if_neg (by omega), if_neg (by omega)]
      · rw [if_neg (fun z => h2 z.2), if_pos (by omega), e]
  · rw [if_neg e]
    have e1 : ex_1 t a c v o = (v, o) := by unfold ex_1; exact if_neg (fun z => e z.1)
    rw [e1]
    unfold ex_2
    exact if_neg (fun z => e z.1)
theorem nj_sb {k c : Nat} (hk : k < 2 ^ 30) (hc : c < 2 ^ 30) (o : Nat) (h : c ≤ o) : nI (o + k - c) = nI o + (nI k - nI c) := by
  rw [← pk_sub (by omega), ← nI_add, Int32.sub_eq_add_neg, Int32.sub_eq_add_neg, Int32.add_assoc]
theorem xx_replaceLetters {c : Nat} {kd pa sz it pn po : Nat → Nat} {sg eg : Int32} {rl rn oa ca il dm : Nat → Int32} {post : SX → Prop} {t a g k d : Nat} {x : Int32} (T : tr_T c kd pa sz it) (V : ∀ k, k < 8 → pl_ok c sz (pn k) (po k)) (ht : t < c) (ha : a + g ≤ sz t) (hk : sz t + k - g ≤ 12) (s12 : sz t ≤ 12) (hx : dg_c x k d)
    (h : post (nI c, sg, eg, ar_n kd, ar_p pa, ar_n (st_u sz t (sz t + k - g)), ar_n (dg_w k (24 * t + a) d (ex_i it t a g k (sz t))), ar_n (mp_n (pl_ex t (ex_g a g k)) pn po), ar_n (mp_o (pl_ex t (ex_g a g k)) pn po), rl, rn, oa, ca, il, dm)) : wpX_replaceLetters post (nI c, sg, eg, ar_n kd, ar_p pa, ar_n sz, ar_n it, ar_n pn, ar_n po, rl, rn, oa, ca, il, dm) (nI t) (nI a) (nI g) x := by
  have c24 := tr_c24 T
  have b8 := pl_sm8 T V
  have k4 := dg_k hx
  unfold wpX_replaceLetters
  dsimp only
  refine xx_digitCount hx ?_
  rw [nI_1 a, nI_add, nI_1 (a + g)]
  have fin : ∀ sz' it', post (nI c, sg, eg, ar_n kd, ar_p pa, ar_n sz', ar_n (dg_w k (24 * t + a) d it'), ar_n (mp_n (pl_ex t (ex_g a g k)) pn po), ar_n (mp_o (pl_ex t (ex_g a g k)) pn po), rl, rn, oa, ca, il, dm) → ∃ n58 : Nat, wX_replaceLetters_58 post (nI t) (nI a) (nI c) sg eg n58 x (nI k - 1) (ar_n kd) (ar_p pa) (ar_n sz') (ar_n it') (ar_n (mp_n (pl_ex t (ex_g a g k)) pn po)) (ar_n (mp_o (pl_ex t (ex_g a g k)) pn po)) rl rn oa ca il dm := by
    intro sz' it' h
    refine ⟨k + 1, ?_⟩
    rcases hx with ⟨_, rfl, rfl⟩ | ⟨rfl, hx⟩
    · exact br_t (by decide) h
    · exact xx_dgl (it := it) (by omega) k d it' (by omega) (by omega) h
  refine xx_gatherPlaces (ex_1 t a g) b8 (by omega) (by omega) (by omega) ?_ ?_
  · intro j hj
    refine ⟨fun e => ?_, fun e => ?_⟩
    · unfold ex_1; rw [if_pos e]; exact ⟨rfl, rfl⟩
    · unfold ex_1; rw [if_neg e]
  · refine xx_slidePlaces (ex_2 t a g k) ?_ (by omega) (by omega) ?_ ?_
    · intro j hj
      rw [mp_n1 hj, mp_o1 hj]
      have := b8 j hj
      unfold ex_1
      split
      · dsimp only; omega
      · exact this
    · intro j hj
      refine ⟨fun e => ?_, fun e => ?_⟩
      · unfold ex_2; rw [if_pos e]; exact ⟨rfl, nj_sb (by omega) (by omega) _ (by omega)⟩
      · unfold ex_2; rw [if_neg e]
    · rw [mp_nn, mp_oo, mp_nc (F := fun v o => ex_2 t a g k (ex_1 t a g v o).1 (ex_1 t a g v o).2) (G := pl_ex t (ex_g a g k)) (fun j _ => ex_12 t a g k (pn j) (po j)), mp_oc (F := fun v o => ex_2 t a g k (ex_1 t a g v o).1 (ex_1 t a g v o).2) (G := pl_ex t (ex_g a g k)) (fun j _ => ex_12 t a g k (pn j) (po j))]
      by_cases l : k ≤ g
      · unfold ex_i at h
        rw [if_pos l] at h
        refine xx_shiftDown (e := g - k) (by omega) (by omega) (by omega) (by omega) ?_ ?_ (nm_e (fin _ _ ?_))
        · rw [Int32.le_iff_toInt_le, pk_sub_toInt (by omega) (by omega), show (0 : Int32).toInt = 0 from by decide]; omega
        · intro b hb
          have := nj_sb (k := k) (c := g) (by omega) (by omega) (b + g) (by omega)
          rw [show b + g + k - g = b + k by omega] at this
          rw [show nI k - nI g = -nI (g - k) from ?_, ← Int32.sub_eq_add_neg, pk_sub hb]
          rw [← pk_sub l, Int32.neg_sub]
        · rw [show sz t - (g - k) = sz t + k - g by omega]; exact h
      · unfold ex_i at h
        rw [if_neg l] at h
        rw [pk_sub (by omega)]
        refine xx_shiftUp (e := k - g) (by omega) (by omega) (by omega) (by omega) (nm_e (fin _ _ ?_))
        rw [show sz t + (k - g) = sz t + k - g by omega]; exact h
theorem xx_hl {c : Nat} {kd pa sz it pn po : Nat → Nat} {sg eg : Int32} {rl rn oa ca il dm : Nat → Int32} {post : SX → Prop} {f o t : Nat} (hf : f < 24) (ht : t < 24) (ne : f ≠ t) (h1 : sz f ≤ 24) (h2 : sz t + (sz f - o) ≤ 24)
    (h : post (nI c, sg, eg, ar_n kd, ar_p pa, ar_n (st_u (st_u sz t (sz t + (sz f - o))) f o), ar_n (cp_i it (24 * f + o) (24 * t + sz t) (sz f - o)), ar_n pn, ar_n po, rl, rn, oa, ca, il, dm)) :
    ∀ d j, o + j + d = sz f → wX_handLetters_11 post (nI f) (nI o) (nI t) (nI (sz f)) (nI c) sg eg (d + 1) (nI (o + j)) (ar_n kd) (ar_p pa) (ar_n (st_u sz t (sz t + j))) (ar_n (cp_i it (24 * f + o) (24 * t + sz t) j)) (ar_n pn) (ar_n po) rl rn oa ca il dm := by
  intro d
  induction d with
  | zero =>
    intro j hj
    obtain rfl : j = sz f - o := by omega
    exact br_t (nI_le (by omega) (by omega)) (in_c (vp_in_nI hf (by omega)) (nm_r (show upd (ar_n (st_u sz t (sz t + (sz f - o)))) (nI f).toNatClampNeg (nI o) = _ by rw [nI_clamp (by omega), ar_nu]) h))
  | succ d ih =>
    intro j hj
    refine br_f (nI_ge (by omega) (by omega)) (in_c (vp_in_nI ht (by omega)) ?_)
    rw [ix_x, ar_nc _ (by omega), st_us, ix_x, nI_1]
    refine in_c (vp_in_nI (by omega) (by omega)) (in_c (vp_in_nI (by omega) (by omega)) (nm_r (e' := ar_n (cp_i it (24 * f + o) (24 * t + sz t) (j + 1))) ?_ (in_c (vp_in_nI ht (by omega)) (in_c (vp_in_nI ht (by omega)) (nm_r (e' := ar_n (st_u sz t (sz t + (j + 1)))) ?_ (nm_r (nI_1 (o + j)) (ih (j + 1) (by omega))))))))
    · rw [ar_nc _ (by omega), nI_clamp (by omega), show 24 * f + (o + j) = 24 * f + o + j by omega, cp_k it (by omega), show 24 * t + (sz t + j) = 24 * t + sz t + j by omega, ar_nu, cp_s]
    · rw [nI_clamp (by omega), ar_nu]
      congr 1
      funext q
      unfold st_u
      split <;> rfl
theorem xx_handLetters {c : Nat} {kd pa sz it pn po : Nat → Nat} {sg eg : Int32} {rl rn oa ca il dm : Nat → Int32} {post : SX → Prop} {f o t : Nat} (hf : f < 24) (ht : t < 24) (ne : f ≠ t) (h1 : sz f ≤ 24) (ho : o ≤ sz f) (h2 : sz t + (sz f - o) ≤ 24)
    (h : post (nI c, sg, eg, ar_n kd, ar_p pa, ar_n (st_u (st_u sz t (sz t + (sz f - o))) f o), ar_n (cp_i it (24 * f + o) (24 * t + sz t) (sz f - o)), ar_n pn, ar_n po, rl, rn, oa, ca, il, dm)) : wpX_handLetters post (nI c, sg, eg, ar_n kd, ar_p pa, ar_n sz, ar_n it, ar_n pn, ar_n po, rl, rn, oa, ca, il, dm) (nI f) (nI o) (nI t) := by
  refine in_c (vp_in_nI hf (by omega)) (nm_r (ar_nc sz (by omega)) ⟨sz f - o + 1, ?_⟩)
  have := xx_hl hf ht ne h1 h2 h (sz f - o) 0 (by omega)
  rw [cp_0, show sz t + 0 = sz t from rfl, st_id] at this
  exact this
theorem xx_nextChild_0 {c : Nat} {kd pa sz it pn po : Nat → Nat} {sg eg : Int32} {rl rn oa ca il dm : Nat → Int32} {post : Int32 → Prop} {n : Nat} (hn : n < 24) (hp : pa n = 0) (h : post (-1)) : wpX_nextChild post (nI c, sg, eg, ar_n kd, ar_p pa, ar_n sz, ar_n it, ar_n pn, ar_n po, rl, rn, oa, ca, il, dm) (nI n) :=
  in_c (vp_in_nI hn (by omega)) (nm_r ((ar_pc pa (by omega)).trans (by rw [hp])) (br_t (by decide) h))
theorem xx_nextChild {c : Nat} {kd pa sz it pn po : Nat → Nat} {sg eg : Int32} {rl rn oa ca il dm : Nat → Int32} {post : Int32 → Prop} {n p i : Nat} (T : tr_T c kd pa sz it) (hn : n < c) (hp : pa n = p + 1) (hi : i < sz p) (he : it (24 * p + i) = n) (h1 : i + 1 < sz p → post (nI (it (24 * p + (i + 1))))) (h0 : sz p ≤ i + 1 → post (-1)) : wpX_nextChild post (nI c, sg, eg, ar_n kd, ar_p pa, ar_n sz, ar_n it, ar_n pn, ar_n po, rl, rn, oa, ca, il, dm) (nI n) := by
  have c24 := tr_c24 T
  obtain ⟨hp0, _⟩ := tr_pe T hn hp
  have s24 := tr_s24 T hp0
  refine in_c (vp_in_nI (by omega) (by omega)) (nm_r ((ar_pc pa (by omega)).trans (by rw [hp, nI_pred])) (br_f ?_ (xx_indexOf T hn hp hi he (nm_r (nI_1 i) (in_c (vp_in_nI (by omega) (by omega)) (cb_i (d := sz p ≤ i + 1) ?_ h0 fun z => ?_))))))
  · intro z
    have := nI_pos (n := p) (by omega)
    rw [z] at this
    exact this (by decide)
  · rw [ar_nc sz (by omega), nI_leI (by omega) (by omega)]
  · rw [ix_x]
    exact in_c (vp_in_nI (by omega) (by omega)) (by rw [ar_nc it (by omega)]; exact h1 (by omega))
