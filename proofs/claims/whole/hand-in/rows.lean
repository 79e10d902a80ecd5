section
/-! rows of kit/rows/PURE-ROWS, pasted, then my own on numbers and arrays -/
theorem pk_us {f : Nat → Int32} {k : Nat} {x : Int32} : upd f k x k = x := if_pos rfl
theorem pk_un {f : Nat → Int32} {k j : Nat} {x : Int32} (h : j ≠ k) : upd f k x j = f j := if_neg h
theorem pk_sub {a b : Nat} (h : b ≤ a) : nI a - nI b = nI (a - b) := by
  obtain ⟨c, rfl⟩ : ∃ c, a = c + b := ⟨a - b, by omega⟩
  rw [← nI_add, Int32.add_sub_cancel, Nat.add_sub_cancel]
theorem pk_m1 (n : Nat) : nI (n + 1) + (-1) = nI n := by
  rw [← nI_1, Int32.add_assoc, show (1 : Int32) + (-1) = 0 from rfl, Int32.add_zero]
theorem pk_mul (a b : Nat) : nI a * nI b = nI (a * b) := (Int32.ofNat_mul a b).symm
theorem pk_div {a d : Nat} (ha : a < 2 ^ 31) (h0 : 0 < d) (hd : d < 2 ^ 31) : nI a / nI d = nI (a / d) := by
  apply Int32.toInt_inj.mp
  rw [lg_idiv_nonneg (by rw [nI_toInt ha]; omega) (by rw [nI_toInt hd]; omega), nI_toInt ha, nI_toInt hd, nI_toInt (Nat.lt_of_le_of_lt (Nat.div_le_self a d) ha)]
  first | rfl | exact (Int.natCast_ediv _ _).symm
theorem pk_rem {a d : Nat} (ha : a < 2 ^ 31) (h0 : 0 < d) (hd : d < 2 ^ 31) : nI a - nI a / nI d * nI d = nI (a % d) := by
  rw [pk_div ha h0 hd, pk_mul, pk_sub (Nat.div_mul_le_self a d)]
  exact congrArg nI (by have := Nat.div_add_mod' a d; omega)
theorem pk_sub_toInt {a b : Nat} (ha : a < 2 ^ 30) (hb : b < 2 ^ 30) : (nI a - nI b).toInt = (a : Int) - b := by
  rw [Int32.toInt_sub, nI_toInt (by omega), nI_toInt (by omega)]
  exact Int.bmod_eq_of_le (by omega) (by omega)
theorem pk_sneg {a b : Nat} (hb : b < 2 ^ 30) (h : a < b) : nI a - nI b < 0 := by
  rw [Int32.lt_iff_toInt_lt, pk_sub_toInt (by omega) hb, show (0 : Int32).toInt = 0 from by decide]
  omega
theorem pk_ix (x : Int32) {n : Nat} (hn : n < 2 ^ 31) : x < 0 ∨ nI n ≤ x ∨ ∃ j : Nat, j < n ∧ x = nI j := by
  by_cases h : x < 0
  · exact Or.inl h
  · obtain ⟨j, hj, rfl⟩ := nI_of h
    by_cases h2 : j < n
    · exact Or.inr (Or.inr ⟨j, h2, rfl⟩)
    · exact Or.inr (Or.inl (nI_le (by omega) hj))
theorem pk_le {x y : Int32} {A B : Prop} (a b : Nat) (f : a ≤ b → A) (g : b < a → B) (hx : x = nI a := by rfl) (hy : y = nI b := by rfl) (ha : a < 2 ^ 31 := by omega) (hb : b < 2 ^ 31 := by omega) : (x ≤ y → A) ∧ (¬ x ≤ y → B) := by
  subst hx hy
  rw [nI_leI ha hb]
  exact ⟨f, fun z => g (by omega)⟩
theorem pk_lt {x y : Int32} {A B : Prop} (a b : Nat) (f : a < b → A) (g : b ≤ a → B) (hx : x = nI a := by rfl) (hy : y = nI b := by rfl) (ha : a < 2 ^ 31 := by omega) (hb : b < 2 ^ 31 := by omega) : (x < y → A) ∧ (¬ x < y → B) := by
  subst hx hy
  rw [nI_ltI ha hb]
  exact ⟨f, fun z => g (by omega)⟩
theorem pk_eq {x y : Int32} {A B : Prop} (a b : Nat) (f : a = b → A) (g : a ≠ b → B) (hx : x = nI a := by rfl) (hy : y = nI b := by rfl) (ha : a < 2 ^ 31 := by omega) (hb : b < 2 ^ 31 := by omega) : (x = y → A) ∧ (¬ x = y → B) := by
  subst hx hy
  rw [nI_eq ha hb]
  exact ⟨f, g⟩
theorem pk_in {x : Int32} (n N : Nat) (h : n < N) (hx : x = nI n := by rfl) (hN : N < 2 ^ 31 := by omega) : vp_in x N := by
  subst hx
  exact vp_in_nI h hN
theorem pk_cl {x : Int32} (n : Nat) (hx : x = nI n := by rfl) (h : n < 2 ^ 31 := by omega) : x.toNatClampNeg = n := by
  subst hx
  exact nI_clamp h
theorem pk_least (P : Nat → Prop) (h : ∃ k, P k) : ∃ k, P k ∧ ∀ j, j < k → ¬ P j := by
  obtain ⟨k, hk⟩ := h
  induction k using Nat.strongRecOn with
  | ind k ih =>
    by_cases e : ∃ j, j < k ∧ P j
    · obtain ⟨j, hj, pj⟩ := e
      exact ih j hj pj
    · exact ⟨k, hk, fun j hj pj => e ⟨j, hj, pj⟩⟩
/-- an array of naturals, an array of 'number or none' -/
def ar_n (f : Nat → Nat) : Nat → Int32 := fun j => nI (f j)
def ar_p (f : Nat → Nat) : Nat → Int32 := fun j => nI (f j) - 1
def st_u (f : Nat → Nat) (i x : Nat) : Nat → Nat := fun j => if j = i then x else f j
theorem st_us (f : Nat → Nat) (i x : Nat) : st_u f i x i = x := if_pos rfl
theorem st_un {f : Nat → Nat} {i x j : Nat} (h : j ≠ i) : st_u f i x j = f j := if_neg h
theorem ar_nu (f : Nat → Nat) (i x : Nat) : upd (ar_n f) i (nI x) = ar_n (st_u f i x) := by
  funext j; unfold upd ar_n st_u; split <;> rfl
theorem ar_pu (f : Nat → Nat) (i x : Nat) : upd (ar_p f) i (nI x - 1) = ar_p (st_u f i x) := by
  funext j; unfold upd ar_p st_u; split <;> rfl
theorem ar_m1 : (-1 : Int32) = nI 0 - 1 := by decide
theorem ar_pm (f : Nat → Nat) (i : Nat) : upd (ar_p f) i (-1) = ar_p (st_u f i 0) := by
  rw [ar_m1]; exact ar_pu f i 0
theorem ar_pq (f : Nat → Nat) (i p : Nat) : upd (ar_p f) i (nI p) = ar_p (st_u f i (p + 1)) := by
  rw [← nI_pred p]; exact ar_pu f i (p + 1)
theorem ar_nc (f : Nat → Nat) {i : Nat} (h : i < 2 ^ 31) : ar_n f (nI i).toNatClampNeg = nI (f i) := by
  rw [nI_clamp h]; rfl
theorem ar_pc (f : Nat → Nat) {i : Nat} (h : i < 2 ^ 31) : ar_p f (nI i).toNatClampNeg = nI (f i) - 1 := by
  rw [nI_clamp h]; rfl
theorem ar_toI {a : Nat} (h : a < 2 ^ 30) : (nI a - 1).toInt = (a : Int) - 1 := pk_sub_toInt (b := 1) h (by omega)
theorem ar_neg {a : Nat} (h : a < 2 ^ 30) : nI a - 1 < 0 ↔ a = 0 := by
  rw [Int32.lt_iff_toInt_lt, ar_toI h, show (0 : Int32).toInt = 0 from by decide]; omega
theorem ar_pos {a : Nat} (h : a < 2 ^ 30) : 0 ≤ nI a - 1 ↔ a ≠ 0 := by
  rw [Int32.le_iff_toInt_le, ar_toI h, show (0 : Int32).toInt = 0 from by decide]; omega
theorem ar_no {a : Nat} (h : a < 2 ^ 30) : nI a - 1 = -1 ↔ a = 0 := by
  rw [← Int32.toInt_inj, ar_toI h, show (-1 : Int32).toInt = -1 from by decide]; omega
theorem ar_is {a b : Nat} (h : a < 2 ^ 30) (hb : b < 2 ^ 30) : nI a - 1 = nI b ↔ a = b + 1 := by
  rw [← Int32.toInt_inj, ar_toI h, nI_toInt (by omega)]; omega
theorem ar_si {a b : Nat} (h : a < 2 ^ 30) (hb : b < 2 ^ 30) : nI b = nI a - 1 ↔ a = b + 1 := by
  rw [eq_comm]; exact ar_is h hb
theorem ix_x (n i : Nat) : nI n * 24 + nI i = nI (24 * n + i) := by
  rw [show (24 : Int32) = nI 24 from rfl, pk_mul, nI_add, Nat.mul_comm]
theorem ix_y (n i : Nat) : 24 * nI n + nI i = nI (24 * n + i) := by
  rw [show (24 : Int32) = nI 24 from rfl, pk_mul, nI_add]
theorem ix_2x (n : Nat) : nI n * 2 = nI (2 * n) := by
  rw [show (2 : Int32) = nI 2 from rfl, pk_mul, Nat.mul_comm]
theorem ix_2y (n : Nat) : 2 * nI n = nI (2 * n) := by
  rw [show (2 : Int32) = nI 2 from rfl, pk_mul]
theorem in_c {i : Int32} {n : Nat} {P : Prop} (h : vp_in i n) (p : P) : vp_in i n ∧ P := ⟨h, p⟩
/-- pigeons -/
theorem pg_h : ∀ (c k : Nat) (f : Nat → Nat), (∀ i, i < k → f i < c) → (∀ i j, i < k → j < k → f i = f j → i = j) → k ≤ c := by
  intro c
  induction c with
  | zero => intro k f h _; cases k with
    | zero => exact Nat.le_refl 0
    | succ k => exact absurd (h 0 (by omega)) (by omega)
  | succ c ih =>
    intro k f h inj
    cases k with
    | zero => omega
    | succ k =>
      refine Nat.succ_le_succ (ih k (fun j => if f j = c then f k else f j) ?_ ?_)
      · intro i hi
        try dsimp only
        have h1 := h i (by omega)
        have h2 := h k (by omega)
        have h3 := inj i k (by omega) (by omega)
        split <;> omega
      · intro i j hi hj e
        try dsimp only at e
        have a1 := inj i k (by omega) (by omega)
        have a2 := inj j k (by omega) (by omega)
        have a3 := inj i j (by omega) (by omega)
        apply a3
        split at e <;> split at e <;> omega
end
section
/-! the forest: who is within whom -/
/-- one step up: 0 is none, v + 1 is the node v -/
def tr_s (pa : Nat → Nat) (x : Nat) : Nat := if x = 0 then 0 else pa (x - 1)
def tr_c (pa : Nat → Nat) : Nat → Nat → Nat
  | 0, x => x
  | k + 1, x => tr_c pa k (tr_s pa x)
/-- x leads up to the node m -/
def tr_w (pa : Nat → Nat) (x m : Nat) : Prop := ∃ k, tr_c pa k x = m + 1
theorem tr_s0 (pa : Nat → Nat) : tr_s pa 0 = 0 := rfl
theorem tr_s1 (pa : Nat → Nat) (v : Nat) : tr_s pa (v + 1) = pa v := rfl
theorem tr_c0 (pa : Nat → Nat) : ∀ k, tr_c pa k 0 = 0 := by
  intro k
  induction k with
  | zero => rfl
  | succ k ih => exact ih
theorem tr_cs (pa : Nat → Nat) : ∀ k x, tr_c pa (k + 1) x = tr_s pa (tr_c pa k x) := by
  intro k
  induction k with
  | zero => intro x; rfl
  | succ k ih => intro x; exact ih (tr_s pa x)
theorem tr_w0 {pa : Nat → Nat} {m : Nat} : ¬ tr_w pa 0 m := by
  rintro ⟨k, h⟩
  rw [tr_c0] at h
  omega
theorem tr_wr (pa : Nat → Nat) (m : Nat) : tr_w pa (m + 1) m := ⟨0, rfl⟩
theorem tr_ws {pa : Nat → Nat} {n m : Nat} (h : tr_w pa (pa n) m) : tr_w pa (n + 1) m := by
  obtain ⟨k, h⟩ := h
  exact ⟨k + 1, h⟩
theorem tr_wp {pa : Nat → Nat} {n p m : Nat} (e : pa n = p + 1) (h : tr_w pa (p + 1) m) : tr_w pa (n + 1) m := tr_ws (e ▸ h)
theorem tr_wc {pa : Nat → Nat} {n m : Nat} (h : tr_w pa (n + 1) m) : n = m ∨ tr_w pa (pa n) m := by
  obtain ⟨k, h⟩ := h
  cases k with
  | zero => exact Or.inl (by have : n + 1 = m + 1 := h; omega)
  | succ k => exact Or.inr ⟨k, h⟩
theorem tr_ind {pa : Nat → Nat} {m : Nat} {Q : Nat → Prop} (h0 : Q (m + 1)) (hs : ∀ n, tr_w pa (pa n) m → Q (pa n) → Q (n + 1)) : ∀ x, tr_w pa x m → Q x := by
  intro x h
  obtain ⟨k, hk⟩ := h
  induction k generalizing x with
  | zero => have e : x = m + 1 := hk; rw [e]; exact h0
  | succ k ih =>
    cases x with
    | zero => rw [tr_c0] at hk; omega
    | succ v => exact hs v ⟨k, hk⟩ (ih (pa v) hk)
theorem tr_wt {pa : Nat → Nat} {x a b : Nat} (h : tr_w pa x a) (g : tr_w pa (a + 1) b) : tr_w pa x b :=
  tr_ind (Q := fun x => tr_w pa x b) g (fun _ _ q => tr_ws q) x h
theorem tr_wcmp {pa : Nat → Nat} {x a b : Nat} (h : tr_w pa x a) (g : tr_w pa x b) : tr_w pa (a + 1) b ∨ tr_w pa (b + 1) a := by
  refine tr_ind (Q := fun x => tr_w pa x b → tr_w pa (a + 1) b ∨ tr_w pa (b + 1) a) (fun g => Or.inl g) ?_ x h g
  intro n hn q g
  rcases tr_wc g with rfl | g
  · exact Or.inr (tr_ws hn)
  · exact q g
theorem tr_wl {pa : Nat → Nat} {x m : Nat} (h : tr_w pa x m) : x = m + 1 ∨ ∃ q, pa q = m + 1 ∧ tr_w pa x q := by
  refine tr_ind (Q := fun x => x = m + 1 ∨ ∃ q, pa q = m + 1 ∧ tr_w pa x q) (Or.inl rfl) ?_ x h
  intro n hn q
  rcases q with e | ⟨q, e, g⟩
  · exact Or.inr ⟨n, e, tr_wr pa n⟩
  · exact Or.inr ⟨q, e, tr_ws g⟩
/-- the forest holds together -/
def tr_T (c : Nat) (kd pa sz it : Nat → Nat) : Prop :=
  (1 ≤ c ∧ c ≤ 24) ∧
  (∀ n, n < c → kd n ≤ 1) ∧
  (∀ n, n < c → kd n = 1 → sz n ≤ 12 ∧ ∀ i, i < sz n → it (24 * n + i) ≤ 9) ∧
  (∀ n, n < c → kd n = 0 → ∀ i, i < sz n → it (24 * n + i) < c ∧ pa (it (24 * n + i)) = n + 1) ∧
  (∀ n, n < c → kd n = 0 → ∀ i j, i < sz n → j < sz n → it (24 * n + i) = it (24 * n + j) → i = j) ∧
  (∀ n p, n < c → pa n = p + 1 → p < c ∧ kd p = 0 ∧ ∃ i, i < sz p ∧ it (24 * p + i) = n) ∧
  (∃ rk : Nat → Nat, ∀ n p, n < c → pa n = p + 1 → rk p < rk n)
section
variable {c : Nat} {kd pa sz it : Nat → Nat}
theorem tr_c24 (T : tr_T c kd pa sz it) : c ≤ 24 := T.1.2
theorem tr_k1 (T : tr_T c kd pa sz it) {n : Nat} (h : n < c) : kd n = 0 ∨ kd n = 1 := by
  have := T.2.1 n h; omega
theorem tr_pl (T : tr_T c kd pa sz it) {n : Nat} (h : n < c) : pa n ≤ c := by
  cases e : pa n with
  | zero => omega
  | succ p => have := (T.2.2.2.2.2.1 n p h e).1; omega
theorem tr_pe (T : tr_T c kd pa sz it) {n p : Nat} (h : n < c) (e : pa n = p + 1) : p < c ∧ kd p = 0 ∧ ∃ i, i < sz p ∧ it (24 * p + i) = n := T.2.2.2.2.2.1 n p h e
theorem tr_ch (T : tr_T c kd pa sz it) {n i : Nat} (h : n < c) (k : kd n = 0) (hi : i < sz n) : it (24 * n + i) < c ∧ pa (it (24 * n + i)) = n + 1 := T.2.2.2.1 n h k i hi
theorem tr_in (T : tr_T c kd pa sz it) {n i j : Nat} (h : n < c) (k : kd n = 0) (hi : i < sz n) (hj : j < sz n) (e : it (24 * n + i) = it (24 * n + j)) : i = j := T.2.2.2.2.1 n h k i j hi hj e
theorem tr_lt (T : tr_T c kd pa sz it) {n m : Nat} (h : n < c) (w : tr_w pa (n + 1) m) : m < c := by
  refine tr_ind (Q := fun x => ∀ n, x = n + 1 → n < c → m < c) (fun n e h => by omega) ?_ (n + 1) w n rfl h
  intro v hv q n e h
  have e : v = n := by omega
  subst e
  cases e2 : pa v with
  | zero => rw [e2] at hv; exact absurd hv tr_w0
  | succ p => exact q p e2 (tr_pe T h e2).1
theorem tr_rk (T : tr_T c kd pa sz it) : ∃ rk : Nat → Nat, (∀ n p, n < c → pa n = p + 1 → rk p < rk n) ∧ ∀ n m, n < c → tr_w pa (n + 1) m → n = m ∨ rk m < rk n := by
  obtain ⟨rk, hr⟩ := T.2.2.2.2.2.2
  refine ⟨rk, hr, fun n m h w => ?_⟩
  refine tr_ind (Q := fun x => ∀ n, x = n + 1 → n < c → n = m ∨ rk m < rk n) (fun n e h => Or.inl (by omega)) ?_ (n + 1) w n rfl h
  intro v hv q n e h
  have e : v = n := by omega
  subst e
  cases e2 : pa v with
  | zero => rw [e2] at hv; exact absurd hv tr_w0
  | succ p =>
    have h1 := hr v p h e2
    rcases q p e2 (tr_pe T h e2).1 with rfl | h2
    · exact Or.inr h1
    · exact Or.inr (by omega)
theorem tr_an (T : tr_T c kd pa sz it) {n m : Nat} (h : n < c) (w : tr_w pa (n + 1) m) (g : tr_w pa (m + 1) n) : n = m := by
  obtain ⟨rk, _, hr⟩ := tr_rk T
  rcases hr n m h w with e | h1
  · exact e
  · rcases hr m n (tr_lt T h w) g with e | h2
    · exact e.symm
    · omega
theorem tr_ac (T : tr_T c kd pa sz it) {n p : Nat} (h : n < c) (e : pa n = p + 1) : ¬ tr_w pa (p + 1) n := by
  intro w
  obtain ⟨rk, h1, hr⟩ := tr_rk T
  have h2 := h1 n p h e
  rcases hr p n (tr_pe T h e).1 w with rfl | h3 <;> omega
theorem tr_nc (T : tr_T c kd pa sz it) {n p : Nat} (h : n < c) (e : pa n = p + 1) : p ≠ n := by
  rintro rfl
  exact tr_ac T h e (tr_wr pa p)
/-- no way up is longer than the nodes are many -/
theorem tr_dp (T : tr_T c kd pa sz it) {n : Nat} (h : n < c) : tr_c pa 24 (n + 1) = 0 := by
  obtain ⟨rk, h1, _⟩ := tr_rk T
  apply Classical.byContradiction
  intro hne
  have z : ∀ d k, k + d = 24 → tr_c pa k (n + 1) ≠ 0 := by
    intro d
    induction d with
    | zero => intro k hk; rw [show k = 24 by omega]; exact hne
    | succ d ih =>
      intro k hk e
      exact ih (k + 1) (by omega) (by rw [tr_cs, e]; rfl)
  have b : ∀ k, k ≤ 24 → tr_c pa k (n + 1) - 1 < c := by
    intro k
    induction k with
    | zero => intro _; exact h
    | succ k ih =>
      intro hk
      have h3 := ih (by omega)
      have h4 := z (24 - k) k (by omega)
      have h5 := z (24 - (k + 1)) (k + 1) (by omega)
      rw [tr_cs] at h5 ⊢
      unfold tr_s at h5 ⊢
      rw [if_neg h4] at h5 ⊢
      have := tr_pl T h3
      omega
  have st : ∀ k, k < 24 → rk (tr_c pa (k + 1) (n + 1) - 1) < rk (tr_c pa k (n + 1) - 1) := by
    intro k hk
    have h3 := b k (by omega)
    have h4 := z (24 - k) k (by omega)
    have h5 := z (24 - (k + 1)) (k + 1) (by omega)
    apply h1 _ _ h3
    have e : tr_c pa (k + 1) (n + 1) = pa (tr_c pa k (n + 1) - 1) := by
      rw [tr_cs]; unfold tr_s; rw [if_neg h4]
    rw [← e]; omega
  have mo : ∀ d k, k + d + 1 ≤ 24 → rk (tr_c pa (k + d + 1) (n + 1) - 1) < rk (tr_c pa k (n + 1) - 1) := by
    intro d
    induction d with
    | zero => intro k hk; exact st k (by omega)
    | succ d ih =>
      intro k hk
      have a1 := ih k (by omega)
      have a2 := st (k + d + 1) (by omega)
      rw [show k + (d + 1) + 1 = k + d + 1 + 1 by omega]
      omega
  have := pg_h c 25 (fun k => tr_c pa k (n + 1) - 1) (fun i hi => b i (by omega)) (by
    intro i j hi hj e
    try dsimp only at e
    rcases Nat.lt_trichotomy i j with hl | hl | hl
    · have := mo (j - i - 1) i (by omega)
      rw [show i + (j - i - 1) + 1 = j by omega, e] at this
      omega
    · exact hl
    · have := mo (i - j - 1) j (by omega)
      rw [show j + (i - j - 1) + 1 = i by omega, e] at this
      omega)
  have := tr_c24 T
  omega
theorem tr_cle (T : tr_T c kd pa sz it) {n : Nat} (h : n < c) : ∀ k, tr_c pa k (n + 1) ≤ c := by
  intro k
  induction k with
  | zero => exact h
  | succ k ih =>
    rw [tr_cs]
    unfold tr_s
    split
    · omega
    · exact tr_pl T (by omega)
/-- an element has fewer children than there are nodes -/
theorem tr_sz (T : tr_T c kd pa sz it) {n : Nat} (h : n < c) (k : kd n = 0) : sz n < c := by
  have := pg_h c (sz n + 1) (fun i => if i < sz n then it (24 * n + i) else n) (by
    intro i hi
    try dsimp only
    split
    · exact (tr_ch T h k (by omega)).1
    · exact h) (by
    intro i j hi hj e
    try dsimp only at e
    split at e <;> split at e
    · exact tr_in T h k (by omega) (by omega) e
    · have h2 := tr_ch T h k (i := i) (by omega)
      rw [e] at h2
      exact absurd rfl (tr_nc T h h2.2)
    · have h2 := tr_ch T h k (i := j) (by omega)
      rw [← e] at h2
      exact absurd rfl (tr_nc T h h2.2)
    · omega)
  omega
/-- and fewer still if another node isn't among them -/
theorem tr_sz2 (T : tr_T c kd pa sz it) {n m : Nat} (h : n < c) (k : kd n = 0) (hm : m < c) (e1 : m ≠ n) (e2 : pa m ≠ n + 1) : sz n + 1 < c := by
  have := pg_h c (sz n + 2) (fun i => if i < sz n then it (24 * n + i) else if i = sz n then n else m) (by
    intro i hi
    try dsimp only
    split
    · exact (tr_ch T h k (by omega)).1
    · split
      · exact h
      · exact hm) (by
    intro i j hi hj e
    have ne : ∀ i, i < sz n → it (24 * n + i) ≠ n ∧ it (24 * n + i) ≠ m := by
      intro i hi
      have h2 := tr_ch T h k (i := i) (by omega)
      refine ⟨fun q => ?_, fun q => ?_⟩
      · rw [q] at h2; exact absurd rfl (tr_nc T h h2.2)
      · rw [q] at h2; exact absurd h2.2 e2
    try dsimp only at e
    split at e
    · rename_i a
      split at e
      · exact tr_in T h k (by omega) (by omega) e
      · split at e
        · exact absurd e (ne i a).1
        · exact absurd e (ne i a).2
    · split at e
      · split at e
        · rename_i a; exact absurd e.symm (ne j a).1
        · split at e
          · omega
          · exact absurd e.symm e1
      · split at e
        · rename_i a; exact absurd e.symm (ne j a).2
        · split at e
          · exact absurd e e1
          · omega)
  omega
theorem tr_s24 (T : tr_T c kd pa sz it) {n : Nat} (h : n < c) : sz n < 24 := by
  have := tr_c24 T
  rcases tr_k1 T h with k | k
  · have := tr_sz T h k; omega
  · have := (T.2.2.1 n h k).1; omega
/-- every node has one top -/
theorem tr_top (T : tr_T c kd pa sz it) {n : Nat} (h : n < c) : ∃ r, r < c ∧ pa r = 0 ∧ tr_w pa (n + 1) r := by
  obtain ⟨rk, h1, _⟩ := tr_rk T
  have : ∀ d n, rk n ≤ d → n < c → ∃ r, r < c ∧ pa r = 0 ∧ tr_w pa (n + 1) r := by
    intro d
    induction d with
    | zero =>
      intro n hd h
      cases e : pa n with
      | zero => exact ⟨n, h, e, tr_wr pa n⟩
      | succ p => have := h1 n p h e; omega
    | succ d ih =>
      intro n hd h
      cases e : pa n with
      | zero => exact ⟨n, h, e, tr_wr pa n⟩
      | succ p =>
        have := h1 n p h e
        obtain ⟨r, a, b, g⟩ := ih p (by omega) (tr_pe T h e).1
        exact ⟨r, a, b, tr_wp e g⟩
  exact this (rk n) n (Nat.le_refl _) h
theorem tr_t1 {n r q : Nat} (hr : pa r = 0) (hq : pa q = 0) (a : tr_w pa (n + 1) r) (b : tr_w pa (n + 1) q) : r = q := by
  rcases tr_wcmp a b with g | g
  · rcases tr_wc g with e | g
    · exact e
    · rw [hr] at g; exact absurd g tr_w0
  · rcases tr_wc g with e | g
    · exact e.symm
    · rw [hq] at g; exact absurd g tr_w0
/-- what is within something is within its top -/
theorem tr_wtop {n m r : Nat} (hr : pa r = 0) (a : tr_w pa (n + 1) m) (b : tr_w pa (n + 1) r) : tr_w pa (m + 1) r := by
  rcases tr_wcmp a b with g | g
  · exact g
  · rcases tr_wc g with e | g
    · subst e; exact tr_wr pa r
    · rw [hr] at g; exact absurd g tr_w0
end
/-! an edge more, an edge less: pa has the edge from n0, st_u pa n0 0 has not -/
section
variable {pa : Nat → Nat} {n0 : Nat}
theorem tr_e1 {x b : Nat} (h : tr_w (st_u pa n0 0) x b) : tr_w pa x b := by
  refine tr_ind (Q := fun x => tr_w pa x b) (tr_wr pa b) ?_ x h
  intro n hn q
  by_cases e : n = n0
  · subst e; rw [st_us] at hn; exact absurd hn tr_w0
  · rw [st_un e] at q; exact tr_ws q
theorem tr_e3 {x b : Nat} (h : tr_w pa x b) (g : ¬ tr_w pa x n0) : tr_w (st_u pa n0 0) x b := by
  refine tr_ind (Q := fun x => ¬ tr_w pa x n0 → tr_w (st_u pa n0 0) x b) (fun _ => tr_wr _ b) ?_ x h g
  intro n hn q g
  by_cases e : n = n0
  · subst e; exact absurd (tr_wr pa n) g
  · apply tr_ws
    rw [st_un e]
    exact q (fun z => g (tr_ws z))
theorem tr_e4 {x : Nat} (h : tr_w pa x n0) : tr_w (st_u pa n0 0) x n0 := by
  refine tr_ind (Q := fun x => tr_w (st_u pa n0 0) x n0) (tr_wr _ n0) ?_ x h
  intro n hn q
  by_cases e : n = n0
  · subst e; exact tr_wr _ n
  · apply tr_ws
    rw [st_un e]
    exact q
theorem tr_e5 {x b : Nat} (ac : ¬ tr_w pa (pa n0) n0) (h : tr_w pa x b) (g : tr_w pa (b + 1) n0) : tr_w (st_u pa n0 0) x b := by
  refine tr_ind (Q := fun x => tr_w (st_u pa n0 0) x b) (tr_wr _ b) ?_ x h
  intro n hn q
  by_cases e : n = n0
  · subst e; exact absurd (tr_wt hn g) ac
  · apply tr_ws
    rw [st_un e]
    exact q
theorem tr_e2 {x b : Nat} (ac : ¬ tr_w pa (pa n0) n0) (h : tr_w pa x b) : tr_w (st_u pa n0 0) x b ∨ (tr_w (st_u pa n0 0) x n0 ∧ tr_w (st_u pa n0 0) (pa n0) b) := by
  by_cases z : tr_w pa x n0
  · rcases tr_wcmp z h with g | g
    · rcases tr_wc g with e | g
      · subst e; exact Or.inl (tr_e4 z)
      · exact Or.inr ⟨tr_e4 z, tr_e3 g ac⟩
    · exact Or.inl (tr_e5 ac h g)
  · exact Or.inl (tr_e3 h z)
theorem tr_e6 {p0 x : Nat} (h : tr_w (st_u pa n0 p0) x n0) : tr_w pa x n0 := by
  refine tr_ind (Q := fun x => tr_w pa x n0) (tr_wr _ n0) ?_ x h
  intro n hn q
  by_cases e : n = n0
  · subst e; exact tr_wr _ n
  · rw [st_un e] at q; exact tr_ws q
theorem tr_uu (p0 : Nat) (h : pa n0 = 0) : st_u (st_u pa n0 p0) n0 0 = pa := by
  funext j
  unfold st_u
  split
  · rename_i e; rw [e, h]
  · rfl
end
end
section
/-! the forest after a node is made, taken out, put in, or a text's letters are changed -/
noncomputable def cl_if {α : Type} (P : Prop) (a b : α) : α := @ite α P (Classical.propDecidable P) a b
theorem cl_t {α : Type} {P : Prop} (h : P) (a b : α) : cl_if P a b = a := by unfold cl_if; exact if_pos h
theorem cl_f {α : Type} {P : Prop} (h : ¬ P) (a b : α) : cl_if P a b = b := by unfold cl_if; exact if_neg h
def mv_l (it : Nat → Nat) (b f s e : Nat) : Nat → Nat := fun k => if b + f ≤ k + e ∧ k + e < b + s then it (k + e) else it k
def mv_r (it : Nat → Nat) (b f s e : Nat) : Nat → Nat := fun k => if b + f + e ≤ k ∧ k < b + s + e then it (k - e) else it k
theorem mv_lo (it : Nat → Nat) {p n i f s e : Nat} (hn : n ≠ p) (hi : i < 24) (he : e ≤ f) (hs : s ≤ 24) : mv_l it (24 * p) f s e (24 * n + i) = it (24 * n + i) := by
  unfold mv_l; exact if_neg (by omega)
theorem mv_lb (it : Nat → Nat) {p i f s e : Nat} (hi : i + e < f) : mv_l it (24 * p) f s e (24 * p + i) = it (24 * p + i) := by
  unfold mv_l; exact if_neg (by omega)
theorem mv_li (it : Nat → Nat) {p i f s e : Nat} (h1 : f ≤ i + e) (h2 : i + e < s) : mv_l it (24 * p) f s e (24 * p + i) = it (24 * p + (i + e)) := by
  unfold mv_l; rw [if_pos (by omega)]; exact congrArg it (by omega)
theorem mv_ro (it : Nat → Nat) {p n i f s e : Nat} (hn : n ≠ p) (hi : i < 24) (hs : s + e ≤ 24) : mv_r it (24 * p) f s e (24 * n + i) = it (24 * n + i) := by
  unfold mv_r; exact if_neg (by omega)
theorem mv_rb (it : Nat → Nat) {p i f s e : Nat} (hi : i < f + e) : mv_r it (24 * p) f s e (24 * p + i) = it (24 * p + i) := by
  unfold mv_r; exact if_neg (by omega)
theorem mv_ri (it : Nat → Nat) {p i f s e : Nat} (h1 : f + e ≤ i) (h2 : i < s + e) : mv_r it (24 * p) f s e (24 * p + i) = it (24 * p + (i - e)) := by
  unfold mv_r; rw [if_pos (by omega)]; exact congrArg it (by omega)
section
variable {c : Nat} {kd pa sz it : Nat → Nat}
theorem tr_Tmake (T : tr_T c kd pa sz it) (hc : c < 24) {k : Nat} (hk : k ≤ 1) : tr_T (c + 1) (st_u kd c k) (st_u pa c 0) (st_u sz c 0) it := by
  refine ⟨⟨by omega, by omega⟩, ?_, ?_, ?_, ?_, ?_, ?_⟩
  · intro n hn
    by_cases e : n = c
    · subst e; rw [st_us]; exact hk
    · rw [st_un e]; exact T.2.1 n (by omega)
  · intro n hn h
    by_cases e : n = c
    · subst e; rw [st_us]; exact ⟨by omega, fun i hi => by omega⟩
    · rw [st_un e] at h ⊢; exact T.2.2.1 n (by omega) h
  · intro n hn h i hi
    by_cases e : n = c
    · subst e; rw [st_us] at hi; omega
    · rw [st_un e] at h hi
      have := tr_ch T (by omega) h hi
      refine ⟨by omega, ?_⟩
      rw [st_un (by omega)]; exact this.2
  · intro n hn h i j hi hj
    by_cases e : n = c
    · subst e; rw [st_us] at hi; omega
    · rw [st_un e] at h hi hj
      exact tr_in T (by omega) h hi hj
  · intro n p hn h
    by_cases e : n = c
    · subst e; rw [st_us] at h; omega
    · rw [st_un e] at h
      obtain ⟨a, b, i, hi, g⟩ := tr_pe T (by omega) h
      refine ⟨by omega, by rw [st_un (by omega)]; exact b, i, by rw [st_un (by omega)]; exact hi, g⟩
  · obtain ⟨rk, hr⟩ := T.2.2.2.2.2.2
    refine ⟨rk, fun n p hn h => ?_⟩
    by_cases e : n = c
    · subst e; rw [st_us] at h; omega
    · rw [st_un e] at h; exact hr n p (by omega) h
theorem tr_Ttake (T : tr_T c kd pa sz it) {n0 p0 i0 : Nat} (hn : n0 < c) (hp : pa n0 = p0 + 1) (hi : i0 < sz p0) (he : it (24 * p0 + i0) = n0) :
    tr_T c kd (st_u pa n0 0) (st_u sz p0 (sz p0 - 1)) (mv_l it (24 * p0) (i0 + 1) (sz p0) 1) := by
  obtain ⟨hp0, hk0, _⟩ := tr_pe T hn hp
  have s0 := tr_s24 T hp0
  have row : ∀ i, i + 1 < sz p0 → ∃ j, j < sz p0 ∧ j ≠ i0 ∧ mv_l it (24 * p0) (i0 + 1) (sz p0) 1 (24 * p0 + i) = it (24 * p0 + j) ∧ ((i < i0 ∧ j = i) ∨ (i0 ≤ i ∧ j = i + 1)) := by
    intro i h
    by_cases l : i < i0
    · exact ⟨i, by omega, by omega, mv_lb it (by omega), Or.inl ⟨l, rfl⟩⟩
    · exact ⟨i + 1, by omega, by omega, mv_li it (by omega) (by omega), Or.inr ⟨by omega, rfl⟩⟩
  refine ⟨T.1, T.2.1, ?_, ?_, ?_, ?_, ?_⟩
  · intro n h k
    have e : n ≠ p0 := by rintro rfl; omega
    have a := T.2.2.1 n h k
    rw [st_un e]
    refine ⟨a.1, fun i hi => ?_⟩
    rw [mv_lo it e (by omega) (by omega) (by omega)]
    exact a.2 i hi
  · intro n h k i hi
    by_cases e : n = p0
    · subst e
      rw [st_us] at hi
      obtain ⟨j, h1, h2, h3, _⟩ := row i (by omega)
      have a := tr_ch T h k h1
      rw [h3, st_un (fun q => h2 (tr_in T h k h1 (by assumption) (by rw [q, he])))]
      exact a
    · rw [st_un e] at hi
      have := tr_s24 T h
      have a := tr_ch T h k hi
      rw [mv_lo it e (by omega) (by omega) (by omega), st_un (fun q => e (by rw [q, hp] at a; omega))]
      exact a
  · intro n h k i j hi hj e2
    by_cases e : n = p0
    · subst e
      rw [st_us] at hi hj
      obtain ⟨i', h1, h2, h3, h4⟩ := row i (by omega)
      obtain ⟨j', g1, g2, g3, g4⟩ := row j (by omega)
      rw [h3, g3] at e2
      have := tr_in T h k h1 g1 e2
      omega
    · rw [st_un e] at hi hj
      have := tr_s24 T h
      rw [mv_lo it e (by omega) (by omega) (by omega), mv_lo it e (by omega) (by omega) (by omega)] at e2
      exact tr_in T h k hi hj e2
  · intro n p h e2
    by_cases e : n = n0
    · subst e; rw [st_us] at e2; omega
    · rw [st_un e] at e2
      obtain ⟨a, b, i, h1, h2⟩ := tr_pe T h e2
      refine ⟨a, b, ?_⟩
      by_cases z : p = p0
      · subst z
        have ne : i ≠ i0 := by rintro rfl; exact e (by rw [← h2, he])
        rw [st_us]
        by_cases l : i < i0
        · exact ⟨i, by omega, by rw [mv_lb it (by omega)]; exact h2⟩
        · refine ⟨i - 1, by omega, ?_⟩
          rw [mv_li it (by omega) (by omega), show i - 1 + 1 = i by omega]; exact h2
      · rw [st_un z]
        have := tr_s24 T a
        exact ⟨i, h1, by rw [mv_lo it z (by omega) (by omega) (by omega)]; exact h2⟩
  · obtain ⟨rk, hr⟩ := T.2.2.2.2.2.2
    refine ⟨rk, fun n p h e2 => ?_⟩
    by_cases e : n = n0
    · subst e; rw [st_us] at e2; omega
    · rw [st_un e] at e2; exact hr n p h e2
theorem tr_Tput (T : tr_T c kd pa sz it) {n0 p0 i0 : Nat} (hp0 : p0 < c) (hk0 : kd p0 = 0) (hn : n0 < c) (hr : pa n0 = 0) (hw : ¬ tr_w pa (p0 + 1) n0) (hi : i0 ≤ sz p0) :
    tr_T c kd (st_u pa n0 (p0 + 1)) (st_u sz p0 (sz p0 + 1)) (st_u (mv_r it (24 * p0) i0 (sz p0) 1) (24 * p0 + i0) n0) := by
  have c24 := tr_c24 T
  have ne0 : n0 ≠ p0 := by rintro rfl; exact hw (tr_wr pa _)
  have s2 := tr_sz2 T hp0 hk0 hn ne0 (by omega)
  have row : ∀ i, i ≤ sz p0 → (i = i0 ∧ st_u (mv_r it (24 * p0) i0 (sz p0) 1) (24 * p0 + i0) n0 (24 * p0 + i) = n0) ∨ ∃ j, j < sz p0 ∧ st_u (mv_r it (24 * p0) i0 (sz p0) 1) (24 * p0 + i0) n0 (24 * p0 + i) = it (24 * p0 + j) ∧ ((i < i0 ∧ j = i) ∨ (i0 < i ∧ i = j + 1)) := by
    intro i h
    by_cases l : i = i0
    · subst l; exact Or.inl ⟨rfl, st_us _ _ _⟩
    · refine Or.inr ?_
      rw [st_un (by omega)]
      by_cases l2 : i < i0
      · exact ⟨i, by omega, mv_rb it (by omega), Or.inl ⟨l2, rfl⟩⟩
      · exact ⟨i - 1, by omega, mv_ri it (by omega) (by omega), Or.inr ⟨by omega, by omega⟩⟩
  have oth : ∀ n i, n ≠ p0 → i < 24 → st_u (mv_r it (24 * p0) i0 (sz p0) 1) (24 * p0 + i0) n0 (24 * n + i) = it (24 * n + i) := by
    intro n i e h
    rw [st_un (by omega), mv_ro it e h (by omega)]
  have nc : ∀ j, j < sz p0 → it (24 * p0 + j) ≠ n0 := by
    intro j hj q
    have := tr_ch T hp0 hk0 hj
    rw [q, hr] at this
    omega
  refine ⟨T.1, T.2.1, ?_, ?_, ?_, ?_, ?_⟩
  · intro n h k
    have e : n ≠ p0 := by rintro rfl; omega
    have a := T.2.2.1 n h k
    rw [st_un e]
    refine ⟨a.1, fun i hi => ?_⟩
    rw [oth n i e (by omega)]
    exact a.2 i hi
  · intro n h k i hi
    by_cases e : n = p0
    · subst e
      rw [st_us] at hi
      rcases row i (by omega) with ⟨_, h3⟩ | ⟨j, h1, h3, _⟩
      · rw [h3, st_us]; exact ⟨hn, rfl⟩
      · have a := tr_ch T h k h1
        rw [h3, st_un (nc j h1)]
        exact a
    · rw [st_un e] at hi
      have := tr_s24 T h
      have a := tr_ch T h k hi
      rw [oth n i e (by omega), st_un (fun q => by rw [q, hr] at a; omega)]
      exact a
  · intro n h k i j hi hj e2
    by_cases e : n = p0
    · subst e
      rw [st_us] at hi hj
      rcases row i (by omega) with ⟨h1, h3⟩ | ⟨i', h1, h3, h4⟩
      · rcases row j (by omega) with ⟨g1, g3⟩ | ⟨j', g1, g3, g4⟩
        · omega
        · rw [h3, g3] at e2; exact absurd e2.symm (nc j' g1)
      · rcases row j (by omega) with ⟨g1, g3⟩ | ⟨j', g1, g3, g4⟩
        · rw [h3, g3] at e2; exact absurd e2 (nc i' h1)
        · rw [h3, g3] at e2
          have := tr_in T h k h1 g1 e2
          omega
    · rw [st_un e] at hi hj
      have := tr_s24 T h
      rw [oth n i e (by omega), oth n j e (by omega)] at e2
      exact tr_in T h k hi hj e2
  · intro n p h e2
    by_cases e : n = n0
    · subst e
      rw [st_us] at e2
      have e3 : p = p0 := by omega
      subst e3
      refine ⟨hp0, hk0, i0, by rw [st_us]; omega, st_us _ _ _⟩
    · rw [st_un e] at e2
      obtain ⟨a, b, i, h1, h2⟩ := tr_pe T h e2
      refine ⟨a, b, ?_⟩
      by_cases z : p = p0
      · subst z
        rw [st_us]
        by_cases l : i < i0
        · exact ⟨i, by omega, by rw [st_un (by omega), mv_rb it (by omega)]; exact h2⟩
        · refine ⟨i + 1, by omega, ?_⟩
          rw [st_un (by omega), mv_ri it (by omega) (by omega), show i + 1 - 1 = i by omega]; exact h2
      · rw [st_un z]
        have := tr_s24 T a
        exact ⟨i, h1, by rw [oth p i z (by omega)]; exact h2⟩
  · obtain ⟨rk, hr2⟩ := T.2.2.2.2.2.2
    refine ⟨fun m => cl_if (tr_w pa (m + 1) n0) (rk m + 1 + rk p0) (rk m), fun n p h e2 => ?_⟩
    dsimp only
    by_cases e : n = n0
    · subst e
      rw [st_us] at e2
      have e3 : p = p0 := by omega
      subst e3
      rw [cl_f hw, cl_t (tr_wr pa n)]
      omega
    · rw [st_un e] at e2
      have r := hr2 n p h e2
      by_cases w : tr_w pa (p + 1) n0
      · rw [cl_t w, cl_t (tr_wp e2 w)]; omega
      · rw [cl_f w, cl_f]
        · exact r
        · intro z
          rcases tr_wc z with z | z
          · exact e z
          · rw [e2] at z; exact w z
/-- letters alone are changed -/
theorem tr_Ttx (T : tr_T c kd pa sz it) {sz' it' : Nat → Nat} (h0 : ∀ n, n < c → kd n = 0 → sz' n = sz n ∧ ∀ i, i < 24 → it' (24 * n + i) = it (24 * n + i)) (h1 : ∀ n, n < c → kd n = 1 → sz' n ≤ 12 ∧ ∀ i, i < sz' n → it' (24 * n + i) ≤ 9) :
    tr_T c kd pa sz' it' := by
  refine ⟨T.1, T.2.1, h1, ?_, ?_, ?_, T.2.2.2.2.2.2⟩
  · intro n h k i hi
    have := tr_s24 T h
    rw [(h0 n h k).1] at hi
    rw [(h0 n h k).2 i (by omega)]
    exact tr_ch T h k hi
  · intro n h k i j hi hj e
    have := tr_s24 T h
    rw [(h0 n h k).1] at hi hj
    rw [(h0 n h k).2 i (by omega), (h0 n h k).2 j (by omega)] at e
    exact tr_in T h k hi hj e
  · intro n p h e
    obtain ⟨a, b, i, hi, g⟩ := tr_pe T h e
    have := tr_s24 T a
    exact ⟨a, b, i, by rw [(h0 p a b).1]; exact hi, by rw [(h0 p a b).2 i (by omega)]; exact g⟩
end
end
section
/-! places, their order told by codes at every common ancestor, and what each change of the forest does to it -/
def pl_od (kd pa sz it : Nat → Nat) (w v x : Nat) : Prop := ∃ j, j < sz w ∧ kd w = 0 ∧ tr_w pa (v + 1) (it (24 * w + j)) ∧ x = 2 * j + 1
def pl_cd (kd pa sz it : Nat → Nat) (w v o x : Nat) : Prop := (v = w ∧ x = 2 * o) ∨ pl_od kd pa sz it w v x
def pl_le (c : Nat) (kd pa sz it : Nat → Nat) (v o v' o' : Nat) : Prop := ∀ w x y, w < c → pl_cd kd pa sz it w v o x → pl_cd kd pa sz it w v' o' y → x ≤ y
def pl_sm (pa : Nat → Nat) (v v' : Nat) : Prop := ∃ w, tr_w pa (v + 1) w ∧ tr_w pa (v' + 1) w
def pl_ok (c : Nat) (sz : Nat → Nat) (v o : Nat) : Prop := v < c ∧ o ≤ sz v
def pl_R (c : Nat) (kd pa sz it : Nat → Nat) (v o v' o' : Nat) : Prop := pl_sm pa v v' ∧ pl_le c kd pa sz it v o v' o'
def pl_P (c : Nat) (kd pa sz it pn po : Nat → Nat) : Prop := (∀ k, k < 8 → pl_ok c sz (pn k) (po k)) ∧ ∀ r, r < 4 → pl_R c kd pa sz it (pn (2 * r)) (po (2 * r)) (pn (2 * r + 1)) (po (2 * r + 1))
def mp_n (F : Nat → Nat → Nat × Nat) (pn po : Nat → Nat) : Nat → Nat := fun k => if k < 8 then (F (pn k) (po k)).1 else pn k
def mp_o (F : Nat → Nat → Nat × Nat) (pn po : Nat → Nat) : Nat → Nat := fun k => if k < 8 then (F (pn k) (po k)).2 else po k
theorem mp_n1 {F : Nat → Nat → Nat × Nat} {pn po : Nat → Nat} {k : Nat} (h : k < 8) : mp_n F pn po k = (F (pn k) (po k)).1 := if_pos h
theorem mp_o1 {F : Nat → Nat → Nat × Nat} {pn po : Nat → Nat} {k : Nat} (h : k < 8) : mp_o F pn po k = (F (pn k) (po k)).2 := if_pos h
theorem pl_map {c c' : Nat} {kd pa sz it pn po kd' pa' sz' it' : Nat → Nat} (F : Nat → Nat → Nat × Nat) (ok : Nat → Nat → Prop) (P : pl_P c kd pa sz it pn po) (hk : ∀ k, k < 8 → ok (pn k) (po k))
    (h1 : ∀ v o, ok v o → pl_ok c' sz' (F v o).1 (F v o).2)
    (h2 : ∀ v o v' o', ok v o → ok v' o' → pl_R c kd pa sz it v o v' o' → pl_R c' kd' pa' sz' it' (F v o).1 (F v o).2 (F v' o').1 (F v' o').2) :
    pl_P c' kd' pa' sz' it' (mp_n F pn po) (mp_o F pn po) := by
  refine ⟨fun k h => ?_, fun r h => ?_⟩
  · rw [mp_n1 h, mp_o1 h]; exact h1 _ _ (hk k h)
  · rw [mp_n1 (by omega), mp_o1 (by omega), mp_n1 (by omega), mp_o1 (by omega)]
    exact h2 _ _ _ _ (hk _ (by omega)) (hk _ (by omega)) (P.2 r h)
section
variable {c : Nat} {kd pa sz it : Nat → Nat}
theorem pl_oself (T : tr_T c kd pa sz it) {w x : Nat} (hw : w < c) (h : pl_od kd pa sz it w w x) : False := by
  obtain ⟨j, hj, k, g, _⟩ := h
  have := tr_ch T hw k hj
  exact tr_ac T this.1 this.2 g
theorem pl_odd1 (T : tr_T c kd pa sz it) {w v x y : Nat} (hw : w < c) (hv : v < c) (h : pl_od kd pa sz it w v x) (g : pl_od kd pa sz it w v y) : x = y := by
  obtain ⟨j, hj, k, h1, rfl⟩ := h
  obtain ⟨i, hi, _, g1, rfl⟩ := g
  have a := tr_ch T hw k hj
  have b := tr_ch T hw k hi
  have e : it (24 * w + j) = it (24 * w + i) := by
    rcases tr_wcmp h1 g1 with z | z
    · rcases tr_wc z with e | z
      · exact e
      · rw [a.2] at z; exact absurd z (tr_ac T b.1 b.2)
    · rcases tr_wc z with e | z
      · exact e.symm
      · rw [b.2] at z; exact absurd z (tr_ac T a.1 a.2)
  rw [tr_in T hw k hj hi e]
theorem pl_cd1 (T : tr_T c kd pa sz it) {w v o x y : Nat} (hw : w < c) (hv : v < c) (h : pl_cd kd pa sz it w v o x) (g : pl_cd kd pa sz it w v o y) : x = y := by
  rcases h with ⟨e, rfl⟩ | h
  · subst e
    rcases g with ⟨_, rfl⟩ | g
    · rfl
    · exact (pl_oself T hw g).elim
  · rcases g with ⟨e, rfl⟩ | g
    · subst e; exact (pl_oself T hw h).elim
    · exact pl_odd1 T hw hv h g
theorem pl_Rr (T : tr_T c kd pa sz it) {v o : Nat} (hv : v < c) : pl_R c kd pa sz it v o v o :=
  ⟨⟨v, tr_wr pa v, tr_wr pa v⟩, fun _ _ _ hw h g => Nat.le_of_eq (pl_cd1 T hw hv h g)⟩
theorem pl_oup (T : tr_T c kd pa sz it) {w a p x : Nat} (hw : w < c) (e : pa a = p + 1) (ne : w ≠ p) (h : pl_od kd pa sz it w a x) : pl_od kd pa sz it w p x := by
  obtain ⟨j, hj, k, g, rfl⟩ := h
  refine ⟨j, hj, k, ?_, rfl⟩
  rcases tr_wc g with q | g
  · have := (tr_ch T hw k hj).2
    rw [← q, e] at this
    omega
  · rw [e] at g; exact g
theorem pl_odn {w a p x : Nat} (e : pa a = p + 1) (h : pl_od kd pa sz it w p x) : pl_od kd pa sz it w a x := by
  obtain ⟨j, hj, k, g, rfl⟩ := h
  exact ⟨j, hj, k, tr_wp e g, rfl⟩
theorem pl_oat (T : tr_T c kd pa sz it) {p i x : Nat} (hp : p < c) (hk : kd p = 0) (hi : i < sz p) (h : pl_od kd pa sz it p (it (24 * p + i)) x) : x = 2 * i + 1 :=
  pl_odd1 T hp (tr_ch T hp hk hi).1 h ⟨i, hi, hk, tr_wr _ _, rfl⟩
theorem pl_otx {w v x : Nat} (k : kd w = 1) (h : pl_od kd pa sz it w v x) : False := by
  obtain ⟨j, hj, k', _⟩ := h
  omega
/-- nothing is within a text but itself -/
theorem pl_wtx (T : tr_T c kd pa sz it) {v t : Nat} (hv : v < c) (k : kd t = 1) (h : tr_w pa (v + 1) t) : v = t := by
  rcases tr_wl h with e | ⟨q, e, g⟩
  · omega
  · have := (tr_pe T (tr_lt T hv g) e).2.1
    omega
/-- the codes when letters alone are changed -/
theorem pl_ctx {sz' it' : Nat → Nat} (h0 : ∀ n, n < c → kd n = 0 → sz' n = sz n ∧ ∀ i, i < 24 → it' (24 * n + i) = it (24 * n + i)) (T : tr_T c kd pa sz it) {w v o x : Nat} (hw : w < c) (h : pl_cd kd pa sz' it' w v o x) : pl_cd kd pa sz it w v o x := by
  rcases h with h | ⟨j, hj, k, g, e⟩
  · exact Or.inl h
  · have s := tr_s24 T hw
    rw [(h0 w hw k).1] at hj
    rw [(h0 w hw k).2 j (by omega)] at g
    exact Or.inr ⟨j, hj, k, g, e⟩
/-- letters of one text exchanged -/
def pl_ex (t : Nat) (g : Nat → Nat) (v o : Nat) : Nat × Nat := if v = t then (t, g o) else (v, o)
theorem pl_Rex (T : tr_T c kd pa sz it) {sz' it' : Nat → Nat} (h0 : ∀ n, n < c → kd n = 0 → sz' n = sz n ∧ ∀ i, i < 24 → it' (24 * n + i) = it (24 * n + i)) {t : Nat} (kt : kd t = 1) {g : Nat → Nat} (mono : ∀ a b, a ≤ b → g a ≤ g b) {v o v' o' : Nat} (R : pl_R c kd pa sz it v o v' o') (ht : t < c) :
    pl_R c kd pa sz' it' (pl_ex t g v o).1 (pl_ex t g v o).2 (pl_ex t g v' o').1 (pl_ex t g v' o').2 := by
  have n1 : ∀ v o, (pl_ex t g v o).1 = v := by intro v o; unfold pl_ex; split; · rename_i e; exact e.symm
                                               · rfl
  rw [n1, n1]
  refine ⟨R.1, fun w x y hw hx hy => ?_⟩
  have hx := pl_ctx h0 T hw hx
  have hy := pl_ctx h0 T hw hy
  have bk : ∀ v o x, pl_cd kd pa sz it w v (pl_ex t g v o).2 x → (w = t ∧ v = t ∧ x = 2 * g o) ∨ (w ≠ t ∧ pl_cd kd pa sz it w v o x) := by
    intro v o x h
    by_cases e : w = t
    · subst e
      rcases h with ⟨e2, e3⟩ | h
      · unfold pl_ex at e3
        rw [if_pos e2] at e3
        exact Or.inl ⟨rfl, e2, e3⟩
      · exact (pl_otx kt h).elim
    · refine Or.inr ⟨e, ?_⟩
      rcases h with ⟨e2, e3⟩ | h
      · unfold pl_ex at e3
        rw [if_neg (by omega)] at e3
        exact Or.inl ⟨e2, e3⟩
      · exact Or.inr h
  rcases bk v o x hx with ⟨e1, e2, e3⟩ | ⟨e1, h1⟩
  · rcases bk v' o' y hy with ⟨f1, f2, f3⟩ | ⟨f1, h2⟩
    · have := R.2 t (2 * o) (2 * o') ht (Or.inl ⟨e2, rfl⟩) (Or.inl ⟨f2, rfl⟩)
      have := mono o o' (by omega)
      omega
    · omega
  · rcases bk v' o' y hy with ⟨f1, f2, f3⟩ | ⟨f1, h2⟩
    · omega
    · exact R.2 w x y hw h1 h2
/-- a node is taken out -/
noncomputable def pl_tk (pa : Nat → Nat) (n0 p0 i0 v o : Nat) : Nat × Nat := cl_if (tr_w pa (v + 1) n0) (p0, i0) (if v = p0 ∧ i0 < o then (v, o - 1) else (v, o))
def pl_tf (p0 i0 w x : Nat) : Nat := if w = p0 then (if x ≤ 2 * i0 then x else if x = 2 * i0 + 1 then 2 * i0 else x - 2) else x
theorem pl_tm {p0 i0 w x y : Nat} (h : x ≤ y) : pl_tf p0 i0 w x ≤ pl_tf p0 i0 w y := by
  unfold pl_tf
  split
  · split <;> split <;> (try split) <;> (try split) <;> omega
  · exact h
theorem pl_tcd (T : tr_T c kd pa sz it) {n0 p0 i0 : Nat} (hn : n0 < c) (hp : pa n0 = p0 + 1) (hi : i0 < sz p0) (he : it (24 * p0 + i0) = n0) {w v o x' : Nat} (hw : w < c) (hv : v < c)
    (h : pl_cd kd (st_u pa n0 0) (st_u sz p0 (sz p0 - 1)) (mv_l it (24 * p0) (i0 + 1) (sz p0) 1) w (pl_tk pa n0 p0 i0 v o).1 (pl_tk pa n0 p0 i0 v o).2 x') :
    ∃ x, pl_cd kd pa sz it w v o x ∧ x' = pl_tf p0 i0 w x := by
  obtain ⟨hp0, hk0, _⟩ := tr_pe T hn hp
  have s0 := tr_s24 T hp0
  have sw := tr_s24 T hw
  have odd : ∀ u, pl_od kd (st_u pa n0 0) (st_u sz p0 (sz p0 - 1)) (mv_l it (24 * p0) (i0 + 1) (sz p0) 1) w u x' → ∃ x, pl_od kd pa sz it w u x ∧ x' = pl_tf p0 i0 w x := by
    rintro u ⟨j, hj, k, g, rfl⟩
    have g := tr_e1 g
    by_cases e : w = p0
    · subst e
      rw [st_us] at hj
      by_cases l : j < i0
      · rw [mv_lb it (by omega)] at g
        refine ⟨2 * j + 1, ⟨j, by omega, k, g, rfl⟩, ?_⟩
        unfold pl_tf
        rw [if_pos rfl, if_pos (by omega)]
      · rw [mv_li it (by omega) (by omega)] at g
        refine ⟨2 * (j + 1) + 1, ⟨j + 1, by omega, k, g, rfl⟩, ?_⟩
        unfold pl_tf
        rw [if_pos rfl, if_neg (by omega), if_neg (by omega)]
        omega
    · rw [st_un e] at hj
      rw [mv_lo it e (by omega) (by omega) (by omega)] at g
      refine ⟨2 * j + 1, ⟨j, hj, k, g, rfl⟩, ?_⟩
      unfold pl_tf
      rw [if_neg e]
  unfold pl_tk at h
  by_cases z : tr_w pa (v + 1) n0
  · rw [cl_t z] at h
    rcases h with ⟨e, rfl⟩ | h
    · dsimp only at e
      subst e
      refine ⟨2 * i0 + 1, Or.inr ⟨i0, hi, hk0, by rw [he]; exact z, rfl⟩, ?_⟩
      unfold pl_tf
      rw [if_pos rfl, if_neg (by omega), if_pos rfl]
    · obtain ⟨x, ⟨j, hj, k, g, rfl⟩, e⟩ := odd p0 h
      refine ⟨_, Or.inr ⟨j, hj, k, tr_wt z (tr_wp hp g), rfl⟩, e⟩
  · rw [cl_f z] at h
    rcases h with ⟨e, rfl⟩ | h
    · split at e
      · rename_i q
        dsimp only at e
        subst e
        rw [if_pos q]
        refine ⟨2 * o, Or.inl ⟨rfl, rfl⟩, ?_⟩
        unfold pl_tf
        rw [if_pos q.1, if_neg (by omega), if_neg (by omega)]
        dsimp only
        omega
      · rename_i q
        dsimp only at e
        subst e
        rw [if_neg q]
        refine ⟨2 * o, Or.inl ⟨rfl, rfl⟩, ?_⟩
        unfold pl_tf
        split
        · rw [if_pos (by omega)]
        · rfl
    · have e : (if v = p0 ∧ i0 < o then (v, o - 1) else (v, o)).1 = v := by split <;> rfl
      rw [e] at h
      obtain ⟨x, h1, h2⟩ := odd v h
      exact ⟨x, Or.inr h1, h2⟩
theorem pl_tok (T : tr_T c kd pa sz it) {n0 p0 i0 : Nat} (hn : n0 < c) (hp : pa n0 = p0 + 1) (hi : i0 < sz p0) {v o : Nat} (h : pl_ok c sz v o) : pl_ok c (st_u sz p0 (sz p0 - 1)) (pl_tk pa n0 p0 i0 v o).1 (pl_tk pa n0 p0 i0 v o).2 := by
  obtain ⟨hp0, hk0, _⟩ := tr_pe T hn hp
  unfold pl_tk
  by_cases z : tr_w pa (v + 1) n0
  · rw [cl_t z]; exact ⟨hp0, by rw [st_us]; dsimp only; omega⟩
  · rw [cl_f z]
    obtain ⟨h1, h2⟩ := h
    split
    · rename_i q
      obtain ⟨rfl, q⟩ := q
      exact ⟨hp0, by rw [st_us]; dsimp only; omega⟩
    · rename_i q
      refine ⟨h1, ?_⟩
      dsimp only
      by_cases e : v = p0
      · subst e; rw [st_us]; omega
      · rw [st_un e]; exact h2
theorem pl_Rtk (T : tr_T c kd pa sz it) {n0 p0 i0 : Nat} (hn : n0 < c) (hp : pa n0 = p0 + 1) (hi : i0 < sz p0) (he : it (24 * p0 + i0) = n0) {v o v' o' : Nat} (hv : v < c) (hv' : v' < c) (R : pl_R c kd pa sz it v o v' o') :
    pl_R c kd (st_u pa n0 0) (st_u sz p0 (sz p0 - 1)) (mv_l it (24 * p0) (i0 + 1) (sz p0) 1) (pl_tk pa n0 p0 i0 v o).1 (pl_tk pa n0 p0 i0 v o).2 (pl_tk pa n0 p0 i0 v' o').1 (pl_tk pa n0 p0 i0 v' o').2 := by
  refine ⟨?_, fun w x y hw hx hy => ?_⟩
  · obtain ⟨w, a, b⟩ := R.1
    have f1 : ∀ v o, tr_w pa (v + 1) n0 → (pl_tk pa n0 p0 i0 v o).1 = p0 := by
      intro v o z; unfold pl_tk; rw [cl_t z]
    have f2 : ∀ v o, ¬ tr_w pa (v + 1) n0 → (pl_tk pa n0 p0 i0 v o).1 = v := by
      intro v o z; unfold pl_tk; rw [cl_f z]; split <;> rfl
    have np : ¬ tr_w pa (p0 + 1) n0 := tr_ac T hn hp
    by_cases z : tr_w pa (w + 1) n0
    · rw [f1 v o (tr_wt a z), f1 v' o' (tr_wt b z)]
      exact ⟨p0, tr_wr _ _, tr_wr _ _⟩
    · have up : ∀ v o, tr_w pa (v + 1) w → tr_w (st_u pa n0 0) ((pl_tk pa n0 p0 i0 v o).1 + 1) w := by
        intro v o a
        by_cases y : tr_w pa (v + 1) n0
        · rw [f1 v o y]
          rcases tr_wcmp a y with q | q
          · exact absurd q z
          · rcases tr_wc q with q | q
            · subst q; exact absurd (tr_wr _ _) z
            · rw [hp] at q; exact tr_e3 q np
        · rw [f2 v o y]; exact tr_e3 a y
      exact ⟨w, up v o a, up v' o' b⟩
  · obtain ⟨x1, h1, rfl⟩ := pl_tcd T hn hp hi he hw hv hx
    obtain ⟨y1, h2, rfl⟩ := pl_tcd T hn hp hi he hw hv' hy
    exact pl_tm (R.2 w x1 y1 hw h1 h2)
theorem pl_Ptk (T : tr_T c kd pa sz it) {n0 p0 i0 : Nat} {pn po : Nat → Nat} (hn : n0 < c) (hp : pa n0 = p0 + 1) (hi : i0 < sz p0) (he : it (24 * p0 + i0) = n0) (P : pl_P c kd pa sz it pn po) :
    pl_P c kd (st_u pa n0 0) (st_u sz p0 (sz p0 - 1)) (mv_l it (24 * p0) (i0 + 1) (sz p0) 1) (mp_n (pl_tk pa n0 p0 i0) pn po) (mp_o (pl_tk pa n0 p0 i0) pn po) :=
  pl_map (pl_tk pa n0 p0 i0) (pl_ok c sz) P P.1 (fun _ _ h => pl_tok T hn hp hi h) (fun _ _ _ _ h h' R => pl_Rtk T hn hp hi he h.1 h'.1 R)
end
end
section
/-! places when a node is put in, a text is split, two texts are joined -/
section
variable {c : Nat} {kd pa sz it : Nat → Nat}
def pl_pt (p0 i0 v o : Nat) : Nat × Nat := if v = p0 ∧ i0 < o then (v, o + 1) else (v, o)
def pl_pf (p0 i0 w x : Nat) : Nat := if w = p0 then (if x ≤ 2 * i0 then x else x + 2) else x
theorem pl_pm {p0 i0 w x y : Nat} (h : x ≤ y) : pl_pf p0 i0 w x ≤ pl_pf p0 i0 w y := by
  unfold pl_pf
  split
  · split <;> split <;> omega
  · exact h
theorem pl_p1 (p0 i0 v o : Nat) : (pl_pt p0 i0 v o).1 = v := by unfold pl_pt; split <;> rfl
theorem pl_Rpt (T : tr_T c kd pa sz it) {n0 p0 i0 : Nat} (hp0 : p0 < c) (hk0 : kd p0 = 0) (hn : n0 < c) (hr : pa n0 = 0) (hw0 : ¬ tr_w pa (p0 + 1) n0) (hi : i0 ≤ sz p0) {v o v' o' : Nat} (hv : v < c) (hv' : v' < c) (R : pl_R c kd pa sz it v o v' o') :
    pl_R c kd (st_u pa n0 (p0 + 1)) (st_u sz p0 (sz p0 + 1)) (st_u (mv_r it (24 * p0) i0 (sz p0) 1) (24 * p0 + i0) n0) (pl_pt p0 i0 v o).1 (pl_pt p0 i0 v o).2 (pl_pt p0 i0 v' o').1 (pl_pt p0 i0 v' o').2 := by
  have T' := tr_Tput T hp0 hk0 hn hr hw0 hi
  have c24 := tr_c24 T
  have ne0 : n0 ≠ p0 := by rintro rfl; exact hw0 (tr_wr pa _)
  have s2 := tr_sz2 T hp0 hk0 hn ne0 (by omega)
  have uu : st_u (st_u pa n0 (p0 + 1)) n0 0 = pa := tr_uu (p0 + 1) hr
  have ac : ¬ tr_w (st_u pa n0 (p0 + 1)) (st_u pa n0 (p0 + 1) n0) n0 := by
    rw [st_us]; exact fun z => hw0 (tr_e6 z)
  have e1 : ∀ {x b}, tr_w pa x b → tr_w (st_u pa n0 (p0 + 1)) x b := by
    intro x b h
    apply tr_e1 (n0 := n0)
    rw [uu]; exact h
  have e2 : ∀ {x b}, tr_w (st_u pa n0 (p0 + 1)) x b → tr_w pa x b ∨ (tr_w pa x n0 ∧ tr_w pa (p0 + 1) b) := by
    intro x b h
    have := tr_e2 ac h
    rw [uu, st_us] at this
    exact this
  have A : ∀ w v o x', w < c → v < c → (tr_w pa (v + 1) n0 → tr_w pa (w + 1) n0) →
      pl_cd kd (st_u pa n0 (p0 + 1)) (st_u sz p0 (sz p0 + 1)) (st_u (mv_r it (24 * p0) i0 (sz p0) 1) (24 * p0 + i0) n0) w v (pl_pt p0 i0 v o).2 x' →
      ∃ x, pl_cd kd pa sz it w v o x ∧ x' = pl_pf p0 i0 w x := by
    intro w v o x' hw hv hyp h
    rcases h with ⟨e, rfl⟩ | ⟨j, hj, k, g, rfl⟩
    · refine ⟨2 * o, Or.inl ⟨e, rfl⟩, ?_⟩
      subst e
      unfold pl_pt pl_pf
      split
      · rename_i q; rw [if_pos q.1, if_neg (by omega)]; dsimp only; omega
      · rename_i q; split
        · rw [if_pos (by omega)]
        · rfl
    · have low : ∀ b, pa b = w + 1 → tr_w (st_u pa n0 (p0 + 1)) (v + 1) b → tr_w pa (v + 1) b := by
        intro b hb g
        rcases e2 g with g | ⟨g1, g2⟩
        · exact g
        · exact absurd (tr_wt g2 (tr_wt (tr_wp hb (tr_wr pa w)) (hyp g1))) hw0
      by_cases e : w = p0
      · subst e
        rw [st_us] at hj
        by_cases l : j = i0
        · subst l
          rw [st_us] at g
          exact absurd (hyp (tr_e6 g)) hw0
        · rw [st_un (by omega)] at g
          by_cases l2 : j < i0
          · rw [mv_rb it (by omega)] at g
            refine ⟨2 * j + 1, Or.inr ⟨j, by omega, k, low _ (tr_ch T hw k (by omega)).2 g, rfl⟩, ?_⟩
            unfold pl_pf
            rw [if_pos rfl, if_pos (by omega)]
          · rw [mv_ri it (by omega) (by omega)] at g
            refine ⟨2 * (j - 1) + 1, Or.inr ⟨j - 1, by omega, k, low _ (tr_ch T hw k (by omega)).2 g, rfl⟩, ?_⟩
            unfold pl_pf
            rw [if_pos rfl, if_neg (by omega)]
            omega
      · rw [st_un e] at hj
        have sw := tr_s24 T hw
        rw [st_un (by omega), mv_ro it e (by omega) (by omega)] at g
        refine ⟨2 * j + 1, Or.inr ⟨j, hj, k, low _ (tr_ch T hw k hj).2 g, rfl⟩, ?_⟩
        unfold pl_pf
        rw [if_neg e]
  have B : ∀ w v o x', w < c → v < c → tr_w pa (v + 1) n0 → ¬ tr_w pa (w + 1) n0 →
      pl_cd kd (st_u pa n0 (p0 + 1)) (st_u sz p0 (sz p0 + 1)) (st_u (mv_r it (24 * p0) i0 (sz p0) 1) (24 * p0 + i0) n0) w v o x' →
      pl_cd kd (st_u pa n0 (p0 + 1)) (st_u sz p0 (sz p0 + 1)) (st_u (mv_r it (24 * p0) i0 (sz p0) 1) (24 * p0 + i0) n0) w n0 0 x' := by
    intro w v o x' hw hv z nz h
    rcases h with ⟨e, _⟩ | ⟨j, hj, k, g, rfl⟩
    · subst e; exact absurd z nz
    · refine Or.inr ⟨j, hj, k, ?_, rfl⟩
      rcases tr_wcmp g (e1 z) with q | q
      · rcases tr_wc q with q | q
        · rw [q]; exact tr_wr _ _
        · rw [(tr_ch T' hw k hj).2] at q
          exact absurd (tr_e6 q) nz
      · exact q
  obtain ⟨w0, a, b⟩ := R.1
  have both : tr_w pa (v + 1) n0 ↔ tr_w pa (v' + 1) n0 :=
    ⟨fun z => tr_wt b (tr_wtop hr a z), fun z => tr_wt a (tr_wtop hr b z)⟩
  rw [pl_p1, pl_p1]
  refine ⟨⟨w0, e1 a, e1 b⟩, fun w x y hw hx hy => ?_⟩
  by_cases z : tr_w pa (v + 1) n0 ∧ ¬ tr_w pa (w + 1) n0
  · have h1 := B w v _ x hw hv z.1 z.2 hx
    have h2 := B w v' _ y hw hv' (both.mp z.1) z.2 hy
    exact Nat.le_of_eq (pl_cd1 T' hw hn h1 h2)
  · have z1 : tr_w pa (v + 1) n0 → tr_w pa (w + 1) n0 := fun q => Classical.byContradiction fun r => z ⟨q, r⟩
    obtain ⟨x1, h1, rfl⟩ := A w v o x hw hv z1 hx
    obtain ⟨y1, h2, rfl⟩ := A w v' o' y hw hv' (fun q => z1 (both.mpr q)) hy
    exact pl_pm (R.2 w x1 y1 hw h1 h2)
theorem pl_Ppt (T : tr_T c kd pa sz it) {n0 p0 i0 : Nat} {pn po : Nat → Nat} (hp0 : p0 < c) (hk0 : kd p0 = 0) (hn : n0 < c) (hr : pa n0 = 0) (hw0 : ¬ tr_w pa (p0 + 1) n0) (hi : i0 ≤ sz p0) (P : pl_P c kd pa sz it pn po) :
    pl_P c kd (st_u pa n0 (p0 + 1)) (st_u sz p0 (sz p0 + 1)) (st_u (mv_r it (24 * p0) i0 (sz p0) 1) (24 * p0 + i0) n0) (mp_n (pl_pt p0 i0) pn po) (mp_o (pl_pt p0 i0) pn po) := by
  refine pl_map (pl_pt p0 i0) (pl_ok c sz) P P.1 ?_ (fun _ _ _ _ h h' R => pl_Rpt T hp0 hk0 hn hr hw0 hi h.1 h'.1 R)
  intro v o h
  rw [pl_p1]
  refine ⟨h.1, ?_⟩
  have := h.2
  unfold pl_pt
  split
  · rename_i q; rw [q.1, st_us]; rw [q.1] at this; dsimp only; omega
  · dsimp only
    by_cases e : v = p0
    · subst e; rw [st_us]; omega
    · rw [st_un e]; exact this
/-- a new node -/
theorem pl_Pmk (T : tr_T c kd pa sz it) {pn po : Nat → Nat} {k : Nat} (P : pl_P c kd pa sz it pn po) : pl_P (c + 1) (st_u kd c k) (st_u pa c 0) (st_u sz c 0) it pn po := by
  refine ⟨fun j h => ?_, fun r h => ?_⟩
  · have := P.1 j h
    exact ⟨by have := this.1; omega, by rw [st_un (by have := this.1; omega)]; exact this.2⟩
  · have a1 := (P.1 (2 * r) (by omega)).1
    have a2 := (P.1 (2 * r + 1) (by omega)).1
    obtain ⟨⟨w, x, y⟩, le⟩ := P.2 r h
    have ne : ∀ v, v < c → ¬ tr_w pa (v + 1) c := fun v hv z => by have := tr_lt T hv z; omega
    refine ⟨⟨w, tr_e3 x (ne _ a1), tr_e3 y (ne _ a2)⟩, fun w x y hw hx hy => ?_⟩
    have bk : ∀ v o x, v < c → pl_cd (st_u kd c k) (st_u pa c 0) (st_u sz c 0) it w v o x → w < c ∧ pl_cd kd pa sz it w v o x := by
      intro v o x hv h
      rcases h with ⟨e, e2⟩ | ⟨j, hj, kk, g, e⟩
      · exact ⟨by omega, Or.inl ⟨e, e2⟩⟩
      · by_cases e : w = c
        · subst e; rw [st_us] at hj; omega
        · rw [st_un e] at hj kk
          exact ⟨by omega, Or.inr ⟨j, hj, kk, tr_e1 g, by assumption⟩⟩
    obtain ⟨hw', h1⟩ := bk _ _ _ a1 hx
    obtain ⟨_, h2⟩ := bk _ _ _ a2 hy
    exact le w x y hw' h1 h2
/-- a text t is split at o: behind it the fresh f, both in p -/
def pl_sp (p i t o f v q : Nat) : Nat × Nat := if v = p ∧ q = i + 1 then (p, i + 2) else if v = t ∧ o < q then (f, q - o) else (v, q)
theorem pl_Rsp (T : tr_T c kd pa sz it) {sz' it' : Nat → Nat} (h0 : ∀ n, n < c → kd n = 0 → sz' n = sz n ∧ ∀ i, i < 24 → it' (24 * n + i) = it (24 * n + i)) {p i t o f : Nat} (hp : p < c) (kp : kd p = 0) (hi : i + 1 < sz p) (et : it (24 * p + i) = t) (ef : it (24 * p + (i + 1)) = f) (kt : kd t = 1) (kf : kd f = 1)
    {v q v' q' : Nat} (hv : v < c) (hv' : v' < c) (nf : v ≠ f) (nf' : v' ≠ f) (R : pl_R c kd pa sz it v q v' q') :
    pl_R c kd pa sz' it' (pl_sp p i t o f v q).1 (pl_sp p i t o f v q).2 (pl_sp p i t o f v' q').1 (pl_sp p i t o f v' q').2 := by
  have ct := tr_ch T hp kp (i := i) (by omega)
  have cf := tr_ch T hp kp (i := i + 1) (by omega)
  rw [et] at ct
  rw [ef] at cf
  have ntf : t ≠ f := by
    intro e
    have := tr_in T hp kp (i := i) (j := i + 1) (by omega) (by omega) (by rw [et, ef, e])
    omega
  have npt : p ≠ t := by rintro rfl; omega
  have npf : p ≠ f := by rintro rfl; omega
  have cs : ∀ v q, v ≠ f → ((v = p ∧ q = i + 1 ∧ pl_sp p i t o f v q = (p, i + 2)) ∨ (v = t ∧ o < q ∧ pl_sp p i t o f v q = (f, q - o)) ∨ (¬ (v = p ∧ q = i + 1) ∧ ¬ (v = t ∧ o < q) ∧ pl_sp p i t o f v q = (v, q))) := by
    intro v q _
    unfold pl_sp
    split
    · rename_i e; exact Or.inl ⟨e.1, e.2, rfl⟩
    · split
      · rename_i e; exact Or.inr (Or.inl ⟨e.1, e.2, rfl⟩)
      · exact Or.inr (Or.inr ⟨by assumption, by assumption, rfl⟩)
  refine ⟨?_, fun w x y hw hx hy => ?_⟩
  · obtain ⟨w, a, b⟩ := R.1
    have gen : ∀ v q w, v < c → v ≠ f → tr_w pa (v + 1) w → w ≠ t → tr_w pa ((pl_sp p i t o f v q).1 + 1) w := by
      intro v q w hv nf a nw
      rcases cs v q nf with ⟨rfl, _, e⟩ | ⟨rfl, _, e⟩ | ⟨_, _, e⟩
      · rw [e]; exact a
      · rw [e]
        rcases tr_wc a with e2 | a
        · exact absurd e2.symm nw
        · rw [ct.2] at a; exact tr_wp cf.2 a
      · rw [e]; exact a
    by_cases z : w = t
    · subst z
      have e1 := pl_wtx T hv kt a
      have e2 := pl_wtx T hv' kt b
      subst e1
      have w1 : tr_w pa (v + 1) p := tr_wp ct.2 (tr_wr _ _)
      have w2 : tr_w pa (v' + 1) p := by rw [e2]; exact w1
      exact ⟨p, gen v q p hv nf w1 npt, gen v' q' p hv' nf' w2 npt⟩
    · exact ⟨w, gen v q w hv nf a z, gen v' q' w hv' nf' b z⟩
  · have hx := pl_ctx h0 T hw hx
    have hy := pl_ctx h0 T hw hy
    have le := R.2
    by_cases wt : w = t
    · subst wt
      have bk : ∀ v q x, v ≠ f → pl_cd kd pa sz it w (pl_sp p i w o f v q).1 (pl_sp p i w o f v q).2 x → v = w ∧ x = 2 * q := by
        intro v q x nf h
        rcases h with ⟨e, rfl⟩ | h
        · rcases cs v q nf with ⟨_, _, e2⟩ | ⟨_, _, e2⟩ | ⟨_, _, e2⟩ <;> rw [e2] at e ⊢ <;> dsimp only at e ⊢
          · exact absurd e npt
          · exact absurd e.symm ntf
          · exact ⟨e, rfl⟩
        · exact (pl_otx kt h).elim
      obtain ⟨a1, a2⟩ := bk v q x nf hx
      obtain ⟨b1, b2⟩ := bk v' q' y nf' hy
      have := le w (2 * q) (2 * q') hw (Or.inl ⟨a1, rfl⟩) (Or.inl ⟨b1, rfl⟩)
      omega
    · by_cases wf : w = f
      · subst wf
        have bk : ∀ v q x, v ≠ w → pl_cd kd pa sz it w (pl_sp p i t o w v q).1 (pl_sp p i t o w v q).2 x → v = t ∧ x = 2 * (q - o) := by
          intro v q x nf h
          rcases h with ⟨e, rfl⟩ | h
          · rcases cs v q nf with ⟨_, _, e2⟩ | ⟨e1, _, e2⟩ | ⟨_, _, e2⟩ <;> rw [e2] at e ⊢ <;> dsimp only at e ⊢
            · exact absurd e npf
            · exact ⟨e1, rfl⟩
            · exact absurd e nf
          · exact (pl_otx kf h).elim
        obtain ⟨a1, a2⟩ := bk v q x nf hx
        obtain ⟨b1, b2⟩ := bk v' q' y nf' hy
        have := le t (2 * q) (2 * q') ct.1 (Or.inl ⟨a1, rfl⟩) (Or.inl ⟨b1, rfl⟩)
        omega
      · by_cases wp : w = p
        · subst wp
          -- the code ahead and the code now, at p itself
          have bk : ∀ v q x, v < c → v ≠ f → pl_cd kd pa sz it w (pl_sp w i t o f v q).1 (pl_sp w i t o f v q).2 x →
              ∃ x0, pl_cd kd pa sz it w v q x0 ∧ ((x0 = 2 * i + 2 ∧ x = 2 * i + 4) ∨ (v = t ∧ x0 = 2 * i + 1 ∧ ((q ≤ o ∧ x = 2 * i + 1) ∨ (o < q ∧ x = 2 * i + 3))) ∨ (x = x0 ∧ x0 ≠ 2 * i + 1 ∧ x0 ≠ 2 * i + 2 ∧ x0 ≠ 2 * i + 3)) := by
            intro v q x hv nf h
            rcases cs v q nf with ⟨e1, e3, e2⟩ | ⟨e1, e3, e2⟩ | ⟨e1, e3, e2⟩ <;> rw [e2] at h
            · rcases h with ⟨_, h⟩ | h
              · exact ⟨2 * i + 2, Or.inl ⟨e1, by omega⟩, Or.inl ⟨rfl, by dsimp only at h; omega⟩⟩
              · exact (pl_oself T hw h).elim
            · rcases h with ⟨e, _⟩ | h
              · exact absurd e.symm npf
              · dsimp only at h
                rw [← ef] at h
                have := pl_oat T hw kp (i := i + 1) (by omega) h
                exact ⟨2 * i + 1, Or.inr ⟨i, by omega, kp, by rw [e1, et]; exact tr_wr _ _, rfl⟩, Or.inr (Or.inl ⟨e1, rfl, Or.inr ⟨e3, by omega⟩⟩)⟩
            · rcases h with ⟨e, h⟩ | h
              · dsimp only at e h
                refine ⟨2 * q, Or.inl ⟨e, rfl⟩, Or.inr (Or.inr ⟨h, by omega, by omega, by omega⟩)⟩
              · dsimp only at h
                by_cases vt : v = t
                · subst vt
                  rw [← et] at h
                  have := pl_oat T hw kp (i := i) (by omega) h
                  refine ⟨2 * i + 1, Or.inr ⟨i, by omega, kp, by rw [et]; exact tr_wr _ _, rfl⟩, Or.inr (Or.inl ⟨rfl, rfl, Or.inl ⟨by omega, by omega⟩⟩)⟩
                · refine ⟨x, Or.inr h, Or.inr (Or.inr ⟨rfl, ?_⟩)⟩
                  obtain ⟨j, hj, _, g, rfl⟩ := h
                  have n1 : j ≠ i := by rintro rfl; rw [et] at g; exact vt (pl_wtx T hv kt g)
                  have n2 : j ≠ i + 1 := by rintro rfl; rw [ef] at g; exact nf (pl_wtx T hv kf g)
                  omega
          obtain ⟨x0, a1, a2⟩ := bk v q x hv nf hx
          obtain ⟨y0, b1, b2⟩ := bk v' q' y hv' nf' hy
          have l1 := le w x0 y0 hw a1 b1
          have l2 : v = t → v' = t → q ≤ q' := by
            intro e e'
            have := le t (2 * q) (2 * q') ct.1 (Or.inl ⟨e, rfl⟩) (Or.inl ⟨e', rfl⟩)
            omega
          rcases a2 with a2 | a2 | a2 <;> rcases b2 with b2 | b2 | b2
          · omega
          · omega
          · omega
          · omega
          · have := l2 a2.1 b2.1; omega
          · omega
          · omega
          · omega
          · omega
        · have bk : ∀ v q x, v ≠ f → pl_cd kd pa sz it w (pl_sp p i t o f v q).1 (pl_sp p i t o f v q).2 x → pl_cd kd pa sz it w v q x := by
            intro v q x nf h
            rcases cs v q nf with ⟨e1, e3, e2⟩ | ⟨e1, e3, e2⟩ | ⟨e1, e3, e2⟩ <;> rw [e2] at h
            · rcases h with ⟨e, _⟩ | h
              · exact absurd e.symm wp
              · rw [e1]; exact Or.inr h
            · rcases h with ⟨e, _⟩ | h
              · exact absurd e.symm wf
              · rw [e1]
                exact Or.inr (pl_odn ct.2 (pl_oup T hw cf.2 wp h))
            · exact h
          exact le w x y hw (bk v q x nf hx) (bk v' q' y nf' hy)
/-- two texts t and s, neighbours in p, are joined -/
def pl_jn (p i t m s v q : Nat) : Nat × Nat := if v = s then (t, m + q) else if v = p ∧ q = i + 1 then (t, m) else (v, q)
theorem pl_Rjn (T : tr_T c kd pa sz it) {sz' it' : Nat → Nat} (h0 : ∀ n, n < c → kd n = 0 → sz' n = sz n ∧ ∀ i, i < 24 → it' (24 * n + i) = it (24 * n + i)) {p i t s : Nat} (hp : p < c) (kp : kd p = 0) (hi : i + 1 < sz p) (et : it (24 * p + i) = t) (ef : it (24 * p + (i + 1)) = s) (kt : kd t = 1) (kf : kd s = 1)
    {v q v' q' : Nat} (hv : pl_ok c sz v q) (hv' : pl_ok c sz v' q') (R : pl_R c kd pa sz it v q v' q') :
    pl_R c kd pa sz' it' (pl_jn p i t (sz t) s v q).1 (pl_jn p i t (sz t) s v q).2 (pl_jn p i t (sz t) s v' q').1 (pl_jn p i t (sz t) s v' q').2 := by
  have ct := tr_ch T hp kp (i := i) (by omega)
  have cf := tr_ch T hp kp (i := i + 1) (by omega)
  rw [et] at ct
  rw [ef] at cf
  have ntf : t ≠ s := by
    intro e
    have := tr_in T hp kp (i := i) (j := i + 1) (by omega) (by omega) (by rw [et, ef, e])
    omega
  have npt : p ≠ t := by rintro rfl; omega
  have npf : p ≠ s := by rintro rfl; omega
  have cs : ∀ v q, ((v = s ∧ pl_jn p i t (sz t) s v q = (t, sz t + q)) ∨ (v = p ∧ q = i + 1 ∧ pl_jn p i t (sz t) s v q = (t, sz t)) ∨ (v ≠ s ∧ ¬ (v = p ∧ q = i + 1) ∧ pl_jn p i t (sz t) s v q = (v, q))) := by
    intro v q
    unfold pl_jn
    split
    · rename_i e; exact Or.inl ⟨e, rfl⟩
    · split
      · rename_i e; exact Or.inr (Or.inl ⟨e.1, e.2, rfl⟩)
      · exact Or.inr (Or.inr ⟨by assumption, by assumption, rfl⟩)
  refine ⟨?_, fun w x y hw hx hy => ?_⟩
  · obtain ⟨w, a, b⟩ := R.1
    have gen : ∀ v q w, v < c → tr_w pa (v + 1) w → w ≠ s → tr_w pa ((pl_jn p i t (sz t) s v q).1 + 1) w := by
      intro v q w hv a nw
      rcases cs v q with ⟨rfl, e⟩ | ⟨rfl, _, e⟩ | ⟨_, _, e⟩
      · rw [e]
        rcases tr_wc a with e2 | a
        · exact absurd e2.symm nw
        · rw [cf.2] at a; exact tr_wp ct.2 a
      · rw [e]; exact tr_wp ct.2 a
      · rw [e]; exact a
    by_cases z : w = s
    · subst z
      have e1 := pl_wtx T hv.1 kf a
      have e2 := pl_wtx T hv'.1 kf b
      subst e1
      have w1 : tr_w pa (v + 1) p := tr_wp cf.2 (tr_wr _ _)
      have w2 : tr_w pa (v' + 1) p := by rw [e2]; exact w1
      exact ⟨p, gen v q p hv.1 w1 npf, gen v' q' p hv'.1 w2 npf⟩
    · exact ⟨w, gen v q w hv.1 a z, gen v' q' w hv'.1 b z⟩
  · have hx := pl_ctx h0 T hw hx
    have hy := pl_ctx h0 T hw hy
    have le := R.2
    -- codes at p ahead: t has 2i+1, the gap 2i+2, s 2i+3
    have at_p : ∀ v q, (v = s → pl_cd kd pa sz it p v q (2 * i + 3)) ∧ (v = p → q = i + 1 → pl_cd kd pa sz it p v q (2 * i + 2)) ∧ (v = t → pl_cd kd pa sz it p v q (2 * i + 1)) := by
      intro v q
      refine ⟨fun e => Or.inr ⟨i + 1, hi, kp, ?_, by omega⟩, fun e e2 => Or.inl ⟨e, by omega⟩, fun e => Or.inr ⟨i, by omega, kp, ?_, rfl⟩⟩
      · rw [e, ef]; exact tr_wr _ _
      · rw [e, et]; exact tr_wr _ _
    by_cases wt : w = t
    · subst wt
      have bk : ∀ v q x, pl_ok c sz v q → pl_cd kd pa sz it w (pl_jn p i w (sz w) s v q).1 (pl_jn p i w (sz w) s v q).2 x → (v = w ∧ q ≤ sz w ∧ x = 2 * q) ∨ (v = p ∧ q = i + 1 ∧ x = 2 * sz w) ∨ (v = s ∧ x = 2 * (sz w + q)) := by
        intro v q x hv h
        rcases h with ⟨e, rfl⟩ | h
        · rcases cs v q with ⟨e1, e2⟩ | ⟨e1, e3, e2⟩ | ⟨_, _, e2⟩ <;> rw [e2] at e ⊢ <;> dsimp only at e ⊢
          · exact Or.inr (Or.inr ⟨e1, rfl⟩)
          · exact Or.inr (Or.inl ⟨e1, e3, rfl⟩)
          · exact Or.inl ⟨e, by rw [← e]; exact hv.2, rfl⟩
        · exact (pl_otx kt h).elim
      rcases bk v q x hv hx with a | a | a <;> rcases bk v' q' y hv' hy with b | b | b
      · have := le w (2 * q) (2 * q') hw (Or.inl ⟨a.1, rfl⟩) (Or.inl ⟨b.1, rfl⟩); omega
      · omega
      · omega
      · have := le p _ _ hp ((at_p v q).2.1 a.1 a.2.1) ((at_p v' q').2.2 b.1); omega
      · omega
      · omega
      · have := le p _ _ hp ((at_p v q).1 a.1) ((at_p v' q').2.2 b.1); omega
      · have := le p _ _ hp ((at_p v q).1 a.1) ((at_p v' q').2.1 b.1 b.2.1); omega
      · have := le s (2 * q) (2 * q') cf.1 (Or.inl ⟨a.1, rfl⟩) (Or.inl ⟨b.1, rfl⟩); omega
    · by_cases ws : w = s
      · subst ws
        have bk : ∀ v q x, ¬ pl_cd kd pa sz it w (pl_jn p i t (sz t) w v q).1 (pl_jn p i t (sz t) w v q).2 x := by
          intro v q x h
          rcases h with ⟨e, _⟩ | h
          · rcases cs v q with ⟨_, e2⟩ | ⟨_, _, e2⟩ | ⟨e1, _, e2⟩ <;> rw [e2] at e <;> dsimp only at e
            · exact ntf e
            · exact ntf e
            · exact e1 e
          · exact (pl_otx kf h).elim
        exact absurd hx (bk v q x)
      · by_cases wp : w = p
        · subst wp
          have bk : ∀ v q x, v < c → pl_cd kd pa sz it w (pl_jn w i t (sz t) s v q).1 (pl_jn w i t (sz t) s v q).2 x →
              ∃ x0, pl_cd kd pa sz it w v q x0 ∧ ((x = 2 * i + 1 ∧ (x0 = 2 * i + 1 ∨ x0 = 2 * i + 2 ∨ x0 = 2 * i + 3)) ∨ (x = x0 ∧ x0 ≠ 2 * i + 1 ∧ x0 ≠ 2 * i + 2 ∧ x0 ≠ 2 * i + 3)) := by
            intro v q x hv h
            rcases cs v q with ⟨e1, e2⟩ | ⟨e1, e3, e2⟩ | ⟨e1, e3, e2⟩ <;> rw [e2] at h
            · rcases h with ⟨e, _⟩ | h
              · exact absurd e.symm npt
              · dsimp only at h
                rw [← et] at h
                have := pl_oat T hw kp (i := i) (by omega) h
                exact ⟨_, (at_p v q).1 e1, Or.inl ⟨this, by omega⟩⟩
            · rcases h with ⟨e, _⟩ | h
              · exact absurd e.symm npt
              · dsimp only at h
                rw [← et] at h
                have := pl_oat T hw kp (i := i) (by omega) h
                exact ⟨_, (at_p v q).2.1 e1 e3, Or.inl ⟨this, by omega⟩⟩
            · rcases h with ⟨e, h⟩ | h
              · dsimp only at e h
                exact ⟨2 * q, Or.inl ⟨e, rfl⟩, Or.inr ⟨h, by omega, by omega, by omega⟩⟩
              · dsimp only at h
                by_cases vt : v = t
                · have h' := h
                  rw [vt, ← et] at h'
                  have := pl_oat T hw kp (i := i) (by omega) h'
                  exact ⟨_, (at_p v q).2.2 vt, Or.inl ⟨this, by omega⟩⟩
                · refine ⟨x, Or.inr h, Or.inr ⟨rfl, ?_⟩⟩
                  obtain ⟨j, hj, _, g, rfl⟩ := h
                  have n1 : j ≠ i := by rintro rfl; rw [et] at g; exact vt (pl_wtx T hv kt g)
                  have n2 : j ≠ i + 1 := by rintro rfl; rw [ef] at g; exact e1 (pl_wtx T hv kf g)
                  omega
          obtain ⟨x0, a1, a2⟩ := bk v q x hv.1 hx
          obtain ⟨y0, b1, b2⟩ := bk v' q' y hv'.1 hy
          have l1 := le w x0 y0 hw a1 b1
          omega
        · have bk : ∀ v q x, pl_cd kd pa sz it w (pl_jn p i t (sz t) s v q).1 (pl_jn p i t (sz t) s v q).2 x → pl_cd kd pa sz it w v q x := by
            intro v q x h
            rcases cs v q with ⟨e1, e2⟩ | ⟨e1, e3, e2⟩ | ⟨e1, e3, e2⟩ <;> rw [e2] at h
            · rcases h with ⟨e, _⟩ | h
              · exact absurd e.symm wt
              · rw [e1]
                exact Or.inr (pl_odn cf.2 (pl_oup T hw ct.2 wp h))
            · rcases h with ⟨e, _⟩ | h
              · exact absurd e.symm wt
              · rw [e1]
                exact Or.inr (pl_oup T hw ct.2 wp h)
            · exact h
          exact le w x y hw (bk v q x hx) (bk v' q' y hy)
end
end
section
/-! the walks that only read: X and Y -/
theorem nd_cases (c : Nat) (x : Int32) : (∃ n, n < c ∧ x = nI n) ∨ ∀ n, n < c → x ≠ nI n := by
  by_cases h : ∃ n, n < c ∧ x = nI n
  · exact Or.inl h
  · exact Or.inr fun n hn e => h ⟨n, hn, e⟩
theorem nd_f {c : Nat} {x : Int32} (hc : c ≤ 24) (h : ∀ n, n < c → x ≠ nI n) : x < 0 ∨ (¬ x < 0 ∧ nI c ≤ x) := by
  by_cases z : x < 0
  · exact Or.inl z
  · obtain ⟨j, hj, rfl⟩ := nI_of z
    refine Or.inr ⟨z, nI_le ?_ hj⟩
    apply Classical.byContradiction
    intro q
    exact h j (by omega) rfl
theorem xx_isNode_t {c : Nat} {kd pa sz it pn po : Nat → Nat} {sg eg : Int32} {rl rn oa ca il dm : Nat → Int32} {post : Int32 → Prop} {n : Nat} (hc : c ≤ 24) (h : n < c) (hp : post 1) : wpX_isNode post (nI c, sg, eg, ar_n kd, ar_p pa, ar_n sz, ar_n it, ar_n pn, ar_n po, rl, rn, oa, ca, il, dm) (nI n) :=
  br_f (nI_pos (by omega)) (br_f (nI_ge h (by omega)) hp)
theorem xx_isNode_f {c : Nat} {kd pa sz it pn po : Nat → Nat} {sg eg : Int32} {rl rn oa ca il dm : Nat → Int32} {post : Int32 → Prop} {x : Int32} (hc : c ≤ 24) (h : ∀ n, n < c → x ≠ nI n) (hp : post 0) : wpX_isNode post (nI c, sg, eg, ar_n kd, ar_p pa, ar_n sz, ar_n it, ar_n pn, ar_n po, rl, rn, oa, ca, il, dm) x := by
  rcases nd_f hc h with z | ⟨z, z2⟩
  · exact br_t z hp
  · exact br_f z (br_t z2 hp)
theorem yy_isNode_t {c : Nat} {kd pa sz it pn po : Nat → Nat} {ln : Int32} {mk os cs cm : Nat → Int32} {post : Int32 → Prop} {n : Nat} (hc : c ≤ 24) (h : n < c) (hp : post 1) : wpY_isNode post (nI c, ln, ar_n kd, ar_p pa, ar_n sz, ar_n it, ar_n pn, ar_n po, mk, os, cs, cm) (nI n) :=
  br_f (nI_pos (by omega)) (br_f (nI_ge h (by omega)) hp)
theorem yy_isNode_f {c : Nat} {kd pa sz it pn po : Nat → Nat} {ln : Int32} {mk os cs cm : Nat → Int32} {post : Int32 → Prop} {x : Int32} (hc : c ≤ 24) (h : ∀ n, n < c → x ≠ nI n) (hp : post 0) : wpY_isNode post (nI c, ln, ar_n kd, ar_p pa, ar_n sz, ar_n it, ar_n pn, ar_n po, mk, os, cs, cm) x := by
  rcases nd_f hc h with z | ⟨z, z2⟩
  · exact br_t z hp
  · exact br_f z (br_t z2 hp)
theorem xx_isOfKind_t {c : Nat} {kd pa sz it pn po : Nat → Nat} {sg eg : Int32} {rl rn oa ca il dm : Nat → Int32} {post : Int32 → Prop} {n k : Nat} (hc : c ≤ 24) (h : n < c) (e : kd n = k) (hp : post 1) : wpX_isOfKind post (nI c, sg, eg, ar_n kd, ar_p pa, ar_n sz, ar_n it, ar_n pn, ar_n po, rl, rn, oa, ca, il, dm) (nI n) (nI k) := by
  unfold wpX_isOfKind; dsimp only; exact
  xx_isNode_t hc h (br_f (by decide) (in_c (vp_in_nI (by omega) (by omega)) (br_t (by rw [ar_nc kd (by omega), e]) hp)))
theorem xx_isOfKind_k {c : Nat} {kd pa sz it pn po : Nat → Nat} {sg eg : Int32} {rl rn oa ca il dm : Nat → Int32} {post : Int32 → Prop} {n k : Nat} (hc : c ≤ 24) (h : n < c) (hk : kd n < 2) (hk2 : k < 2) (e : kd n ≠ k) (hp : post 0) : wpX_isOfKind post (nI c, sg, eg, ar_n kd, ar_p pa, ar_n sz, ar_n it, ar_n pn, ar_n po, rl, rn, oa, ca, il, dm) (nI n) (nI k) := by
  unfold wpX_isOfKind; dsimp only; exact
  xx_isNode_t hc h (br_f (by decide) (in_c (vp_in_nI (by omega) (by omega)) (br_f (by rw [ar_nc kd (by omega), nI_eq (by omega) (by omega)]; exact e) hp)))
theorem xx_isOfKind_f {c : Nat} {kd pa sz it pn po : Nat → Nat} {sg eg : Int32} {rl rn oa ca il dm : Nat → Int32} {post : Int32 → Prop} {x y : Int32} (hc : c ≤ 24) (h : ∀ n, n < c → x ≠ nI n) (hp : post 0) : wpX_isOfKind post (nI c, sg, eg, ar_n kd, ar_p pa, ar_n sz, ar_n it, ar_n pn, ar_n po, rl, rn, oa, ca, il, dm) x y := by
  unfold wpX_isOfKind; dsimp only; exact
  xx_isNode_f hc h (br_t rfl hp)
theorem yy_isTextNode_t {c : Nat} {kd pa sz it pn po : Nat → Nat} {ln : Int32} {mk os cs cm : Nat → Int32} {post : Int32 → Prop} {n : Nat} (hc : c ≤ 24) (h : n < c) (e : kd n = 1) (hp : post 1) : wpY_isTextNode post (nI c, ln, ar_n kd, ar_p pa, ar_n sz, ar_n it, ar_n pn, ar_n po, mk, os, cs, cm) (nI n) := by
  unfold wpY_isTextNode; dsimp only; exact
  yy_isNode_t hc h (br_f (by decide) (in_c (vp_in_nI (by omega) (by omega)) (br_f (by rw [ar_nc kd (by omega), e]; decide) hp)))
theorem yy_isTextNode_k {c : Nat} {kd pa sz it pn po : Nat → Nat} {ln : Int32} {mk os cs cm : Nat → Int32} {post : Int32 → Prop} {n : Nat} (hc : c ≤ 24) (h : n < c) (e : kd n = 0) (hp : post 0) : wpY_isTextNode post (nI c, ln, ar_n kd, ar_p pa, ar_n sz, ar_n it, ar_n pn, ar_n po, mk, os, cs, cm) (nI n) := by
  unfold wpY_isTextNode; dsimp only; exact
  yy_isNode_t hc h (br_f (by decide) (in_c (vp_in_nI (by omega) (by omega)) (br_t (by rw [ar_nc kd (by omega), e]; decide) hp)))
theorem yy_isTextNode_f {c : Nat} {kd pa sz it pn po : Nat → Nat} {ln : Int32} {mk os cs cm : Nat → Int32} {post : Int32 → Prop} {x : Int32} (hc : c ≤ 24) (h : ∀ n, n < c → x ≠ nI n) (hp : post 0) : wpY_isTextNode post (nI c, ln, ar_n kd, ar_p pa, ar_n sz, ar_n it, ar_n pn, ar_n po, mk, os, cs, cm) x := by
  unfold wpY_isTextNode; dsimp only; exact
  yy_isNode_f hc h (br_t rfl hp)
/-! ranges -/
theorem rg_f {x : Int32} (h : ∀ n, n < 4 → x ≠ nI n) : x < 0 ∨ (¬ x < 0 ∧ 4 ≤ x ∧ 3 < x) := by
  rcases nd_f (c := 4) (by omega) h with z | ⟨z, z2⟩
  · exact Or.inl z
  · obtain ⟨j, hj, rfl⟩ := nI_of z
    rw [nI_leI (by omega) hj] at z2
    exact Or.inr ⟨z, nI_le (a := 4) z2 hj, nI_lt (a := 3) (by omega) hj⟩
theorem xx_isRange_t {c : Nat} {kd pa sz it pn po : Nat → Nat} {sg eg : Int32} {rl rn oa ca il dm : Nat → Int32} {post : Int32 → Prop} {r : Nat} (h : r < 4) (hp : post 1) : wpX_isRange post (nI c, sg, eg, ar_n kd, ar_p pa, ar_n sz, ar_n it, ar_n pn, ar_n po, rl, rn, oa, ca, il, dm) (nI r) :=
  br_f (nI_pos (by omega)) (br_f (nI_ge (b := 4) h (by omega)) hp)
theorem xx_isRange_f {c : Nat} {kd pa sz it pn po : Nat → Nat} {sg eg : Int32} {rl rn oa ca il dm : Nat → Int32} {post : Int32 → Prop} {x : Int32} (h : ∀ n, n < 4 → x ≠ nI n) (hp : post 0) : wpX_isRange post (nI c, sg, eg, ar_n kd, ar_p pa, ar_n sz, ar_n it, ar_n pn, ar_n po, rl, rn, oa, ca, il, dm) x := by
  rcases rg_f h with z | ⟨z, z2, _⟩
  · exact br_t z hp
  · exact br_f z (br_t z2 hp)
theorem yy_isRange_t {c : Nat} {kd pa sz it pn po : Nat → Nat} {ln : Int32} {mk os cs cm : Nat → Int32} {post : Int32 → Prop} {r : Nat} (h : r < 4) (hp : post 1) : wpY_isRange post (nI c, ln, ar_n kd, ar_p pa, ar_n sz, ar_n it, ar_n pn, ar_n po, mk, os, cs, cm) (nI r) :=
  br_f (nI_pos (by omega)) (br_f (nI_nlt (b := r) (a := 3) (by omega) (by omega)) hp)
theorem yy_isRange_f {c : Nat} {kd pa sz it pn po : Nat → Nat} {ln : Int32} {mk os cs cm : Nat → Int32} {post : Int32 → Prop} {x : Int32} (h : ∀ n, n < 4 → x ≠ nI n) (hp : post 0) : wpY_isRange post (nI c, ln, ar_n kd, ar_p pa, ar_n sz, ar_n it, ar_n pn, ar_n po, mk, os, cs, cm) x := by
  rcases rg_f h with z | ⟨z, _, z2⟩
  · exact br_t z hp
  · exact br_f z (br_t z2 hp)
theorem wh_f {x : Int32} (h : ∀ n, n < 2 → x ≠ nI n) : ¬ x = 0 ∧ ¬ x = 1 := ⟨h 0 (by omega), h 1 (by omega)⟩
theorem xx_isWhich_t {c : Nat} {kd pa sz it pn po : Nat → Nat} {sg eg : Int32} {rl rn oa ca il dm : Nat → Int32} {post : Int32 → Prop} {r : Nat} (h : r < 2) (hp : post 1) : wpX_isWhich post (nI c, sg, eg, ar_n kd, ar_p pa, ar_n sz, ar_n it, ar_n pn, ar_n po, rl, rn, oa, ca, il, dm) (nI r) := by
  match r, h with
  | 0, _ => exact br_t rfl hp
  | 1, _ => exact br_f (by decide) (br_t rfl hp)
theorem xx_isWhich_f {c : Nat} {kd pa sz it pn po : Nat → Nat} {sg eg : Int32} {rl rn oa ca il dm : Nat → Int32} {post : Int32 → Prop} {x : Int32} (h : ∀ n, n < 2 → x ≠ nI n) (hp : post 0) : wpX_isWhich post (nI c, sg, eg, ar_n kd, ar_p pa, ar_n sz, ar_n it, ar_n pn, ar_n po, rl, rn, oa, ca, il, dm) x :=
  br_f (wh_f h).1 (br_f (wh_f h).2 hp)
theorem yy_isPlace_t {c : Nat} {kd pa sz it pn po : Nat → Nat} {ln : Int32} {mk os cs cm : Nat → Int32} {post : Int32 → Prop} {q r : Nat} (hq : q < 4) (h : r < 2) (hp : post 1) : wpY_isPlace post (nI c, ln, ar_n kd, ar_p pa, ar_n sz, ar_n it, ar_n pn, ar_n po, mk, os, cs, cm) (nI q) (nI r) := by
  unfold wpY_isPlace; dsimp only
  refine yy_isRange_t hq (br_f (by decide) ?_)
  match r, h with
  | 0, _ => exact br_t rfl hp
  | 1, _ => exact br_f (by decide) (br_t rfl hp)
theorem yy_isPlace_f1 {c : Nat} {kd pa sz it pn po : Nat → Nat} {ln : Int32} {mk os cs cm : Nat → Int32} {post : Int32 → Prop} {x y : Int32} (h : ∀ n, n < 4 → x ≠ nI n) (hp : post 0) : wpY_isPlace post (nI c, ln, ar_n kd, ar_p pa, ar_n sz, ar_n it, ar_n pn, ar_n po, mk, os, cs, cm) x y := by
  unfold wpY_isPlace; dsimp only; exact
  yy_isRange_f h (br_t rfl hp)
theorem yy_isPlace_f2 {c : Nat} {kd pa sz it pn po : Nat → Nat} {ln : Int32} {mk os cs cm : Nat → Int32} {post : Int32 → Prop} {q : Nat} {y : Int32} (hq : q < 4) (h : ∀ n, n < 2 → y ≠ nI n) (hp : post 0) : wpY_isPlace post (nI c, ln, ar_n kd, ar_p pa, ar_n sz, ar_n it, ar_n pn, ar_n po, mk, os, cs, cm) (nI q) y := by
  unfold wpY_isPlace; dsimp only; exact
  yy_isRange_t hq (br_f (by decide) (br_f (wh_f h).1 (br_f (wh_f h).2 hp)))
/-! ways up -/
theorem xx_isW {c : Nat} {kd pa sz it pn po : Nat → Nat} {sg eg : Int32} {rl rn oa ca il dm : Nat → Int32} {post : Int32 → Prop} {m : Nat} (hm : m < 24) : ∀ d k x, k + d = 24 → tr_c pa d x = 0 → (∀ j, tr_c pa j x ≤ 24) → (tr_w pa x m → post 1) → (¬ tr_w pa x m → post 0) → wX_isWithin_5 post (nI m) (nI c) sg eg (ar_n kd) (ar_p pa) (ar_n sz) (ar_n it) (ar_n pn) (ar_n po) rl rn oa ca il dm (d + 1) (nI x - 1) (nI k) := by
  intro d
  induction d with
  | zero =>
    intro k x hk h0 _ _ f
    have e : x = 0 := h0
    subst e
    exact br_t (nI_le (a := 24) (by omega) (by omega)) (f tr_w0)
  | succ d ih =>
    intro k x hk h0 hb t f
    refine br_f (nI_ge (b := 24) (by omega) (by omega)) ?_
    cases x with
    | zero => exact br_t (by decide) (f tr_w0)
    | succ v =>
      have hv : v + 1 ≤ 24 := hb 0
      refine br_f (by rw [ar_no (by omega)]; omega) ?_
      rw [nI_pred]
      by_cases e : v = m
      · subst e; exact br_t rfl (t (tr_wr _ _))
      · refine br_f (by rw [nI_eq (by omega) (by omega)]; exact e) (in_c (vp_in_nI (by omega) (by omega)) (nm_r (ar_pc pa (by omega)) (nm_r (nI_1 k) ?_)))
        refine ih (k + 1) (pa v) (by omega) h0 (fun j => hb (j + 1)) (fun z => t (tr_ws z)) (fun z => f fun y => ?_)
        rcases tr_wc y with y | y
        · exact e y
        · exact z y
theorem xx_isWithin {c : Nat} {kd pa sz it pn po : Nat → Nat} {sg eg : Int32} {rl rn oa ca il dm : Nat → Int32} {post : Int32 → Prop} {n m : Nat} (T : tr_T c kd pa sz it) (hn : n < c) (hm : m < c) (t : tr_w pa (n + 1) m → post 1) (f : ¬ tr_w pa (n + 1) m → post 0) : wpX_isWithin post (nI c, sg, eg, ar_n kd, ar_p pa, ar_n sz, ar_n it, ar_n pn, ar_n po, rl, rn, oa, ca, il, dm) (nI n) (nI m) := by
  have c24 := tr_c24 T
  refine ⟨25, ?_⟩
  have := xx_isW (by omega : m < 24) 24 0 (n + 1) rfl (tr_dp T hn) (fun j => Nat.le_trans (tr_cle T hn j) c24) t f (c := c) (kd := kd) (sz := sz) (it := it) (pn := pn) (po := po) (sg := sg) (eg := eg) (rl := rl) (rn := rn) (oa := oa) (ca := ca) (il := il) (dm := dm)
  rw [nI_pred] at this
  exact this
theorem yy_isB {c : Nat} {kd pa sz it pn po : Nat → Nat} {ln : Int32} {mk os cs cm : Nat → Int32} {post : Int32 → Prop} {m : Nat} (hm : m < 24) : ∀ d k x, k + d = 24 → tr_c pa d x = 0 → (∀ j, tr_c pa j x ≤ 24) → (tr_w pa x m → post 1) → (¬ tr_w pa x m → post 0) → wY_isBelow_10 post (nI m) (nI c) ln (ar_n kd) (ar_p pa) (ar_n sz) (ar_n it) (ar_n pn) (ar_n po) mk os cs cm (d + 1) (nI x - 1) (nI k) := by
  intro d
  induction d with
  | zero =>
    intro k x hk h0 _ _ f
    have e : x = 0 := h0
    subst e
    exact br_t (nI_le (a := 24) (by omega) (by omega)) (f tr_w0)
  | succ d ih =>
    intro k x hk h0 hb t f
    refine br_f (nI_ge (b := 24) (by omega) (by omega)) ?_
    cases x with
    | zero => exact br_t (by decide) (f tr_w0)
    | succ v =>
      have hv : v + 1 ≤ 24 := hb 0
      refine br_f (by rw [ar_neg (by omega)]; omega) ?_
      rw [nI_pred]
      by_cases e : v = m
      · subst e; exact br_t rfl (t (tr_wr _ _))
      · refine br_f (by rw [nI_eq (by omega) (by omega)]; exact e) (in_c (vp_in_nI (by omega) (by omega)) (nm_r (ar_pc pa (by omega)) (nm_r (nI_1 k) ?_)))
        refine ih (k + 1) (pa v) (by omega) h0 (fun j => hb (j + 1)) (fun z => t (tr_ws z)) (fun z => f fun y => ?_)
        rcases tr_wc y with y | y
        · exact e y
        · exact z y
/-- 'below' is 'within the parent' -/
theorem yy_isBelow {c : Nat} {kd pa sz it pn po : Nat → Nat} {ln : Int32} {mk os cs cm : Nat → Int32} {post : Int32 → Prop} {n m : Nat} (T : tr_T c kd pa sz it) (hn : n < c) (hm : m < c) (t : tr_w pa (pa n) m → post 1) (f : ¬ tr_w pa (pa n) m → post 0) : wpY_isBelow post (nI c, ln, ar_n kd, ar_p pa, ar_n sz, ar_n it, ar_n pn, ar_n po, mk, os, cs, cm) (nI n) (nI m) := by
  have c24 := tr_c24 T
  refine in_c (vp_in_nI (by omega) (by omega)) (nm_r (ar_pc pa (by omega)) ⟨25, ?_⟩)
  refine yy_isB (by omega : m < 24) 24 0 (pa n) rfl ?_ (fun j => Nat.le_trans (tr_cle T hn (j + 1)) c24) t f
  have : tr_c pa 25 (n + 1) = 0 := by rw [tr_cs, tr_dp T hn]; rfl
  exact this
theorem xx_top {c : Nat} {kd pa sz it pn po : Nat → Nat} {sg eg : Int32} {rl rn oa ca il dm : Nat → Int32} {post : Int32 → Prop} {r : Nat} (T : tr_T c kd pa sz it) (hr : pa r = 0) (hp : post (nI r)) : ∀ d k v, k + d = 24 → v < c → tr_c pa d (v + 1) = 0 → tr_w pa (v + 1) r → wX_topOf_4 post (nI c) sg eg (ar_n kd) (ar_p pa) (ar_n sz) (ar_n it) (ar_n pn) (ar_n po) rl rn oa ca il dm (d + 1) (nI v) (nI k) := by
  intro d
  have c24 := tr_c24 T
  induction d with
  | zero =>
    intro k v hk _ h0 _
    exact absurd h0 (by show v + 1 ≠ 0; omega)
  | succ d ih =>
    intro k v hk hv h0 w
    refine br_f (nI_ge (b := 24) (by omega) (by omega)) (in_c (vp_in_nI (by omega) (by omega)) ?_)
    cases e : pa v with
    | zero =>
      rcases tr_wc w with q | q
      · subst q; exact br_t (by rw [ar_pc pa (by omega), e]; decide) hp
      · rw [e] at q; exact absurd q tr_w0
    | succ p =>
      have hp' := (tr_pe T hv e).1
      refine br_f (by rw [ar_pc pa (by omega), e, ar_no (by omega)]; omega) (in_c (vp_in_nI (by omega) (by omega)) (nm_r ((ar_pc pa (by omega)).trans (by rw [e, nI_pred])) (nm_r (nI_1 k) ?_)))
      refine ih (k + 1) p (by omega) hp' (by rw [← e]; exact h0) ?_
      rcases tr_wc w with q | q
      · subst q; omega
      · rw [e] at q; exact q
theorem xx_topOf {c : Nat} {kd pa sz it pn po : Nat → Nat} {sg eg : Int32} {rl rn oa ca il dm : Nat → Int32} {post : Int32 → Prop} {n r : Nat} (T : tr_T c kd pa sz it) (hn : n < c) (hr : pa r = 0) (w : tr_w pa (n + 1) r) (hp : post (nI r)) : wpX_topOf post (nI c, sg, eg, ar_n kd, ar_p pa, ar_n sz, ar_n it, ar_n pn, ar_n po, rl, rn, oa, ca, il, dm) (nI n) :=
  ⟨25, xx_top T hr hp 24 0 n rfl hn (tr_dp T hn) w⟩
theorem yy_top {c : Nat} {kd pa sz it pn po : Nat → Nat} {ln : Int32} {mk os cs cm : Nat → Int32} {post : Int32 → Prop} {r : Nat} (T : tr_T c kd pa sz it) (hr : pa r = 0) (hp : post (nI r)) : ∀ d k v, k + d = 24 → v < c → tr_c pa d (v + 1) = 0 → tr_w pa (v + 1) r → wY_treeOf_4 post (nI c) ln (ar_n kd) (ar_p pa) (ar_n sz) (ar_n it) (ar_n pn) (ar_n po) mk os cs cm (d + 1) (nI v) (nI k) := by
  intro d
  have c24 := tr_c24 T
  induction d with
  | zero =>
    intro k v hk _ h0 _
    exact absurd h0 (by show v + 1 ≠ 0; omega)
  | succ d ih =>
    intro k v hk hv h0 w
    refine br_f (nI_ge (b := 24) (by omega) (by omega)) (in_c (vp_in_nI (by omega) (by omega)) ?_)
    cases e : pa v with
    | zero =>
      rcases tr_wc w with q | q
      · subst q; exact br_t (by rw [ar_pc pa (by omega), e]; decide) hp
      · rw [e] at q; exact absurd q tr_w0
    | succ p =>
      have hp' := (tr_pe T hv e).1
      refine br_f (by rw [ar_pc pa (by omega), e, ar_neg (by omega)]; omega) (in_c (vp_in_nI (by omega) (by omega)) (nm_r ((ar_pc pa (by omega)).trans (by rw [e, nI_pred])) (nm_r (nI_1 k) ?_)))
      refine ih (k + 1) p (by omega) hp' (by rw [← e]; exact h0) ?_
      rcases tr_wc w with q | q
      · subst q; omega
      · rw [e] at q; exact q
theorem yy_treeOf {c : Nat} {kd pa sz it pn po : Nat → Nat} {ln : Int32} {mk os cs cm : Nat → Int32} {post : Int32 → Prop} {n r : Nat} (T : tr_T c kd pa sz it) (hn : n < c) (hr : pa r = 0) (w : tr_w pa (n + 1) r) (hp : post (nI r)) : wpY_treeOf post (nI c, ln, ar_n kd, ar_p pa, ar_n sz, ar_n it, ar_n pn, ar_n po, mk, os, cs, cm) (nI n) :=
  ⟨25, yy_top T hr hp 24 0 n rfl hn (tr_dp T hn) w⟩
/-! the index of a child -/
theorem xx_ix {c : Nat} {kd pa sz it pn po : Nat → Nat} {sg eg : Int32} {rl rn oa ca il dm : Nat → Int32} {post : Int32 → Prop} {n p i : Nat} (T : tr_T c kd pa sz it) (hp : p < c) (hk : kd p = 0) (hi : i < sz p) (he : it (24 * p + i) = n) (h : post (nI i)) : ∀ d k y, k + d = sz p → (k ≤ i ∨ y = i) → wX_indexOf_12 post (nI n) (nI p) (nI c) sg eg (ar_n kd) (ar_p pa) (ar_n sz) (ar_n it) (ar_n pn) (ar_n po) rl rn oa ca il dm (d + 1) (nI y) (nI k) := by
  intro d
  have c24 := tr_c24 T
  have s24 := tr_s24 T hp
  have hn := (tr_ch T hp hk hi).1
  rw [he] at hn
  induction d with
  | zero =>
    intro k y hk o
    have e : y = i := by omega
    subst e
    exact in_c (vp_in_nI (by omega) (by omega)) (br_t (by rw [ar_nc sz (by omega), nI_leI (by omega) (by omega)]; omega) h)
  | succ d ih =>
    intro k y hk o
    refine in_c (vp_in_nI (by omega) (by omega)) (br_f (by rw [ar_nc sz (by omega), nI_leI (by omega) (by omega)]; omega) ?_)
    have b := tr_ch T hp ‹_› (i := k) (by omega)
    rw [ix_x]
    refine in_c (vp_in_nI (by omega) (by omega)) ?_
    rw [ar_nc it (by omega)]
    by_cases e : it (24 * p + k) = n
    · have e2 := tr_in T hp ‹_› (i := k) (j := i) (by omega) hi (by rw [e, he])
      subst e2
      exact br_t (by rw [e]) (nm_r (nI_1 k) (ih (k + 1) k (by omega) (Or.inr rfl)))
    · refine br_f (by rw [nI_eq (by omega) (by omega)]; exact e) (nm_r (nI_1 k) (ih (k + 1) y (by omega) ?_))
      rcases o with o | o
      · refine Or.inl ?_
        have : k ≠ i := by rintro rfl; exact e he
        omega
      · exact Or.inr o
theorem xx_indexOf {c : Nat} {kd pa sz it pn po : Nat → Nat} {sg eg : Int32} {rl rn oa ca il dm : Nat → Int32} {post : Int32 → Prop} {n p i : Nat} (T : tr_T c kd pa sz it) (hn : n < c) (hp : pa n = p + 1) (hi : i < sz p) (he : it (24 * p + i) = n) (h : post (nI i)) : wpX_indexOf post (nI c, sg, eg, ar_n kd, ar_p pa, ar_n sz, ar_n it, ar_n pn, ar_n po, rl, rn, oa, ca, il, dm) (nI n) := by
  have c24 := tr_c24 T
  obtain ⟨h1, h2, _⟩ := tr_pe T hn hp
  exact in_c (vp_in_nI (by omega) (by omega)) (nm_r ((ar_pc pa (by omega)).trans (by rw [hp, nI_pred])) ⟨sz p + 1, xx_ix T h1 h2 hi he h (sz p) 0 0 (by omega) (by omega)⟩)
theorem yy_ix {c : Nat} {kd pa sz it pn po : Nat → Nat} {ln : Int32} {mk os cs cm : Nat → Int32} {post : Int32 → Prop} {n p i : Nat} (T : tr_T c kd pa sz it) (hp : p < c) (hk : kd p = 0) (hi : i < sz p) (he : it (24 * p + i) = n) (h : post (nI i)) : ∀ d k, k + d = sz p → k ≤ i → wY_indexOf_9 post (nI n) (nI p) (nI c) ln (ar_n kd) (ar_p pa) (ar_n sz) (ar_n it) (ar_n pn) (ar_n po) mk os cs cm (d + 1) (nI k) := by
  intro d
  have c24 := tr_c24 T
  have s24 := tr_s24 T hp
  have hn := (tr_ch T hp hk hi).1
  rw [he] at hn
  induction d with
  | zero => intro k hk o; omega
  | succ d ih =>
    intro k hk o
    refine in_c (vp_in_nI (by omega) (by omega)) (br_f (by rw [ar_nc sz (by omega), nI_leI (by omega) (by omega)]; omega) ?_)
    have b := tr_ch T hp ‹_› (i := k) (by omega)
    rw [ix_y]
    refine in_c (vp_in_nI (by omega) (by omega)) ?_
    rw [ar_nc it (by omega)]
    by_cases e : it (24 * p + k) = n
    · have e2 := tr_in T hp ‹_› (i := k) (j := i) (by omega) hi (by rw [e, he])
      subst e2
      exact br_t (by rw [e]) h
    · refine br_f (by rw [nI_eq (by omega) (by omega)]; exact e) (nm_r (nI_1 k) (ih (k + 1) (by omega) ?_))
      have : k ≠ i := by rintro rfl; exact e he
      omega
theorem yy_indexOf {c : Nat} {kd pa sz it pn po : Nat → Nat} {ln : Int32} {mk os cs cm : Nat → Int32} {post : Int32 → Prop} {n p i : Nat} (T : tr_T c kd pa sz it) (hn : n < c) (hp : pa n = p + 1) (hi : i < sz p) (he : it (24 * p + i) = n) (h : post (nI i)) : wpY_indexOf post (nI c, ln, ar_n kd, ar_p pa, ar_n sz, ar_n it, ar_n pn, ar_n po, mk, os, cs, cm) (nI n) := by
  have c24 := tr_c24 T
  obtain ⟨h1, h2, _⟩ := tr_pe T hn hp
  exact in_c (vp_in_nI (by omega) (by omega)) (nm_r ((ar_pc pa (by omega)).trans (by rw [hp, nI_pred])) ⟨sz p + 1, yy_ix T h1 h2 hi he h (sz p) 0 (by omega) (by omega)⟩)
end
section
/-! loops that move places and items: pure steps, then X's walks -/
theorem cb_i {c d A B : Prop} (e : c ↔ d) (f : d → A) (g : ¬ d → B) : (c → A) ∧ (¬ c → B) := ⟨fun h => f (e.mp h), fun h => g fun z => h (e.mpr z)⟩
def mq_n (F : Nat → Nat → Nat × Nat) (pn po : Nat → Nat) (k : Nat) : Nat → Nat := fun j => if j < k then (F (pn j) (po j)).1 else pn j
def mq_o (F : Nat → Nat → Nat × Nat) (pn po : Nat → Nat) (k : Nat) : Nat → Nat := fun j => if j < k then (F (pn j) (po j)).2 else po j
section
variable {F : Nat → Nat → Nat × Nat} {pn po : Nat → Nat}
theorem mq_n0 : mq_n F pn po 0 = pn := by funext j; exact if_neg (by omega)
theorem mq_o0 : mq_o F pn po 0 = po := by funext j; exact if_neg (by omega)
theorem mq_nk (k : Nat) : mq_n F pn po k k = pn k := if_neg (by omega)
theorem mq_ok (k : Nat) : mq_o F pn po k k = po k := if_neg (by omega)
theorem mq_ns {k a : Nat} (h : (F (pn k) (po k)).1 = a) : st_u (mq_n F pn po k) k a = mq_n F pn po (k + 1) := by
  funext j
  unfold st_u mq_n
  split
  · rename_i e; subst e; rw [if_pos (by omega)]; exact h.symm
  · by_cases z : j < k
    · rw [if_pos z, if_pos (by omega)]
    · rw [if_neg z, if_neg (by omega)]
theorem mq_os {k a : Nat} (h : (F (pn k) (po k)).2 = a) : st_u (mq_o F pn po k) k a = mq_o F pn po (k + 1) := by
  funext j
  unfold st_u mq_o
  split
  · rename_i e; subst e; rw [if_pos (by omega)]; exact h.symm
  · by_cases z : j < k
    · rw [if_pos z, if_pos (by omega)]
    · rw [if_neg z, if_neg (by omega)]
theorem mq_nu {k : Nat} (h : (F (pn k) (po k)).1 = pn k) : mq_n F pn po k = mq_n F pn po (k + 1) := by
  rw [← mq_ns h]
  funext j
  unfold st_u
  split
  · rename_i e; subst e; exact mq_nk j
  · rfl
theorem mq_ou {k : Nat} (h : (F (pn k) (po k)).2 = po k) : mq_o F pn po k = mq_o F pn po (k + 1) := by
  rw [← mq_os h]
  funext j
  unfold st_u
  split
  · rename_i e; subst e; exact mq_ok j
  · rfl
end
theorem mv_l0 (it : Nat → Nat) (b f e : Nat) : mv_l it b f f e = it := by
  funext j; unfold mv_l; exact if_neg (by omega)
theorem mv_r0 (it : Nat → Nat) (b s e : Nat) : mv_r it b s s e = it := by
  funext j; unfold mv_r; exact if_neg (by omega)
theorem mv_lk (it : Nat → Nat) (b f e k : Nat) : mv_l it b f k e (b + k) = it (b + k) := by
  unfold mv_l; exact if_neg (by omega)
theorem mv_ls (it : Nat → Nat) {b f e k : Nat} (hf : f ≤ k) (he : e ≤ b + k) : st_u (mv_l it b f k e) (b + k - e) (it (b + k)) = mv_l it b f (k + 1) e := by
  funext j
  unfold st_u mv_l
  split
  · rename_i q
    rw [if_pos (by omega), show j + e = b + k by omega]
  · by_cases z : b + f ≤ j + e ∧ j + e < b + k
    · rw [if_pos z, if_pos (by omega)]
    · rw [if_neg z, if_neg (by omega)]
theorem mv_rk (it : Nat → Nat) {b s e k : Nat} : mv_r it b (k + 1) s e (b + k) = it (b + k) := by
  unfold mv_r; exact if_neg (by omega)
theorem mv_rs (it : Nat → Nat) {b s e k : Nat} (hk : k < s) : st_u (mv_r it b (k + 1) s e) (b + k + e) (it (b + k)) = mv_r it b k s e := by
  funext j
  unfold st_u mv_r
  split
  · rename_i q
    rw [if_pos (by omega), show j - e = b + k by omega]
  · by_cases z : b + (k + 1) + e ≤ j ∧ j < b + s + e
    · rw [if_pos z, if_pos (by omega)]
    · rw [if_neg z, if_neg (by omega)]
def cp_i (it : Nat → Nat) (src dst k : Nat) : Nat → Nat := fun j => if dst ≤ j ∧ j < dst + k then it (src + (j - dst)) else it j
theorem cp_0 (it : Nat → Nat) (src dst : Nat) : cp_i it src dst 0 = it := by
  funext j; unfold cp_i; exact if_neg (by omega)
theorem cp_k (it : Nat → Nat) {src dst k : Nat} (h : src + k < dst ∨ dst + k ≤ src + k) : cp_i it src dst k (src + k) = it (src + k) := by
  unfold cp_i; exact if_neg (by omega)
theorem cp_s (it : Nat → Nat) (src dst k : Nat) : st_u (cp_i it src dst k) (dst + k) (it (src + k)) = cp_i it src dst (k + 1) := by
  funext j
  unfold st_u cp_i
  split
  · rename_i q
    rw [if_pos (by omega), show j - dst = k by omega]
  · by_cases z : dst ≤ j ∧ j < dst + k
    · rw [if_pos z, if_pos (by omega)]
    · rw [if_neg z, if_neg (by omega)]
def dg_w : Nat → Nat → Nat → (Nat → Nat) → Nat → Nat
  | 0, _, _, it => it
  | k + 1, b, d, it => dg_w k b (d / 10) (st_u it (b + k) (d % 10))
theorem dg_o : ∀ (k b d : Nat) (it : Nat → Nat) (j : Nat), (j < b ∨ b + k ≤ j) → dg_w k b d it j = it j := by
  intro k
  induction k with
  | zero => intro b d it j _; rfl
  | succ k ih =>
    intro b d it j h
    unfold dg_w
    rw [ih b (d / 10) _ j (by omega), st_un (by omega)]
theorem dg_9 : ∀ (k b d : Nat) (it : Nat → Nat) (j : Nat), b ≤ j → j < b + k → dg_w k b d it j ≤ 9 := by
  intro k
  induction k with
  | zero => intro b d it j _ _; omega
  | succ k ih =>
    intro b d it j h1 h2
    unfold dg_w
    by_cases e : j = b + k
    · rw [dg_o k b (d / 10) _ j (by omega), e, st_us]; omega
    · exact ih b (d / 10) _ j h1 (by omega)
theorem nj_d1 (a : Nat) : nI a + (-1) = nI a - 1 := by rw [Int32.sub_eq_add_neg]
theorem ar_ltf {k f : Nat} (hk : k < 2 ^ 30) (hf : f < 2 ^ 30) : nI k - 1 < nI f ↔ k ≤ f := by
  rw [Int32.lt_iff_toInt_lt, ar_toI hk, nI_toInt (by omega)]; omega
theorem xx_setPlace {c : Nat} {kd pa sz it pn po : Nat → Nat} {sg eg : Int32} {rl rn oa ca il dm : Nat → Int32} {post : SX → Prop} {k a b : Nat} {y z : Int32} (hk : k < 8) (ha : y = nI a) (hb : z = nI b) (hp : post (nI c, sg, eg, ar_n kd, ar_p pa, ar_n sz, ar_n it, ar_n (st_u pn k a), ar_n (st_u po k b), rl, rn, oa, ca, il, dm)) : wpX_setPlace post (nI c, sg, eg, ar_n kd, ar_p pa, ar_n sz, ar_n it, ar_n pn, ar_n po, rl, rn, oa, ca, il, dm) (nI k) y z := by
  subst ha hb
  refine in_c (vp_in_nI hk (by omega)) (nm_r ((congrArg (fun j => upd (ar_n pn) j (nI a)) (nI_clamp (by omega))).trans (ar_nu pn k a)) (in_c (vp_in_nI hk (by omega)) (nm_r ((congrArg (fun j => upd (ar_n po) j (nI b)) (nI_clamp (by omega))).trans (ar_nu po k b)) hp)))
theorem xx_sl {c : Nat} {kd pa sz it pn po : Nat → Nat} {sg eg : Int32} {rl rn oa ca il dm : Nat → Int32} {post : SX → Prop} {nd lo : Nat} {x3 x4 : Int32} (F : Nat → Nat → Nat × Nat) (hb : ∀ k, k < 8 → pn k < 24 ∧ po k < 25) (hnd : nd < 24) (hlo : lo < 100)
    (hF : ∀ k, k < 8 → (pn k = nd ∧ lo ≤ po k → nI (F (pn k) (po k)).1 = x3 ∧ nI (F (pn k) (po k)).2 = nI (po k) + x4) ∧ (¬ (pn k = nd ∧ lo ≤ po k) → F (pn k) (po k) = (pn k, po k)))
    (hp : post (nI c, sg, eg, ar_n kd, ar_p pa, ar_n sz, ar_n it, ar_n (mp_n F pn po), ar_n (mp_o F pn po), rl, rn, oa, ca, il, dm)) :
    ∀ d k, k + d = 8 → wX_slidePlaces_3 post (nI nd) (nI lo) x3 x4 (d + 1) (nI k) (nI c) sg eg (ar_n kd) (ar_p pa) (ar_n sz) (ar_n it) (ar_n (mq_n F pn po k)) (ar_n (mq_o F pn po k)) rl rn oa ca il dm := by
  intro d
  induction d with
  | zero =>
    intro k hk
    obtain rfl : k = 8 := by omega
    exact br_t (nI_le (a := 8) (by omega) (by omega)) hp
  | succ d ih =>
    intro k hk
    have h8 : k < 8 := by omega
    have hbk := hb k h8
    have same : ¬ (pn k = nd ∧ lo ≤ po k) → wX_slidePlaces_3 post (nI nd) (nI lo) x3 x4 (d + 1) (nI (k + 1)) (nI c) sg eg (ar_n kd) (ar_p pa) (ar_n sz) (ar_n it) (ar_n (mq_n F pn po k)) (ar_n (mq_o F pn po k)) rl rn oa ca il dm := by
      intro h
      have e := (hF k h8).2 h
      rw [mq_nu (F := F) (pn := pn) (po := po) (k := k) (by rw [e]), mq_ou (F := F) (pn := pn) (po := po) (k := k) (by rw [e])]
      exact ih (k + 1) (by omega)
    refine br_f (nI_ge (b := 8) h8 (by omega)) (in_c (vp_in_nI h8 (by omega)) (nm_r ((ar_nc _ (by omega)).trans (congrArg nI (mq_ok k))) (in_c (vp_in_nI h8 (by omega)) (cb_i (d := pn k = nd) ?_ ?_ ?_))))
    · rw [ar_nc _ (by omega), mq_nk, nI_eq (by omega) (by omega)]
    · intro e
      refine cb_i (nI_ltI (by omega) (by omega)) (fun l => nm_r (nI_1 k) (same (by omega))) (fun l => ?_)
      have e2 := (hF k h8).1 ⟨e, by omega⟩
      refine xx_setPlace h8 e2.1.symm e2.2.symm ?_
      rw [mq_ns (F := F) (pn := pn) (po := po) rfl, mq_os (F := F) (pn := pn) (po := po) rfl]
      exact nm_r (nI_1 k) (ih (k + 1) (by omega))
    · intro e
      exact nm_r (nI_1 k) (same (by omega))
theorem xx_slidePlaces {c : Nat} {kd pa sz it pn po : Nat → Nat} {sg eg : Int32} {rl rn oa ca il dm : Nat → Int32} {post : SX → Prop} {nd lo : Nat} {x3 x4 : Int32} (F : Nat → Nat → Nat × Nat) (hb : ∀ k, k < 8 → pn k < 24 ∧ po k < 25) (hnd : nd < 24) (hlo : lo < 100)
    (hF : ∀ k, k < 8 → (pn k = nd ∧ lo ≤ po k → nI (F (pn k) (po k)).1 = x3 ∧ nI (F (pn k) (po k)).2 = nI (po k) + x4) ∧ (¬ (pn k = nd ∧ lo ≤ po k) → F (pn k) (po k) = (pn k, po k)))
    (hp : post (nI c, sg, eg, ar_n kd, ar_p pa, ar_n sz, ar_n it, ar_n (mp_n F pn po), ar_n (mp_o F pn po), rl, rn, oa, ca, il, dm)) : wpX_slidePlaces post (nI c, sg, eg, ar_n kd, ar_p pa, ar_n sz, ar_n it, ar_n pn, ar_n po, rl, rn, oa, ca, il, dm) (nI nd) (nI lo) x3 x4 := by
  refine ⟨9, ?_⟩
  have := xx_sl F hb hnd hlo hF hp 8 0 rfl
  rw [mq_n0, mq_o0] at this
  exact this
theorem xx_ga {c : Nat} {kd pa sz it pn po : Nat → Nat} {sg eg : Int32} {rl rn oa ca il dm : Nat → Int32} {post : SX → Prop} {nd lo hi : Nat} {x3 x4 : Int32} (F : Nat → Nat → Nat × Nat) (hb : ∀ k, k < 8 → pn k < 24 ∧ po k < 25) (hnd : nd < 24) (hlo : lo < 100) (hhi : hi < 100)
    (hF : ∀ k, k < 8 → (pn k = nd ∧ lo ≤ po k ∧ po k ≤ hi → nI (F (pn k) (po k)).1 = x3 ∧ nI (F (pn k) (po k)).2 = x4) ∧ (¬ (pn k = nd ∧ lo ≤ po k ∧ po k ≤ hi) → F (pn k) (po k) = (pn k, po k)))
    (hp : post (nI c, sg, eg, ar_n kd, ar_p pa, ar_n sz, ar_n it, ar_n (mp_n F pn po), ar_n (mp_o F pn po), rl, rn, oa, ca, il, dm)) :
    ∀ d k, k + d = 8 → wX_gatherPlaces_3 post (nI nd) (nI lo) (nI hi) x3 x4 (d + 1) (nI k) (nI c) sg eg (ar_n kd) (ar_p pa) (ar_n sz) (ar_n it) (ar_n (mq_n F pn po k)) (ar_n (mq_o F pn po k)) rl rn oa ca il dm := by
  intro d
  induction d with
  | zero =>
    intro k hk
    obtain rfl : k = 8 := by omega
    exact br_t (nI_le (a := 8) (by omega) (by omega)) hp
  | succ d ih =>
    intro k hk
    have h8 : k < 8 := by omega
    have hbk := hb k h8
    have same : ¬ (pn k = nd ∧ lo ≤ po k ∧ po k ≤ hi) → wX_gatherPlaces_3 post (nI nd) (nI lo) (nI hi) x3 x4 (d + 1) (nI (k + 1)) (nI c) sg eg (ar_n kd) (ar_p pa) (ar_n sz) (ar_n it) (ar_n (mq_n F pn po k)) (ar_n (mq_o F pn po k)) rl rn oa ca il dm := by
      intro h
      have e := (hF k h8).2 h
      rw [mq_nu (F := F) (pn := pn) (po := po) (k := k) (by rw [e]), mq_ou (F := F) (pn := pn) (po := po) (k := k) (by rw [e])]
      exact ih (k + 1) (by omega)
    refine br_f (nI_ge (b := 8) h8 (by omega)) (in_c (vp_in_nI h8 (by omega)) (nm_r ((ar_nc _ (by omega)).trans (congrArg nI (mq_ok k))) (in_c (vp_in_nI h8 (by omega)) (cb_i (d := pn k = nd) ?_ ?_ ?_))))
    · rw [ar_nc _ (by omega), mq_nk, nI_eq (by omega) (by omega)]
    · intro e
      refine cb_i (nI_ltI (by omega) (by omega)) (fun l => nm_r (nI_1 k) (same (by omega))) (fun l => cb_i (nI_ltI (by omega) (by omega)) (fun l => nm_r (nI_1 k) (same (by omega))) (fun l2 => ?_))
      have e2 := (hF k h8).1 ⟨e, by omega, by omega⟩
      refine xx_setPlace h8 e2.1.symm e2.2.symm ?_
      rw [mq_ns (F := F) (pn := pn) (po := po) rfl, mq_os (F := F) (pn := pn) (po := po) rfl]
      exact nm_r (nI_1 k) (ih (k + 1) (by omega))
    · intro e
      exact nm_r (nI_1 k) (same (by omega))
theorem xx_gatherPlaces {c : Nat} {kd pa sz it pn po : Nat → Nat} {sg eg : Int32} {rl rn oa ca il dm : Nat → Int32} {post : SX → Prop} {nd lo hi : Nat} {x3 x4 : Int32} (F : Nat → Nat → Nat × Nat) (hb : ∀ k, k < 8 → pn k < 24 ∧ po k < 25) (hnd : nd < 24) (hlo : lo < 100) (hhi : hi < 100)
    (hF : ∀ k, k < 8 → (pn k = nd ∧ lo ≤ po k ∧ po k ≤ hi → nI (F (pn k) (po k)).1 = x3 ∧ nI (F (pn k) (po k)).2 = x4) ∧ (¬ (pn k = nd ∧ lo ≤ po k ∧ po k ≤ hi) → F (pn k) (po k) = (pn k, po k)))
    (hp : post (nI c, sg, eg, ar_n kd, ar_p pa, ar_n sz, ar_n it, ar_n (mp_n F pn po), ar_n (mp_o F pn po), rl, rn, oa, ca, il, dm)) : wpX_gatherPlaces post (nI c, sg, eg, ar_n kd, ar_p pa, ar_n sz, ar_n it, ar_n pn, ar_n po, rl, rn, oa, ca, il, dm) (nI nd) (nI lo) (nI hi) x3 x4 := by
  refine ⟨9, ?_⟩
  have := xx_ga F hb hnd hlo hhi hF hp 8 0 rfl
  rw [mq_n0, mq_o0] at this
  exact this
/-- items moved down -/
theorem xx_s64 {c : Nat} {kd pa sz it pn po : Nat → Nat} {sg eg : Int32} {rl rn oa ca il dm : Nat → Int32} {post : SX → Prop} {n f s e : Nat} {x3 : Int32} (hn : n < 24) (hs : s ≤ 24) (hef : e ≤ f) (h3 : ∀ a, e ≤ a → nI a + x3 = nI (a - e)) (hp : wX_shiftItems_99 post (nI n) x3 (nI s) (nI c) sg eg (ar_n kd) (ar_p pa) (ar_n sz) (ar_n (mv_l it (24 * n) f s e)) (ar_n pn) (ar_n po) rl rn oa ca il dm) :
    ∀ d k, k + d = s → f ≤ k → wX_shiftItems_64 post (nI n) x3 (nI (24 * n)) (nI s) (nI c) sg eg (d + 1) (nI k) (ar_n kd) (ar_p pa) (ar_n sz) (ar_n (mv_l it (24 * n) f k e)) (ar_n pn) (ar_n po) rl rn oa ca il dm := by
  intro d
  induction d with
  | zero =>
    intro k hk hf
    obtain rfl : k = s := by omega
    exact br_t (nI_le (by omega) (by omega)) hp
  | succ d ih =>
    intro k hk hf
    refine br_f (nI_ge (by omega) (by omega)) ?_
    rw [nI_add, h3 _ (by omega)]
    refine in_c (vp_in_nI (by omega) (by omega)) (in_c (vp_in_nI (by omega) (by omega)) (nm_r ?_ (nm_r (nI_1 k) (ih (k + 1) (by omega) (by omega)))))
    rw [ar_nc _ (by omega), nI_clamp (by omega), mv_lk, ar_nu, mv_ls it hf (by omega)]
/-- items moved up -/
theorem xx_s24 {c : Nat} {kd pa sz it pn po : Nat → Nat} {sg eg : Int32} {rl rn oa ca il dm : Nat → Int32} {post : SX → Prop} {n f s e : Nat} (hn : n < 24) (hs : s + e ≤ 24) (hp : wX_shiftItems_99 post (nI n) (nI e) (nI s) (nI c) sg eg (ar_n kd) (ar_p pa) (ar_n sz) (ar_n (mv_r it (24 * n) f s e)) (ar_n pn) (ar_n po) rl rn oa ca il dm) :
    ∀ d k, k = f + d → k ≤ s → wX_shiftItems_24 post (nI n) (nI f) (nI e) (nI (24 * n)) (nI s) (nI c) sg eg (d + 1) (nI k - 1) (ar_n kd) (ar_p pa) (ar_n sz) (ar_n (mv_r it (24 * n) k s e)) (ar_n pn) (ar_n po) rl rn oa ca il dm := by
  intro d
  induction d with
  | zero =>
    intro k hk hf
    obtain rfl : k = f := by omega
    exact br_t ((ar_ltf (by omega) (by omega)).mpr (by omega)) hp
  | succ d ih =>
    intro k hk hf
    obtain ⟨k, rfl⟩ : ∃ j, k = j + 1 := ⟨k - 1, by omega⟩
    refine br_f (fun z => by rw [ar_ltf (by omega) (by omega)] at z; omega) ?_
    rw [nI_pred, nI_add, nI_add]
    refine in_c (vp_in_nI (by omega) (by omega)) (in_c (vp_in_nI (by omega) (by omega)) (nm_r ?_ (nm_r (nj_d1 k) (ih k (by omega) (by omega)))))
    rw [ar_nc _ (by omega), nI_clamp (by omega), mv_rk, ar_nu, mv_rs it (by omega)]
theorem xx_shiftDown {c : Nat} {kd pa sz it pn po : Nat → Nat} {sg eg : Int32} {rl rn oa ca il dm : Nat → Int32} {post : SX → Prop} {n f e : Nat} {x3 : Int32} (hn : n < 24) (hs : sz n ≤ 24) (hef : e ≤ f) (hf : f ≤ sz n) (h0 : x3 ≤ 0) (h3 : ∀ a, e ≤ a → nI a + x3 = nI (a - e)) (hp : post (nI c, sg, eg, ar_n kd, ar_p pa, ar_n (st_u sz n (sz n - e)), ar_n (mv_l it (24 * n) f (sz n) e), ar_n pn, ar_n po, rl, rn, oa, ca, il, dm)) : wpX_shiftItems post (nI c, sg, eg, ar_n kd, ar_p pa, ar_n sz, ar_n it, ar_n pn, ar_n po, rl, rn, oa, ca, il, dm) (nI n) (nI f) x3 := by
  refine nm_r (show nI n * 24 = nI (24 * n) by rw [show (24 : Int32) = nI 24 from rfl, pk_mul, Nat.mul_comm]) (in_c (vp_in_nI hn (by omega)) (nm_r (ar_nc sz (by omega)) (br_t h0 ⟨sz n - f + 1, ?_⟩)))
  have q : wX_shiftItems_99 post (nI n) x3 (nI (sz n)) (nI c) sg eg (ar_n kd) (ar_p pa) (ar_n sz) (ar_n (mv_l it (24 * n) f (sz n) e)) (ar_n pn) (ar_n po) rl rn oa ca il dm :=
    in_c (vp_in_nI hn (by omega)) (nm_r (by rw [h3 _ (by omega), nI_clamp (by omega), ar_nu]) hp)
  have := xx_s64 (post := post) hn hs hef h3 q (sz n - f) f (by omega) (Nat.le_refl f)
  rw [mv_l0] at this
  exact this
theorem xx_shiftUp {c : Nat} {kd pa sz it pn po : Nat → Nat} {sg eg : Int32} {rl rn oa ca il dm : Nat → Int32} {post : SX → Prop} {n f e : Nat} (hn : n < 24) (hs : sz n + e ≤ 24) (he : 0 < e) (hf : f ≤ sz n) (hp : post (nI c, sg, eg, ar_n kd, ar_p pa, ar_n (st_u sz n (sz n + e)), ar_n (mv_r it (24 * n) f (sz n) e), ar_n pn, ar_n po, rl, rn, oa, ca, il, dm)) : wpX_shiftItems post (nI c, sg, eg, ar_n kd, ar_p pa, ar_n sz, ar_n it, ar_n pn, ar_n po, rl, rn, oa, ca, il, dm) (nI n) (nI f) (nI e) := by
  refine nm_r (show nI n * 24 = nI (24 * n) by rw [show (24 : Int32) = nI 24 from rfl, pk_mul, Nat.mul_comm]) (in_c (vp_in_nI hn (by omega)) (nm_r (ar_nc sz (by omega)) (br_f (nI_nle he (by omega)) (nm_e ⟨sz n - f + 1, ?_⟩))))
  have q : wX_shiftItems_99 post (nI n) (nI e) (nI (sz n)) (nI c) sg eg (ar_n kd) (ar_p pa) (ar_n sz) (ar_n (mv_r it (24 * n) f (sz n) e)) (ar_n pn) (ar_n po) rl rn oa ca il dm :=
    in_c (vp_in_nI hn (by omega)) (nm_r (by rw [nI_add, nI_clamp (by omega), ar_nu]) hp)
  have := xx_s24 (post := post) hn hs q (sz n - f) (sz n) (by omega) (Nat.le_refl _)
  rw [mv_r0] at this
  exact this
end
section
/-! X's changing methods against the pure core -/
theorem st_id (f : Nat → Nat) (i : Nat) : st_u f i (f i) = f := by
  funext j
  unfold st_u
  split
  · rename_i e; rw [e]
  · rfl
theorem st_e (f : Nat → Nat) {i x : Nat} (h : x = f i) : st_u f i x = f := by rw [h]; exact st_id f i
theorem mp_nn (F G : Nat → Nat → Nat × Nat) (pn po : Nat → Nat) : mp_n G (mp_n F pn po) (mp_o F pn po) = mp_n (fun v o => G (F v o).1 (F v o).2) pn po := by
  funext k
  unfold mp_n mp_o
  by_cases h : k < 8
  · simp only [if_pos h]
  · simp only [if_neg h]
theorem mp_oo (F G : Nat → Nat → Nat × Nat) (pn po : Nat → Nat) : mp_o G (mp_n F pn po) (mp_o F pn po) = mp_o (fun v o => G (F v o).1 (F v o).2) pn po := by
  funext k
  unfold mp_n mp_o
  by_cases h : k < 8
  · simp only [if_pos h]
  · simp only [if_neg h]
theorem mp_nc {F G : Nat → Nat → Nat × Nat} {pn po : Nat → Nat} (h : ∀ k, k < 8 → F (pn k) (po k) = G (pn k) (po k)) : mp_n F pn po = mp_n G pn po := by
  funext k
  unfold mp_n
  by_cases z : k < 8
  · rw [if_pos z, if_pos z, h k z]
  · rw [if_neg z, if_neg z]
theorem mp_oc {F G : Nat → Nat → Nat × Nat} {pn po : Nat → Nat} (h : ∀ k, k < 8 → F (pn k) (po k) = G (pn k) (po k)) : mp_o F pn po = mp_o G pn po := by
  funext k
  unfold mp_o
  by_cases z : k < 8
  · rw [if_pos z, if_pos z, h k z]
  · rw [if_neg z, if_neg z]
theorem mp_ni {F : Nat → Nat → Nat × Nat} {pn po : Nat → Nat} (h : ∀ k, k < 8 → F (pn k) (po k) = (pn k, po k)) : mp_n F pn po = pn := by
  funext k
  unfold mp_n
  by_cases z : k < 8
  · rw [if_pos z, h k z]
  · rw [if_neg z]
theorem mp_oi {F : Nat → Nat → Nat × Nat} {pn po : Nat → Nat} (h : ∀ k, k < 8 → F (pn k) (po k) = (pn k, po k)) : mp_o F pn po = po := by
  funext k
  unfold mp_o
  by_cases z : k < 8
  · rw [if_pos z, h k z]
  · rw [if_neg z]
theorem nj_b1 {a : Nat} (h : 1 ≤ a) : nI a + (-1) = nI (a - 1) := by
  obtain ⟨b, rfl⟩ : ∃ b, a = b + 1 := ⟨a - 1, by omega⟩
  exact pk_m1 b
/-- valid places are small numbers -/
theorem pl_sm8 {c : Nat} {kd pa sz it pn po : Nat → Nat} (T : tr_T c kd pa sz it) (V : ∀ k, k < 8 → pl_ok c sz (pn k) (po k)) : ∀ k, k < 8 → pn k < 24 ∧ po k < 25 := by
  intro k hk
  have h := V k hk
  have := tr_c24 T
  have := tr_s24 T h.1
  have := h.1
  have := h.2
  omega
theorem xx_makeNode {c : Nat} {kd pa sz it pn po : Nat → Nat} {sg eg : Int32} {rl rn oa ca il dm : Nat → Int32} {post : Int32 → SX → Prop} {k : Nat} (hc : c < 24) (hp : post (nI c) (nI (c+1), sg, eg, ar_n (st_u kd c k), ar_p (st_u pa c 0), ar_n (st_u sz c 0), ar_n it, ar_n pn, ar_n po, rl, rn, oa, ca, il, dm)) : wpX_makeNode post (nI c, sg, eg, ar_n kd, ar_p pa, ar_n sz, ar_n it, ar_n pn, ar_n po, rl, rn, oa, ca, il, dm) (nI k) := by
  have hi : vp_in (nI c) 24 := vp_in_nI hc (by omega)
  refine in_c hi (nm_r (show upd (ar_n kd) (nI c).toNatClampNeg (nI k) = _ by rw [nI_clamp (by omega), ar_nu]) (in_c hi (nm_r (show upd (ar_p pa) (nI c).toNatClampNeg (-1) = _ by rw [nI_clamp (by omega), ar_pm]) (in_c hi (nm_r (show upd (ar_n sz) (nI c).toNatClampNeg (nI 0) = _ by rw [nI_clamp (by omega), ar_nu]) (nm_r (nI_1 c) hp))))))
noncomputable def pl_t1 (pa : Nat → Nat) (n p i v o : Nat) : Nat × Nat := cl_if (tr_w pa (v + 1) n) (p, i) (v, o)
def pl_t2 (p i v o : Nat) : Nat × Nat := if v = p ∧ i + 1 ≤ o then (p, o - 1) else (v, o)
theorem pl_t12 (pa : Nat → Nat) (n p i v o : Nat) : pl_t2 p i (pl_t1 pa n p i v o).1 (pl_t1 pa n p i v o).2 = pl_tk pa n p i v o := by
  unfold pl_t1 pl_t2 pl_tk
  by_cases z : tr_w pa (v + 1) n
  · rw [cl_t z, cl_t z]; dsimp only; rw [if_neg (by omega)]
  · rw [cl_f z, cl_f z]; dsimp only
    by_cases y : v = p ∧ i < o
    · rw [if_pos y, if_pos (by omega), y.1]
    · rw [if_neg y, if_neg (by omega)]
theorem xx_tkl {c : Nat} {kd pa sz it pn po : Nat → Nat} {sg eg : Int32} {rl rn oa ca il dm : Nat → Int32} {post : SX → Prop} {n p i : Nat} (T : tr_T c kd pa sz it) (V : ∀ k, k < 8 → pl_ok c sz (pn k) (po k)) (hn : n < c)
    (H : wX_takeOut_16 post (nI n) (nI p) (nI i) 1 (nI 8) (nI c) sg eg (ar_n kd) (ar_p pa) (ar_n sz) (ar_n it) (ar_n (mp_n (pl_t1 pa n p i) pn po)) (ar_n (mp_o (pl_t1 pa n p i) pn po)) rl rn oa ca il dm) :
    ∀ d k, k + d = 8 → wX_takeOut_16 post (nI n) (nI p) (nI i) (d + 1) (nI k) (nI c) sg eg (ar_n kd) (ar_p pa) (ar_n sz) (ar_n it) (ar_n (mq_n (pl_t1 pa n p i) pn po k)) (ar_n (mq_o (pl_t1 pa n p i) pn po k)) rl rn oa ca il dm := by
  intro d
  induction d with
  | zero =>
    intro k hk
    obtain rfl : k = 8 := by omega
    exact H
  | succ d ih =>
    intro k hk
    have h8 : k < 8 := by omega
    refine br_f (nI_ge (b := 8) h8 (by omega)) (in_c (vp_in_nI h8 (by omega)) ?_)
    rw [ar_nc _ (by omega), mq_nk]
    refine xx_isWithin T (V k h8).1 hn (fun z => br_f (by decide) ?_) (fun z => br_t rfl ?_)
    · refine xx_setPlace h8 rfl rfl ?_
      rw [mq_ns (F := pl_t1 pa n p i) (pn := pn) (po := po) (by unfold pl_t1; rw [cl_t z]), mq_os (F := pl_t1 pa n p i) (pn := pn) (po := po) (by unfold pl_t1; rw [cl_t z])]
      exact nm_r (nI_1 k) (ih (k + 1) (by omega))
    · rw [mq_nu (F := pl_t1 pa n p i) (pn := pn) (po := po) (k := k) (by unfold pl_t1; rw [cl_f z]), mq_ou (F := pl_t1 pa n p i) (pn := pn) (po := po) (k := k) (by unfold pl_t1; rw [cl_f z])]
      exact nm_r (nI_1 k) (ih (k + 1) (by omega))
theorem xx_takeOut {c : Nat} {kd pa sz it pn po : Nat → Nat} {sg eg : Int32} {rl rn oa ca il dm : Nat → Int32} {post : SX → Prop} {n p i : Nat} (T : tr_T c kd pa sz it) (V : ∀ k, k < 8 → pl_ok c sz (pn k) (po k)) (hn : n < c) (hp : pa n = p + 1) (hi : i < sz p) (he : it (24 * p + i) = n)
    (h : post (nI c, sg, eg, ar_n kd, ar_p (st_u pa n 0), ar_n (st_u sz p (sz p - 1)), ar_n (mv_l it (24 * p) (i + 1) (sz p) 1), ar_n (mp_n (pl_tk pa n p i) pn po), ar_n (mp_o (pl_tk pa n p i) pn po), rl, rn, oa, ca, il, dm)) : wpX_takeOut post (nI c, sg, eg, ar_n kd, ar_p pa, ar_n sz, ar_n it, ar_n pn, ar_n po, rl, rn, oa, ca, il, dm) (nI n) := by
  have c24 := tr_c24 T
  obtain ⟨h1, h2, _⟩ := tr_pe T hn hp
  have s24 := tr_s24 T h1
  have b8 := pl_sm8 T V
  refine in_c (vp_in_nI (by omega) (by omega)) (nm_r ((ar_pc pa (by omega)).trans (by rw [hp, nI_pred])) (xx_indexOf T hn hp hi he ⟨9, ?_⟩))
  have H : wX_takeOut_16 post (nI n) (nI p) (nI i) 1 (nI 8) (nI c) sg eg (ar_n kd) (ar_p pa) (ar_n sz) (ar_n it) (ar_n (mp_n (pl_t1 pa n p i) pn po)) (ar_n (mp_o (pl_t1 pa n p i) pn po)) rl rn oa ca il dm := by
    refine br_t (nI_le (a := 8) (by omega) (by omega)) ?_
    rw [nI_1 i]
    refine xx_slidePlaces (pl_t2 p i) ?_ (by omega) (by omega) ?_ ?_
    · intro k hk
      rw [mp_n1 hk, mp_o1 hk]
      have := b8 k hk
      unfold pl_t1
      by_cases z : tr_w pa (pn k + 1) n
      · rw [cl_t z]; dsimp only; omega
      · rw [cl_f z]; exact this
    · intro k hk
      refine ⟨fun e => ?_, fun e => ?_⟩
      · unfold pl_t2
        rw [if_pos e]
        exact ⟨rfl, (nj_b1 (by omega)).symm⟩
      · unfold pl_t2
        rw [if_neg e]
    · rw [mp_nn, mp_oo, mp_nc (G := pl_tk pa n p i) (fun k _ => pl_t12 pa n p i (pn k) (po k)), mp_oc (G := pl_tk pa n p i) (fun k _ => pl_t12 pa n p i (pn k) (po k))]
      refine xx_shiftDown (e := 1) (by omega) (by omega) (by omega) (by omega) (by decide) (fun a ha => nj_b1 ha) ?_
      exact in_c (vp_in_nI (by omega) (by omega)) (nm_r (show upd (ar_p pa) (nI n).toNatClampNeg (-1) = _ by rw [nI_clamp (by omega), ar_pm]) h)
  have := xx_tkl T V hn H 8 0 rfl
  rw [mq_n0, mq_o0] at this
  exact this
theorem xx_putIn {c : Nat} {kd pa sz it pn po : Nat → Nat} {sg eg : Int32} {rl rn oa ca il dm : Nat → Int32} {post : SX → Prop} {n p i : Nat} (T : tr_T c kd pa sz it) (V : ∀ k, k < 8 → pl_ok c sz (pn k) (po k)) (hn : n < c) (hp : p < c) (hs : sz p + 1 ≤ 24) (hi : i ≤ sz p)
    (h : post (nI c, sg, eg, ar_n kd, ar_p (st_u pa n (p + 1)), ar_n (st_u sz p (sz p + 1)), ar_n (st_u (mv_r it (24 * p) i (sz p) 1) (24 * p + i) n), ar_n (mp_n (pl_pt p i) pn po), ar_n (mp_o (pl_pt p i) pn po), rl, rn, oa, ca, il, dm)) : wpX_putIn post (nI c, sg, eg, ar_n kd, ar_p pa, ar_n sz, ar_n it, ar_n pn, ar_n po, rl, rn, oa, ca, il, dm) (nI p) (nI n) (nI i) := by
  have c24 := tr_c24 T
  have b8 := pl_sm8 T V
  unfold wpX_putIn
  dsimp only
  rw [nI_1 i]
  refine xx_slidePlaces (pl_pt p i) b8 (by omega) (by omega) ?_ ?_
  · intro k hk
    have := b8 k hk
    refine ⟨fun e => ?_, fun e => ?_⟩
    · unfold pl_pt
      rw [if_pos (by omega)]
      exact ⟨by rw [e.1], (nI_1 _).symm⟩
    · unfold pl_pt
      rw [if_neg (by omega)]
  · refine xx_shiftUp (e := 1) (by omega) hs (by omega) hi ?_
    rw [ix_x]
    refine in_c (vp_in_nI (by omega) (by omega)) (nm_r (show upd (ar_n (mv_r it (24 * p) i (sz p) 1)) (nI (24 * p + i)).toNatClampNeg (nI n) = _ by rw [nI_clamp (by omega), ar_nu]) (in_c (vp_in_nI (by omega) (by omega)) (nm_r (show upd (ar_p pa) (nI n).toNatClampNeg (nI p) = _ by rw [nI_clamp (by omega), ar_pq]) h)))
/-- how many digits: x tells k digits of d -/
def dg_c (x : Int32) (k d : Nat) : Prop := (x = -1 ∧ k = 0 ∧ d = 0) ∨ (x = nI d ∧ ((d < 10 ∧ k = 1) ∨ (10 ≤ d ∧ d < 100 ∧ k = 2) ∨ (100 ≤ d ∧ d < 1000 ∧ k = 3) ∨ (1000 ≤ d ∧ d < 10000 ∧ k = 4)))
theorem dg_k {x : Int32} {k d : Nat} (h : dg_c x k d) : k ≤ 4 ∧ d < 10000 := by
  rcases h with h | h <;> omega
theorem xx_digitCount {c : Nat} {kd pa sz it pn po : Nat → Nat} {sg eg : Int32} {rl rn oa ca il dm : Nat → Int32} {post : Int32 → Prop} {x : Int32} {k d : Nat} (h : dg_c x k d) (hp : post (nI k)) : wpX_digitCount post (nI c, sg, eg, ar_n kd, ar_p pa, ar_n sz, ar_n it, ar_n pn, ar_n po, rl, rn, oa, ca, il, dm) x := by
  rcases h with ⟨rfl, rfl, _⟩ | ⟨rfl, h⟩
  · exact br_t rfl hp
  · refine br_f (fun z => ?_) ?_
    · have := nI_pos (n := d) (by omega)
      rw [z] at this
      exact this (by decide)
    · rcases h with ⟨h1, rfl⟩ | ⟨h0, h1, rfl⟩ | ⟨h0, h1, rfl⟩ | ⟨h0, h1, rfl⟩
      · exact br_f (nI_ge (b := 10) h1 (by omega)) hp
      · exact br_t (nI_le (a := 10) h0 (by omega)) (br_f (nI_ge (b := 100) h1 (by omega)) hp)
      · exact br_t (nI_le (a := 10) (by omega) (by omega)) (br_t (nI_le (a := 100) h0 (by omega)) (br_f (nI_ge (b := 1000) h1 (by omega)) hp))
      · exact br_t (nI_le (a := 10) (by omega) (by omega)) (br_t (nI_le (a := 100) (by omega) (by omega)) (br_t (nI_le (a := 1000) h0 (by omega)) hp))
theorem xx_dgl {c : Nat} {kd pa sz it pn po : Nat → Nat} {sg eg : Int32} {rl rn oa ca il dm : Nat → Int32} {post : SX → Prop} {t a : Nat} (ht : t < 24) : ∀ k d (it : Nat → Nat), a + k ≤ 24 → d < 10000 → post (nI c, sg, eg, ar_n kd, ar_p pa, ar_n sz, ar_n (dg_w k (24 * t + a) d it), ar_n pn, ar_n po, rl, rn, oa, ca, il, dm) → wX_replaceLetters_58 post (nI t) (nI a) (nI c) sg eg (k + 1) (nI d) (nI k - 1) (ar_n kd) (ar_p pa) (ar_n sz) (ar_n it) (ar_n pn) (ar_n po) rl rn oa ca il dm := by
  intro k
  induction k with
  | zero => intro d it _ _ hp; exact br_t (by decide) hp
  | succ k ih =>
    intro d it ha hd hp
    refine br_f (by rw [ar_neg (by omega)]; omega) (And.intro (by decide) ?_)
    rw [nI_pred, ix_x, nI_add]
    refine in_c (vp_in_nI (by omega) (by omega)) (nm_r (e' := ar_n (st_u it (24 * t + a + k) (d % 10))) ?_ (And.intro (by decide) (nm_r (e' := nI (d / 10)) ?_ (nm_r (nj_d1 k) (ih (d / 10) _ (by omega) (by omega) hp)))))
    · rw [nI_clamp (by omega), show (10 : Int32) = nI 10 from rfl, pk_rem (by omega) (by omega) (by omega), ar_nu]
    · rw [show (10 : Int32) = nI 10 from rfl, pk_div (by omega) (by omega) (by omega)]
def ex_g (a c k o : Nat) : Nat := if o ≤ a then o else if o ≤ a + c then a else o + k - c
def ex_i (it : Nat → Nat) (t a c k s : Nat) : Nat → Nat := if k ≤ c then mv_l it (24 * t) (a + c) s (c - k) else mv_r it (24 * t) (a + c) s (k - c)
def ex_1 (t a c v o : Nat) : Nat × Nat := if v = t ∧ a + 1 ≤ o ∧ o ≤ a + c then (t, a) else (v, o)
def ex_2 (t a c k v o : Nat) : Nat × Nat := if v = t ∧ a + c + 1 ≤ o then (t, o + k - c) else (v, o)
theorem ex_12 (t a c k v o : Nat) : ex_2 t a c k (ex_1 t a c v o).1 (ex_1 t a c v o).2 = pl_ex t (ex_g a c k) v o := by
  unfold pl_ex ex_g
  by_cases e : v = t
  · rw [if_pos e]
    by_cases h1 : a + 1 ≤ o ∧ o ≤ a + c
    · have e1 : ex_1 t a c v o = (t, a) := by unfold ex_1; exact if_pos ⟨e, h1⟩
      rw [e1, if_neg (by omega), if_pos (by omega)]
      unfold ex_2
      exact if_neg (by omega)
    · have e1 : ex_1 t a c v o = (v, o) := by unfold ex_1; exact if_neg (fun z => h1 z.2)
      rw [e1]
      unfold ex_2
      by_cases h2 : a + c + 1 ≤ o
      · rw [if_pos ⟨e, h2⟩, if_neg (by omega), if_neg (by omega)]
      · rw [if_neg (fun z => h2 z.2), if_pos (by omega), e]
  · rw [if_neg e]
    have e1 : ex_1 t a c v o = (v, o) := by unfold ex_1; exact if_neg (fun z => e z.1)
    rw [e1]
    unfold ex_2
    exact if_neg (fun z => e z.1)
theorem nj_sb {k c : Nat} (hk : k < 2 ^ 30) (hc : c < 2 ^ 30) (o : Nat) (h : c ≤ o) : nI (o + k - c) = nI o + (nI k - nI c) := by
  rw [← pk_sub (by omega), ← nI_add, Int32.sub_eq_add_neg, Int32.sub_eq_add_neg, Int32.add_assoc]
theorem xx_replaceLetters {c : Nat} {kd pa sz it pn po : Nat → Nat} {sg eg : Int32} {rl rn oa ca il dm : Nat → Int32} {post : SX → Prop} {t a g k d : Nat} {x : Int32} (T : tr_T c kd pa sz it) (V : ∀ k, k < 8 → pl_ok c sz (pn k) (po k)) (ht : t < c) (ha : a + g ≤ sz t) (hk : sz t + k - g ≤ 12) (s12 : sz t ≤ 12) (hx : dg_c x k d)
    (h : post (nI c, sg, eg, ar_n kd, ar_p pa, ar_n (st_u sz t (sz t + k - g)), ar_n (dg_w k (24 * t + a) d (ex_i it t a g k (sz t))), ar_n (mp_n (pl_ex t (ex_g a g k)) pn po), ar_n (mp_o (pl_ex t (ex_g a g k)) pn po), rl, rn, oa, ca, il, dm)) : wpX_replaceLetters post (nI c, sg, eg, ar_n kd, ar_p pa, ar_n sz, ar_n it, ar_n pn, ar_n po, rl, rn, oa, ca, il, dm) (nI t) (nI a) (nI g) x := by
  have c24 := tr_c24 T
  have b8 := pl_sm8 T V
  have k4 := dg_k hx
  unfold wpX_replaceLetters
  dsimp only
  refine xx_digitCount hx ?_
  rw [nI_1 a, nI_add, nI_1 (a + g)]
  have fin : ∀ sz' it', post (nI c, sg, eg, ar_n kd, ar_p pa, ar_n sz', ar_n (dg_w k (24 * t + a) d it'), ar_n (mp_n (pl_ex t (ex_g a g k)) pn po), ar_n (mp_o (pl_ex t (ex_g a g k)) pn po), rl, rn, oa, ca, il, dm) → ∃ n58 : Nat, wX_replaceLetters_58 post (nI t) (nI a) (nI c) sg eg n58 x (nI k - 1) (ar_n kd) (ar_p pa) (ar_n sz') (ar_n it') (ar_n (mp_n (pl_ex t (ex_g a g k)) pn po)) (ar_n (mp_o (pl_ex t (ex_g a g k)) pn po)) rl rn oa ca il dm := by
    intro sz' it' h
    refine ⟨k + 1, ?_⟩
    rcases hx with ⟨_, rfl, rfl⟩ | ⟨rfl, hx⟩
    · exact br_t (by decide) h
    · exact xx_dgl (it := it) (by omega) k d it' (by omega) (by omega) h
  refine xx_gatherPlaces (ex_1 t a g) b8 (by omega) (by omega) (by omega) ?_ ?_
  · intro j hj
    refine ⟨fun e => ?_, fun e => ?_⟩
    · unfold ex_1; rw [if_pos e]; exact ⟨rfl, rfl⟩
    · unfold ex_1; rw [if_neg e]
  · refine xx_slidePlaces (ex_2 t a g k) ?_ (by omega) (by omega) ?_ ?_
    · intro j hj
      rw [mp_n1 hj, mp_o1 hj]
      have := b8 j hj
      unfold ex_1
      split
      · dsimp only; omega
      · exact this
    · intro j hj
      refine ⟨fun e => ?_, fun e => ?_⟩
      · unfold ex_2; rw [if_pos e]; exact ⟨rfl, nj_sb (by omega) (by omega) _ (by omega)⟩
      · unfold ex_2; rw [if_neg e]
    · rw [mp_nn, mp_oo, mp_nc (F := fun v o => ex_2 t a g k (ex_1 t a g v o).1 (ex_1 t a g v o).2) (G := pl_ex t (ex_g a g k)) (fun j _ => ex_12 t a g k (pn j) (po j)), mp_oc (F := fun v o => ex_2 t a g k (ex_1 t a g v o).1 (ex_1 t a g v o).2) (G := pl_ex t (ex_g a g k)) (fun j _ => ex_12 t a g k (pn j) (po j))]
      by_cases l : k ≤ g
      · unfold ex_i at h
        rw [if_pos l] at h
        refine xx_shiftDown (e := g - k) (by omega) (by omega) (by omega) (by omega) ?_ ?_ (nm_e (fin _ _ ?_))
        · rw [Int32.le_iff_toInt_le, pk_sub_toInt (by omega) (by omega), show (0 : Int32).toInt = 0 from by decide]; omega
        · intro b hb
          have := nj_sb (k := k) (c := g) (by omega) (by omega) (b + g) (by omega)
          rw [show b + g + k - g = b + k by omega] at this
          rw [show nI k - nI g = -nI (g - k) from ?_, ← Int32.sub_eq_add_neg, pk_sub hb]
          rw [← pk_sub l, Int32.neg_sub]
        · rw [show sz t - (g - k) = sz t + k - g by omega]; exact h
      · unfold ex_i at h
        rw [if_neg l] at h
        rw [pk_sub (by omega)]
        refine xx_shiftUp (e := k - g) (by omega) (by omega) (by omega) (by omega) (nm_e (fin _ _ ?_))
        rw [show sz t + (k - g) = sz t + k - g by omega]; exact h
theorem xx_hl {c : Nat} {kd pa sz it pn po : Nat → Nat} {sg eg : Int32} {rl rn oa ca il dm : Nat → Int32} {post : SX → Prop} {f o t : Nat} (hf : f < 24) (ht : t < 24) (ne : f ≠ t) (h1 : sz f ≤ 24) (h2 : sz t + (sz f - o) ≤ 24)
    (h : post (nI c, sg, eg, ar_n kd, ar_p pa, ar_n (st_u (st_u sz t (sz t + (sz f - o))) f o), ar_n (cp_i it (24 * f + o) (24 * t + sz t) (sz f - o)), ar_n pn, ar_n po, rl, rn, oa, ca, il, dm)) :
    ∀ d j, o + j + d = sz f → wX_handLetters_11 post (nI f) (nI o) (nI t) (nI (sz f)) (nI c) sg eg (d + 1) (nI (o + j)) (ar_n kd) (ar_p pa) (ar_n (st_u sz t (sz t + j))) (ar_n (cp_i it (24 * f + o) (24 * t + sz t) j)) (ar_n pn) (ar_n po) rl rn oa ca il dm := by
  intro d
  induction d with
  | zero =>
    intro j hj
    obtain rfl : j = sz f - o := by omega
    exact br_t (nI_le (by omega) (by omega)) (in_c (vp_in_nI hf (by omega)) (nm_r (show upd (ar_n (st_u sz t (sz t + (sz f - o)))) (nI f).toNatClampNeg (nI o) = _ by rw [nI_clamp (by omega), ar_nu]) h))
  | succ d ih =>
    intro j hj
    refine br_f (nI_ge (by omega) (by omega)) (in_c (vp_in_nI ht (by omega)) ?_)
    rw [ix_x, ar_nc _ (by omega), st_us, ix_x, nI_1]
    refine in_c (vp_in_nI (by omega) (by omega)) (in_c (vp_in_nI (by omega) (by omega)) (nm_r (e' := ar_n (cp_i it (24 * f + o) (24 * t + sz t) (j + 1))) ?_ (in_c (vp_in_nI ht (by omega)) (in_c (vp_in_nI ht (by omega)) (nm_r (e' := ar_n (st_u sz t (sz t + (j + 1)))) ?_ (nm_r (nI_1 (o + j)) (ih (j + 1) (by omega))))))))
    · rw [ar_nc _ (by omega), nI_clamp (by omega), show 24 * f + (o + j) = 24 * f + o + j by omega, cp_k it (by omega), show 24 * t + (sz t + j) = 24 * t + sz t + j by omega, ar_nu, cp_s]
    · rw [nI_clamp (by omega), ar_nu]
      congr 1
      funext q
      unfold st_u
      split <;> rfl
theorem xx_handLetters {c : Nat} {kd pa sz it pn po : Nat → Nat} {sg eg : Int32} {rl rn oa ca il dm : Nat → Int32} {post : SX → Prop} {f o t : Nat} (hf : f < 24) (ht : t < 24) (ne : f ≠ t) (h1 : sz f ≤ 24) (ho : o ≤ sz f) (h2 : sz t + (sz f - o) ≤ 24)
    (h : post (nI c, sg, eg, ar_n kd, ar_p pa, ar_n (st_u (st_u sz t (sz t + (sz f - o))) f o), ar_n (cp_i it (24 * f + o) (24 * t + sz t) (sz f - o)), ar_n pn, ar_n po, rl, rn, oa, ca, il, dm)) : wpX_handLetters post (nI c, sg, eg, ar_n kd, ar_p pa, ar_n sz, ar_n it, ar_n pn, ar_n po, rl, rn, oa, ca, il, dm) (nI f) (nI o) (nI t) := by
  refine in_c (vp_in_nI hf (by omega)) (nm_r (ar_nc sz (by omega)) ⟨sz f - o + 1, ?_⟩)
  have := xx_hl hf ht ne h1 h2 h (sz f - o) 0 (by omega)
  rw [cp_0, show sz t + 0 = sz t from rfl, st_id] at this
  exact this
theorem xx_nextChild_0 {c : Nat} {kd pa sz it pn po : Nat → Nat} {sg eg : Int32} {rl rn oa ca il dm : Nat → Int32} {post : Int32 → Prop} {n : Nat} (hn : n < 24) (hp : pa n = 0) (h : post (-1)) : wpX_nextChild post (nI c, sg, eg, ar_n kd, ar_p pa, ar_n sz, ar_n it, ar_n pn, ar_n po, rl, rn, oa, ca, il, dm) (nI n) :=
  in_c (vp_in_nI hn (by omega)) (nm_r ((ar_pc pa (by omega)).trans (by rw [hp])) (br_t (by decide) h))
theorem xx_nextChild {c : Nat} {kd pa sz it pn po : Nat → Nat} {sg eg : Int32} {rl rn oa ca il dm : Nat → Int32} {post : Int32 → Prop} {n p i : Nat} (T : tr_T c kd pa sz it) (hn : n < c) (hp : pa n = p + 1) (hi : i < sz p) (he : it (24 * p + i) = n) (h1 : i + 1 < sz p → post (nI (it (24 * p + (i + 1))))) (h0 : sz p ≤ i + 1 → post (-1)) : wpX_nextChild post (nI c, sg, eg, ar_n kd, ar_p pa, ar_n sz, ar_n it, ar_n pn, ar_n po, rl, rn, oa, ca, il, dm) (nI n) := by
  have c24 := tr_c24 T
  obtain ⟨hp0, _⟩ := tr_pe T hn hp
  have s24 := tr_s24 T hp0
  refine in_c (vp_in_nI (by omega) (by omega)) (nm_r ((ar_pc pa (by omega)).trans (by rw [hp, nI_pred])) (br_f ?_ (xx_indexOf T hn hp hi he (nm_r (nI_1 i) (in_c (vp_in_nI (by omega) (by omega)) (cb_i (d := sz p ≤ i + 1) ?_ h0 fun z => ?_))))))
  · intro z
    have := nI_pos (n := p) (by omega)
    rw [z] at this
    exact this (by decide)
  · rw [ar_nc sz (by omega), nI_leI (by omega) (by omega)]
  · rw [ix_x]
    exact in_c (vp_in_nI (by omega) (by omega)) (by rw [ar_nc it (by omega)]; exact h1 (by omega))
end
section
/-! Y's changing methods against the pure core -/
theorem nar_b : ∀ k, k < 2 → vp_nar .boolean (nI k) = nI k := by
  intro k hk
  match k, hk with
  | 0, _ => decide
  | 1, _ => decide
theorem yy_make {c : Nat} {kd pa sz it pn po : Nat → Nat} {ln : Int32} {mk os cs cm : Nat → Int32} {post : Int32 → SY → Prop} {k : Nat} (hk : k < 2) (hc : c < 24) (hp : post (nI c) (nI (c+1), ln, ar_n (st_u kd c k), ar_p (st_u pa c 0), ar_n (st_u sz c 0), ar_n it, ar_n pn, ar_n po, mk, os, cs, cm)) : wpY_make post (nI c, ln, ar_n kd, ar_p pa, ar_n sz, ar_n it, ar_n pn, ar_n po, mk, os, cs, cm) (nI k) := by
  have hi : vp_in (nI c) 24 := vp_in_nI hc (by omega)
  refine br_f (fun z => ?_) (in_c hi (nm_r (show upd (ar_n kd) (nI c).toNatClampNeg (vp_nar .boolean (nI k)) = _ by rw [nI_clamp (by omega), nar_b k hk, ar_nu]) (in_c hi (nm_r (show upd (ar_p pa) (nI c).toNatClampNeg (-1) = _ by rw [nI_clamp (by omega), ar_pm]) (in_c hi (nm_r (show upd (ar_n sz) (nI c).toNatClampNeg (nI 0) = _ by rw [nI_clamp (by omega), ar_nu]) (nm_r (nI_1 c) ?_)))))))
  · have := (nI_eq (a := c) (b := 24) (by omega) (by omega)).mp z
    omega
  · rw [nI_pred]; exact hp
theorem yy_make_f {c : Nat} {kd pa sz it pn po : Nat → Nat} {ln : Int32} {mk os cs cm : Nat → Int32} {post : Int32 → SY → Prop} {x : Int32} (hc : c = 24) (hp : post (-2) (nI c, ln, ar_n kd, ar_p pa, ar_n sz, ar_n it, ar_n pn, ar_n po, mk, os, cs, cm)) : wpY_make post (nI c, ln, ar_n kd, ar_p pa, ar_n sz, ar_n it, ar_n pn, ar_n po, mk, os, cs, cm) x := by
  subst hc
  exact br_t rfl hp
section
variable {c : Nat} {kd pa sz it pn po : Nat → Nat} {ln : Int32} {mk os cs cm : Nat → Int32}
theorem yy_mt {post : SY → Prop} {n p i : Nat} (T : tr_T c kd pa sz it) (V : ∀ k, k < 8 → pl_ok c sz (pn k) (po k)) (hn : n < c) (hp : p < c) (hi : i < 24)
    (h : post (nI c, ln, ar_n kd, ar_p pa, ar_n sz, ar_n it, ar_n (mp_n (pl_tk pa n p i) pn po), ar_n (mp_o (pl_tk pa n p i) pn po), mk, os, cs, cm)) :
    ∀ d k, k + d = 8 → wY_moveTaken_3 post (nI p) (nI i) (nI n) (nI c) ln (d + 1) (nI k) (ar_n kd) (ar_p pa) (ar_n sz) (ar_n it) (ar_n (mq_n (pl_tk pa n p i) pn po k)) (ar_n (mq_o (pl_tk pa n p i) pn po k)) mk os cs cm := by
  have c24 := tr_c24 T
  have b8 := pl_sm8 T V
  intro d
  induction d with
  | zero =>
    intro k hk
    obtain rfl : k = 8 := by omega
    exact br_t (nI_le (a := 8) (by omega) (by omega)) h
  | succ d ih =>
    intro k hk
    have h8 : k < 8 := by omega
    have hb := b8 k h8
    have hi8 : vp_in (nI k) 8 := vp_in_nI h8 (by omega)
    have nx := ih (k + 1) (by omega)
    have set : tr_w pa (pn k + 1) n → wY_moveTaken_36 post (wY_moveTaken_3 post (nI p) (nI i) (nI n) (nI c) ln (d + 1)) (nI p) (nI i) (nI n) (nI k) (nI c) ln (ar_n kd) (ar_p pa) (ar_n sz) (ar_n it) (ar_n (mq_n (pl_tk pa n p i) pn po k)) (ar_n (mq_o (pl_tk pa n p i) pn po k)) mk os cs cm := by
      intro z
      refine in_c hi8 (nm_r (e' := ar_n (mq_n (pl_tk pa n p i) pn po (k + 1))) ?_ (in_c hi8 (nm_r (e' := ar_n (mq_o (pl_tk pa n p i) pn po (k + 1))) ?_ (nm_r (nI_1 k) nx))))
      · rw [nI_clamp (by omega), ar_nu, mq_ns (by unfold pl_tk; rw [cl_t z])]
      · rw [nI_clamp (by omega), ar_nu, mq_os (by unfold pl_tk; rw [cl_t z])]
    have skip : ¬ tr_w pa (pn k + 1) n → ¬ (pn k = p ∧ i < po k) → wY_moveTaken_3 post (nI p) (nI i) (nI n) (nI c) ln (d + 1) (nI (k + 1)) (ar_n kd) (ar_p pa) (ar_n sz) (ar_n it) (ar_n (mq_n (pl_tk pa n p i) pn po k)) (ar_n (mq_o (pl_tk pa n p i) pn po k)) mk os cs cm := by
      intro z y
      rw [mq_nu (F := pl_tk pa n p i) (pn := pn) (po := po) (k := k) (by unfold pl_tk; rw [cl_f z, if_neg y]), mq_ou (F := pl_tk pa n p i) (pn := pn) (po := po) (k := k) (by unfold pl_tk; rw [cl_f z, if_neg y])]
      exact nx
    refine br_f (nI_ge (b := 8) h8 (by omega)) (in_c hi8 (cb_i (d := pn k = n) ?_ (fun e => set (by rw [e]; exact tr_wr _ _)) fun e => in_c hi8 ?_))
    · rw [ar_nc _ (by omega), mq_nk, nI_eq (by omega) (by omega)]
    · rw [ar_nc _ (by omega), mq_nk]
      refine yy_isBelow T (V k h8).1 hn (fun z => br_f (by decide) (set (tr_ws z))) (fun z => br_t rfl (in_c hi8 ?_))
      have z : ¬ tr_w pa (pn k + 1) n := fun q => (tr_wc q).elim e z
      refine cb_i (nI_eq (by omega) (by omega)) (fun y => in_c hi8 ?_) (fun y => nm_r (nI_1 k) (skip z (fun q => y q.1)))
      rw [ar_nc _ (by omega), mq_ok]
      refine cb_i (nI_leI (by omega) (by omega)) (fun l => nm_r (nI_1 k) (skip z (by omega))) (fun l => in_c hi8 (in_c hi8 (nm_r (e' := ar_n (mq_o (pl_tk pa n p i) pn po (k + 1))) ?_ (nm_r (nI_1 k) ?_))))
      · rw [nI_clamp (by omega), show nI (po k) - 1 = nI (po k - 1) from pk_sub (b := 1) (by omega), ar_nu, mq_os (by unfold pl_tk; rw [cl_f z, if_pos ⟨y, by omega⟩])]
      · rw [mq_nu (F := pl_tk pa n p i) (pn := pn) (po := po) (k := k) (by unfold pl_tk; rw [cl_f z, if_pos ⟨y, by omega⟩])]
        exact nx
theorem yy_tkl {post : Int32 → SY → Prop} {n p i s : Nat} (hn : n < 24) (hp : p < 24) (hs : s < 24) (hi : i < s)
    (h : post (nI i) (nI c, ln, ar_n kd, ar_p (st_u pa n 0), ar_n (st_u sz p (s - 1)), ar_n (mv_l it (24 * p) (i + 1) s 1), ar_n pn, ar_n po, mk, os, cs, cm)) :
    ∀ d k, k + d + 1 = s → i ≤ k → wY_takeOut_33 post (nI n) (nI p) (nI i) (nI c) ln (d + 1) (nI k) (ar_n kd) (ar_p pa) (ar_n (st_u sz p (s - 1))) (ar_n (mv_l it (24 * p) (i + 1) (k + 1) 1)) (ar_n pn) (ar_n po) mk os cs cm := by
  intro d
  induction d with
  | zero =>
    intro k hk hik
    obtain rfl : s = k + 1 := by omega
    refine in_c (vp_in_nI hp (by omega)) (br_t ?_ (in_c (vp_in_nI hn (by omega)) (nm_r (show upd (ar_p pa) (nI n).toNatClampNeg (-1) = _ by rw [nI_clamp (by omega), ar_pm]) h)))
    rw [ar_nc _ (by omega), st_us, nI_leI (by omega) (by omega)]; omega
  | succ d ih =>
    intro k hk hik
    refine in_c (vp_in_nI hp (by omega)) (br_f ?_ ?_)
    · rw [ar_nc _ (by omega), st_us, nI_leI (by omega) (by omega)]; omega
    · rw [ix_y, nI_1]
      refine in_c (vp_in_nI (by omega) (by omega)) (in_c (vp_in_nI (by omega) (by omega)) (nm_r ?_ (nm_r (nI_1 k) (ih (k + 1) (by omega) (by omega)))))
      rw [ar_nc _ (by omega), nI_clamp (by omega), Nat.add_assoc, mv_lk, ar_nu]
      have := mv_ls it (b := 24 * p) (f := i + 1) (e := 1) (k := k + 1) (by omega) (by omega)
      rw [show 24 * p + (k + 1) - 1 = 24 * p + k by omega] at this
      rw [this]
theorem yy_takeOut {post : Int32 → SY → Prop} {n p i : Nat} (T : tr_T c kd pa sz it) (V : ∀ k, k < 8 → pl_ok c sz (pn k) (po k)) (hn : n < c) (hp : pa n = p + 1) (hi : i < sz p) (he : it (24 * p + i) = n)
    (h : post (nI i) (nI c, ln, ar_n kd, ar_p (st_u pa n 0), ar_n (st_u sz p (sz p - 1)), ar_n (mv_l it (24 * p) (i + 1) (sz p) 1), ar_n (mp_n (pl_tk pa n p i) pn po), ar_n (mp_o (pl_tk pa n p i) pn po), mk, os, cs, cm)) : wpY_takeOut post (nI c, ln, ar_n kd, ar_p pa, ar_n sz, ar_n it, ar_n pn, ar_n po, mk, os, cs, cm) (nI n) := by
  have c24 := tr_c24 T
  obtain ⟨h1, h2, _⟩ := tr_pe T hn hp
  have s24 := tr_s24 T h1
  refine in_c (vp_in_nI (by omega) (by omega)) (nm_r ((ar_pc pa (by omega)).trans (by rw [hp, nI_pred])) (yy_indexOf T hn hp hi he ⟨9, ?_⟩))
  have := yy_mt (c := c) (kd := kd) (pa := pa) (sz := sz) (it := it) (pn := pn) (po := po) (ln := ln) (mk := mk) (os := os) (cs := cs) (cm := cm) (post := fun u => match u with | (f_count_17, f_length_18, a_isText_19, a_parents_20, a_sizes_21, a_items_22, a_placeNode_23, a_placeOffset_24, a_marks_25, a_opens_26, a_closes_27, a_coming_28) => (vp_in (nI p) 24 ∧ (vp_in (nI p) 24 ∧ ∀ a_sizes_31 : Nat → Int32, a_sizes_31 = upd a_sizes_21 (nI p).toNatClampNeg ((a_sizes_21 (nI p).toNatClampNeg) - 1) → (∃ n33 : Nat, wY_takeOut_33 post (nI n) (nI p) (nI i) f_count_17 f_length_18 n33 (nI i) a_isText_19 a_parents_20 a_sizes_31 a_items_22 a_placeNode_23 a_placeOffset_24 a_marks_25 a_opens_26 a_closes_27 a_coming_28)))) T V hn h1 (by omega : i < 24) ?_ 8 0 rfl
  · rw [mq_n0, mq_o0] at this
    exact this
  · refine in_c (vp_in_nI (by omega) (by omega)) (in_c (vp_in_nI (by omega) (by omega)) (nm_r (e' := ar_n (st_u sz p (sz p - 1))) ?_ ⟨sz p - 1 - i + 1, ?_⟩))
    · rw [ar_nc _ (by omega), nI_clamp (by omega), show nI (sz p) - 1 = nI (sz p - 1) from pk_sub (b := 1) (by omega), ar_nu]
    · have := yy_tkl (c := c) (kd := kd) (pa := pa) (sz := sz) (it := it) (ln := ln) (mk := mk) (os := os) (cs := cs) (cm := cm) (post := post) (by omega) (by omega) s24 hi h (sz p - 1 - i) i (by omega) (Nat.le_refl i)
      rw [mv_l0] at this
      exact this
end
end
section
/-! Y: putIn, movePlaces, exchange, the loops of replace, split and join -/
section
variable {c : Nat} {kd pa sz it pn po : Nat → Nat} {ln : Int32} {mk os cs cm : Nat → Int32}
theorem yy_p57 {post : SY → Prop} {n p i s : Nat} (hn : n < 24) (hp : p < 24) (hs : s < 24) (hi : i ≤ s) (hsz : sz p = s)
    (h : post (nI c, ln, ar_n kd, ar_p (st_u pa n (p + 1)), ar_n (st_u sz p (s + 1)), ar_n (st_u (mv_r it (24 * p) i s 1) (24 * p + i) n), ar_n pn, ar_n po, mk, os, cs, cm)) :
    ∀ d k, k = i + d → k ≤ s → wY_putIn_57 post (nI p) (nI n) (nI i) (nI c) ln (d + 1) (nI k) (ar_n kd) (ar_p pa) (ar_n sz) (ar_n (mv_r it (24 * p) k s 1)) (ar_n pn) (ar_n po) mk os cs cm := by
  intro d
  induction d with
  | zero =>
    intro k hk hks
    obtain rfl : k = i := by omega
    refine br_t (nI_le (by omega) (by omega)) ?_
    rw [ix_y]
    refine in_c (vp_in_nI (by omega) (by omega)) (nm_r (show upd (ar_n (mv_r it (24 * p) k s 1)) (nI (24 * p + k)).toNatClampNeg (nI n) = _ by rw [nI_clamp (by omega), ar_nu]) (in_c (vp_in_nI hp (by omega)) (in_c (vp_in_nI hp (by omega)) (nm_r (e' := ar_n (st_u sz p (s + 1))) ?_ (in_c (vp_in_nI hn (by omega)) (nm_r (show upd (ar_p pa) (nI n).toNatClampNeg (nI p) = _ by rw [nI_clamp (by omega), ar_pq]) h))))))
    rw [ar_nc _ (by omega), nI_clamp (by omega), nI_1, hsz, ar_nu]
  | succ d ih =>
    intro k hk hks
    obtain ⟨k, rfl⟩ : ∃ j, k = j + 1 := ⟨k - 1, by omega⟩
    refine br_f (nI_ge (by omega) (by omega)) ?_
    rw [ix_y, show nI (24 * p + (k + 1)) - 1 = nI (24 * p + k) from pk_sub (b := 1) (by omega)]
    refine in_c (vp_in_nI (by omega) (by omega)) (in_c (vp_in_nI (by omega) (by omega)) (nm_r ?_ (nm_r (pk_m1 k) (ih k (by omega) (by omega)))))
    rw [ar_nc _ (by omega), nI_clamp (by omega), mv_rk, ar_nu, show 24 * p + (k + 1) = 24 * p + k + 1 by omega, mv_rs it (by omega)]
theorem yy_p3 {post : SY → Prop} {n p i : Nat} (T : tr_T c kd pa sz it) (V : ∀ k, k < 8 → pl_ok c sz (pn k) (po k)) (hn : n < c) (hp : p < c) (hs : sz p + 1 ≤ 24) (hi : i ≤ sz p)
    (h : post (nI c, ln, ar_n kd, ar_p (st_u pa n (p + 1)), ar_n (st_u sz p (sz p + 1)), ar_n (st_u (mv_r it (24 * p) i (sz p) 1) (24 * p + i) n), ar_n (mp_n (pl_pt p i) pn po), ar_n (mp_o (pl_pt p i) pn po), mk, os, cs, cm)) :
    ∀ d k, k + d = 8 → wY_putIn_3 post (nI p) (nI n) (nI i) (nI c) ln (d + 1) (nI k) (ar_n kd) (ar_p pa) (ar_n sz) (ar_n it) (ar_n (mq_n (pl_pt p i) pn po k)) (ar_n (mq_o (pl_pt p i) pn po k)) mk os cs cm := by
  have c24 := tr_c24 T
  have b8 := pl_sm8 T V
  intro d
  induction d with
  | zero =>
    intro k hk
    obtain rfl : k = 8 := by omega
    refine br_t (nI_le (a := 8) (by omega) (by omega)) (in_c (vp_in_nI (by omega) (by omega)) (nm_r (ar_nc sz (by omega)) ⟨sz p - i + 1, ?_⟩))
    have := yy_p57 (c := c) (kd := kd) (pa := pa) (sz := sz) (it := it) (pn := mp_n (pl_pt p i) pn po) (po := mp_o (pl_pt p i) pn po) (ln := ln) (mk := mk) (os := os) (cs := cs) (cm := cm) (post := post) (by omega) (by omega) (by omega) hi rfl h (sz p - i) (sz p) (by omega) (Nat.le_refl _)
    rw [mv_r0] at this
    exact this
  | succ d ih =>
    intro k hk
    have h8 : k < 8 := by omega
    have hb := b8 k h8
    have hi8 : vp_in (nI k) 8 := vp_in_nI h8 (by omega)
    have nx := ih (k + 1) (by omega)
    have skip : ¬ (pn k = p ∧ i < po k) → wY_putIn_3 post (nI p) (nI n) (nI i) (nI c) ln (d + 1) (nI (k + 1)) (ar_n kd) (ar_p pa) (ar_n sz) (ar_n it) (ar_n (mq_n (pl_pt p i) pn po k)) (ar_n (mq_o (pl_pt p i) pn po k)) mk os cs cm := by
      intro y
      rw [mq_nu (F := pl_pt p i) (pn := pn) (po := po) (k := k) (by unfold pl_pt; rw [if_neg y]), mq_ou (F := pl_pt p i) (pn := pn) (po := po) (k := k) (by unfold pl_pt; rw [if_neg y])]
      exact nx
    refine br_f (nI_ge (b := 8) h8 (by omega)) (in_c hi8 (cb_i (d := pn k = p) ?_ (fun e => in_c hi8 ?_) fun e => nm_r (nI_1 k) (skip (fun q => e q.1))))
    · rw [ar_nc _ (by omega), mq_nk, nI_eq (by omega) (by omega)]
    · rw [ar_nc _ (by omega), mq_ok]
      refine cb_i (nI_leI (by omega) (by omega)) (fun l => nm_r (nI_1 k) (skip (by omega))) (fun l => in_c hi8 (in_c hi8 (nm_r (e' := ar_n (mq_o (pl_pt p i) pn po (k + 1))) ?_ (nm_r (nI_1 k) ?_))))
      · rw [nI_clamp (by omega), nI_1, ar_nu, mq_os (by unfold pl_pt; rw [if_pos ⟨e, by omega⟩])]
      · rw [mq_nu (F := pl_pt p i) (pn := pn) (po := po) (k := k) (by unfold pl_pt; rw [if_pos ⟨e, by omega⟩])]
        exact nx
theorem yy_putIn {post : SY → Prop} {n p i : Nat} (T : tr_T c kd pa sz it) (V : ∀ k, k < 8 → pl_ok c sz (pn k) (po k)) (hn : n < c) (hp : p < c) (hs : sz p + 1 ≤ 24) (hi : i ≤ sz p)
    (h : post (nI c, ln, ar_n kd, ar_p (st_u pa n (p + 1)), ar_n (st_u sz p (sz p + 1)), ar_n (st_u (mv_r it (24 * p) i (sz p) 1) (24 * p + i) n), ar_n (mp_n (pl_pt p i) pn po), ar_n (mp_o (pl_pt p i) pn po), mk, os, cs, cm)) : wpY_putIn post (nI c, ln, ar_n kd, ar_p pa, ar_n sz, ar_n it, ar_n pn, ar_n po, mk, os, cs, cm) (nI p) (nI n) (nI i) := by
  refine ⟨9, ?_⟩
  have := yy_p3 T V hn hp hs hi h 8 0 rfl
  rw [mq_n0, mq_o0] at this
  exact this
theorem yy_m3 {post : SY → Prop} {nd lo hi : Nat} {x4 x5 : Int32} (F : Nat → Nat → Nat × Nat) (hb : ∀ k, k < 8 → pn k < 24 ∧ po k < 25) (hnd : nd < 24) (hlo : lo < 100) (hhi : hi < 100)
    (hF : ∀ k, k < 8 → (pn k = nd ∧ lo ≤ po k ∧ po k ≤ hi → nI (F (pn k) (po k)).1 = x4 ∧ nI (F (pn k) (po k)).2 = nI (po k) + x5) ∧ (¬ (pn k = nd ∧ lo ≤ po k ∧ po k ≤ hi) → F (pn k) (po k) = (pn k, po k)))
    (h : post (nI c, ln, ar_n kd, ar_p pa, ar_n sz, ar_n it, ar_n (mp_n F pn po), ar_n (mp_o F pn po), mk, os, cs, cm)) :
    ∀ d k, k + d = 8 → wY_movePlaces_3 post (nI nd) (nI lo) (nI hi) x4 x5 (nI c) ln (d + 1) (nI k) (ar_n kd) (ar_p pa) (ar_n sz) (ar_n it) (ar_n (mq_n F pn po k)) (ar_n (mq_o F pn po k)) mk os cs cm := by
  intro d
  induction d with
  | zero =>
    intro k hk
    obtain rfl : k = 8 := by omega
    exact br_t (nI_le (a := 8) (by omega) (by omega)) h
  | succ d ih =>
    intro k hk
    have h8 : k < 8 := by omega
    have hbk := hb k h8
    have hi8 : vp_in (nI k) 8 := vp_in_nI h8 (by omega)
    have nx := ih (k + 1) (by omega)
    have skip : ¬ (pn k = nd ∧ lo ≤ po k ∧ po k ≤ hi) → wY_movePlaces_3 post (nI nd) (nI lo) (nI hi) x4 x5 (nI c) ln (d + 1) (nI (k + 1)) (ar_n kd) (ar_p pa) (ar_n sz) (ar_n it) (ar_n (mq_n F pn po k)) (ar_n (mq_o F pn po k)) mk os cs cm := by
      intro y
      have e := (hF k h8).2 y
      rw [mq_nu (F := F) (pn := pn) (po := po) (k := k) (by rw [e]), mq_ou (F := F) (pn := pn) (po := po) (k := k) (by rw [e])]
      exact nx
    refine br_f (nI_ge (b := 8) h8 (by omega)) (in_c hi8 (cb_i (d := pn k = nd) ?_ (fun e => in_c hi8 ?_) fun e => nm_r (nI_1 k) (skip (fun q => e q.1))))
    · rw [ar_nc _ (by omega), mq_nk, nI_eq (by omega) (by omega)]
    · rw [ar_nc _ (by omega), mq_ok]
      refine cb_i (nI_ltI (by omega) (by omega)) (fun l => nm_r (nI_1 k) (skip (by omega))) (fun l => in_c hi8 (cb_i (nI_ltI (by omega) (by omega)) (fun l => nm_r (nI_1 k) (skip (by omega))) (fun l2 => ?_)))
      have e2 := (hF k h8).1 ⟨e, by omega, by omega⟩
      refine in_c hi8 (nm_r (e' := ar_n (mq_n F pn po (k + 1))) ?_ (in_c hi8 (in_c hi8 (nm_r (e' := ar_n (mq_o F pn po (k + 1))) ?_ (nm_r (nI_1 k) nx)))))
      · rw [nI_clamp (by omega), ← e2.1, ar_nu, mq_ns rfl]
      · rw [nI_clamp (by omega), ← e2.2, ar_nu, mq_os rfl]
theorem yy_movePlaces {post : SY → Prop} {nd lo hi : Nat} {x4 x5 : Int32} (F : Nat → Nat → Nat × Nat) (hb : ∀ k, k < 8 → pn k < 24 ∧ po k < 25) (hnd : nd < 24) (hlo : lo < 100) (hhi : hi < 100)
    (hF : ∀ k, k < 8 → (pn k = nd ∧ lo ≤ po k ∧ po k ≤ hi → nI (F (pn k) (po k)).1 = x4 ∧ nI (F (pn k) (po k)).2 = nI (po k) + x5) ∧ (¬ (pn k = nd ∧ lo ≤ po k ∧ po k ≤ hi) → F (pn k) (po k) = (pn k, po k)))
    (h : post (nI c, ln, ar_n kd, ar_p pa, ar_n sz, ar_n it, ar_n (mp_n F pn po), ar_n (mp_o F pn po), mk, os, cs, cm)) : wpY_movePlaces post (nI c, ln, ar_n kd, ar_p pa, ar_n sz, ar_n it, ar_n pn, ar_n po, mk, os, cs, cm) (nI nd) (nI lo) (nI hi) x4 x5 := by
  refine ⟨9, ?_⟩
  have := yy_m3 F hb hnd hlo hhi hF h 8 0 rfl
  rw [mq_n0, mq_o0] at this
  exact this
theorem yy_e148 {post : SY → Prop} {t a g k m : Nat} (ht : t < 24) (hs : a + g + m ≤ 24) (hkg : k ≤ g)
    (h : wY_exchange_194 post (nI t) (nI a) (nI k) (nI m) (nI c) ln (ar_n kd) (ar_p pa) (ar_n sz) (ar_n (mv_l it (24 * t) (a + g) (a + g + m) (g - k))) (ar_n pn) (ar_n po) mk os cs cm) :
    ∀ d j, j + d = m → wY_exchange_148 post (nI t) (nI a) (nI g) (nI k) (nI m) (nI c) ln (d + 1) (nI j) (ar_n kd) (ar_p pa) (ar_n sz) (ar_n (mv_l it (24 * t) (a + g) (a + g + j) (g - k))) (ar_n pn) (ar_n po) mk os cs cm := by
  intro d
  induction d with
  | zero =>
    intro j hj
    obtain rfl : j = m := by omega
    exact br_t (nI_le (by omega) (by omega)) h
  | succ d ih =>
    intro j hj
    refine br_f (nI_ge (by omega) (by omega)) ?_
    rw [ix_y, nI_add, nI_add, nI_add, nI_add]
    refine in_c (vp_in_nI (by omega) (by omega)) (in_c (vp_in_nI (by omega) (by omega)) (nm_r ?_ (nm_r (nI_1 j) (ih (j + 1) (by omega)))))
    rw [ar_nc _ (by omega), nI_clamp (by omega), show 24 * t + a + g + j = 24 * t + (a + g + j) by omega, mv_lk, ar_nu, show 24 * t + a + k + j = 24 * t + (a + g + j) - (g - k) by omega, mv_ls it (by omega) (by omega)]
    rfl
theorem yy_e98 {post : SY → Prop} {t a g k m : Nat} (ht : t < 24) (hs : a + k + m ≤ 24) (hkg : g < k)
    (h : wY_exchange_194 post (nI t) (nI a) (nI k) (nI m) (nI c) ln (ar_n kd) (ar_p pa) (ar_n sz) (ar_n (mv_r it (24 * t) (a + g) (a + g + m) (k - g))) (ar_n pn) (ar_n po) mk os cs cm) :
    ∀ j, j ≤ m → wY_exchange_98 post (nI t) (nI a) (nI g) (nI k) (nI m) (nI c) ln (j + 1) (nI j - 1) (ar_n kd) (ar_p pa) (ar_n sz) (ar_n (mv_r it (24 * t) (a + g + j) (a + g + m) (k - g))) (ar_n pn) (ar_n po) mk os cs cm := by
  intro j
  induction j with
  | zero =>
    intro hj
    exact br_t (by decide) h
  | succ j ih =>
    intro hj
    refine br_f (by rw [ar_neg (by omega)]; omega) ?_
    rw [nI_pred, ix_y, nI_add, nI_add, nI_add, nI_add]
    refine in_c (vp_in_nI (by omega) (by omega)) (in_c (vp_in_nI (by omega) (by omega)) (nm_r ?_ (nm_r (nj_d1 j) (ih (by omega)))))
    rw [ar_nc _ (by omega), nI_clamp (by omega), show 24 * t + a + g + j = 24 * t + (a + g + j) by omega, show a + g + (j + 1) = a + g + j + 1 by omega, mv_rk, ar_nu, show 24 * t + a + k + j = 24 * t + (a + g + j) + (k - g) by omega, mv_rs it (by omega)]
theorem yy_e3 {post : SY → Prop} {t a g k : Nat} (T : tr_T c kd pa sz it) (V : ∀ k, k < 8 → pl_ok c sz (pn k) (po k)) (ht : t < c) (ha : a + g ≤ sz t) (hk : sz t + k - g ≤ 12) (s12 : sz t ≤ 12) (hk4 : k ≤ 4)
    (h : post (nI c, ln, ar_n kd, ar_p pa, ar_n (st_u sz t (sz t + k - g)), ar_n (ex_i it t a g k (sz t)), ar_n (mp_n (pl_ex t (ex_g a g k)) pn po), ar_n (mp_o (pl_ex t (ex_g a g k)) pn po), mk, os, cs, cm)) :
    ∀ d j, j + d = 8 → wY_exchange_3 post (nI t) (nI a) (nI g) (nI k) (nI c) ln (d + 1) (nI j) (ar_n kd) (ar_p pa) (ar_n sz) (ar_n it) (ar_n (mq_n (pl_ex t (ex_g a g k)) pn po j)) (ar_n (mq_o (pl_ex t (ex_g a g k)) pn po j)) mk os cs cm := by
  have c24 := tr_c24 T
  have b8 := pl_sm8 T V
  have ht24 : vp_in (nI t) 24 := vp_in_nI (by omega) (by omega)
  intro d
  induction d with
  | zero =>
    intro j hj
    obtain rfl : j = 8 := by omega
    refine br_t (nI_le (a := 8) (by omega) (by omega)) (in_c ht24 (nm_r (e' := nI (sz t - a - g)) ?_ ?_))
    · rw [ar_nc _ (by omega), pk_sub (by omega), pk_sub (by omega)]
    · have fin : ∀ it', post (nI c, ln, ar_n kd, ar_p pa, ar_n (st_u sz t (sz t + k - g)), ar_n it', ar_n (mp_n (pl_ex t (ex_g a g k)) pn po), ar_n (mp_o (pl_ex t (ex_g a g k)) pn po), mk, os, cs, cm) → wY_exchange_194 post (nI t) (nI a) (nI k) (nI (sz t - a - g)) (nI c) ln (ar_n kd) (ar_p pa) (ar_n sz) (ar_n it') (ar_n (mp_n (pl_ex t (ex_g a g k)) pn po)) (ar_n (mp_o (pl_ex t (ex_g a g k)) pn po)) mk os cs cm := by
        intro it' h
        refine in_c ht24 (nm_r (e' := ar_n (st_u sz t (sz t + k - g))) ?_ h)
        rw [nI_clamp (by omega), nI_add, nI_add, ar_nu, show a + k + (sz t - a - g) = sz t + k - g by omega]
      have es : a + g + (sz t - a - g) = sz t := by omega
      unfold ex_i at h
      by_cases l : k ≤ g
      · rw [if_pos l] at h
        refine br_t (nI_le l (by omega)) ⟨sz t - a - g + 1, ?_⟩
        have := yy_e148 (c := c) (kd := kd) (pa := pa) (sz := sz) (it := it) (pn := mp_n (pl_ex t (ex_g a g k)) pn po) (po := mp_o (pl_ex t (ex_g a g k)) pn po) (ln := ln) (mk := mk) (os := os) (cs := cs) (cm := cm) (post := post) (t := t) (a := a) (g := g) (k := k) (m := sz t - a - g) (by omega) (by omega) l (fin _ (by rw [es]; exact h)) (sz t - a - g) 0 (by omega)
        rw [show a + g + 0 = a + g from rfl, mv_l0] at this
        exact this
      · rw [if_neg l] at h
        refine br_f (nI_ge (by omega) (by omega)) (nm_e ⟨sz t - a - g + 1, ?_⟩)
        have := yy_e98 (c := c) (kd := kd) (pa := pa) (sz := sz) (it := it) (pn := mp_n (pl_ex t (ex_g a g k)) pn po) (po := mp_o (pl_ex t (ex_g a g k)) pn po) (ln := ln) (mk := mk) (os := os) (cs := cs) (cm := cm) (post := post) (t := t) (a := a) (g := g) (k := k) (m := sz t - a - g) (by omega) (by omega) (by omega) (fin _ (by rw [es]; exact h)) (sz t - a - g) (Nat.le_refl _)
        rw [mv_r0] at this
        exact this
  | succ d ih =>
    intro j hj
    have h8 : j < 8 := by omega
    have hb := b8 j h8
    have hi8 : vp_in (nI j) 8 := vp_in_nI h8 (by omega)
    have nx := ih (j + 1) (by omega)
    have n1 : (pl_ex t (ex_g a g k) (pn j) (po j)).1 = pn j := by
      unfold pl_ex
      split
      · rename_i e; exact e.symm
      · rfl
    have o1 : pn j = t → (pl_ex t (ex_g a g k) (pn j) (po j)).2 = ex_g a g k (po j) := by
      intro e
      unfold pl_ex
      rw [if_pos e]
    have skip : (pl_ex t (ex_g a g k) (pn j) (po j)).2 = po j → wY_exchange_3 post (nI t) (nI a) (nI g) (nI k) (nI c) ln (d + 1) (nI (j + 1)) (ar_n kd) (ar_p pa) (ar_n sz) (ar_n it) (ar_n (mq_n (pl_ex t (ex_g a g k)) pn po j)) (ar_n (mq_o (pl_ex t (ex_g a g k)) pn po j)) mk os cs cm := by
      intro y
      rw [mq_nu (F := pl_ex t (ex_g a g k)) (pn := pn) (po := po) (k := j) n1, mq_ou (F := pl_ex t (ex_g a g k)) (pn := pn) (po := po) (k := j) y]
      exact nx
    have st : ∀ q, (pl_ex t (ex_g a g k) (pn j) (po j)).2 = q → ∀ b, b = upd (ar_n (mq_o (pl_ex t (ex_g a g k)) pn po j)) (nI j).toNatClampNeg (nI q) → ∀ x, x = nI j + 1 → wY_exchange_3 post (nI t) (nI a) (nI g) (nI k) (nI c) ln (d + 1) x (ar_n kd) (ar_p pa) (ar_n sz) (ar_n it) (ar_n (mq_n (pl_ex t (ex_g a g k)) pn po j)) (b) mk os cs cm := by
      intro q e b eb x ex
      rw [nI_clamp (by omega), ar_nu, mq_os e] at eb
      rw [eb, ex, nI_1, mq_nu (F := pl_ex t (ex_g a g k)) (pn := pn) (po := po) (k := j) n1]
      exact nx
    refine br_f (nI_ge (b := 8) h8 (by omega)) (in_c hi8 (cb_i (d := pn j = t) ?_ (fun e => in_c hi8 ?_) fun e => nm_r (nI_1 j) (skip ?_)))
    · rw [ar_nc _ (by omega), mq_nk, nI_eq (by omega) (by omega)]
    · rw [nI_add a g, ar_nc _ (by omega : j < 2 ^ 31), mq_ok]
      refine cb_i (nI_leI (by omega) (by omega)) (fun l => nm_r (nI_1 j) (skip ?_)) (fun l => in_c hi8 (cb_i (nI_ltI (by omega) (by omega)) (fun l2 => in_c hi8 (in_c hi8 ?_)) (fun l2 => in_c hi8 ?_)))
      · rw [o1 e]; unfold ex_g; rw [if_pos l]
      · rw [nI_add, pk_sub (by omega)]
        exact st _ (by rw [o1 e]; unfold ex_g; rw [if_neg l, if_neg (by omega)])
      · exact st _ (by rw [o1 e]; unfold ex_g; rw [if_neg l, if_pos (by omega)])
    · unfold pl_ex; rw [if_neg e]
theorem yy_exchange {post : SY → Prop} {t a g k : Nat} (T : tr_T c kd pa sz it) (V : ∀ k, k < 8 → pl_ok c sz (pn k) (po k)) (ht : t < c) (ha : a + g ≤ sz t) (hk : sz t + k - g ≤ 12) (s12 : sz t ≤ 12) (hk4 : k ≤ 4)
    (h : post (nI c, ln, ar_n kd, ar_p pa, ar_n (st_u sz t (sz t + k - g)), ar_n (ex_i it t a g k (sz t)), ar_n (mp_n (pl_ex t (ex_g a g k)) pn po), ar_n (mp_o (pl_ex t (ex_g a g k)) pn po), mk, os, cs, cm)) : wpY_exchange post (nI c, ln, ar_n kd, ar_p pa, ar_n sz, ar_n it, ar_n pn, ar_n po, mk, os, cs, cm) (nI t) (nI a) (nI g) (nI k) := by
  refine ⟨9, ?_⟩
  have := yy_e3 T V ht ha hk s12 hk4 h 8 0 rfl
  rw [mq_n0, mq_o0] at this
  exact this
theorem yy_dgl {post : Int32 → SY → Prop} {t a : Nat} (ht : t < 24) : ∀ k d (it : Nat → Nat), a + k ≤ 24 → d < 10000 → post (nI (sz t)) (nI c, ln, ar_n kd, ar_p pa, ar_n sz, ar_n (dg_w k (24 * t + a) d it), ar_n pn, ar_n po, mk, os, cs, cm) → wY_replace_160 post (nI t) (nI a) (nI c) ln (k + 1) (nI d) (nI k - 1) (ar_n kd) (ar_p pa) (ar_n sz) (ar_n it) (ar_n pn) (ar_n po) mk os cs cm := by
  intro k
  induction k with
  | zero => intro d it _ _ hp; exact br_t (by decide) (in_c (vp_in_nI ht (by omega)) (by rw [ar_nc _ (by omega)]; exact hp))
  | succ k ih =>
    intro d it ha hd hp
    refine br_f (by rw [ar_neg (by omega)]; omega) (And.intro (by decide) ?_)
    rw [nI_pred, ix_y, nI_add]
    refine in_c (vp_in_nI (by omega) (by omega)) (nm_r (e' := ar_n (st_u it (24 * t + a + k) (d % 10))) ?_ (And.intro (by decide) (nm_r (e' := nI (d / 10)) ?_ (nm_r (nj_d1 k) (ih (d / 10) _ (by omega) (by omega) hp)))))
    · rw [nI_clamp (by omega), show (10 : Int32) = nI 10 from rfl, pk_rem (by omega) (by omega) (by omega), ar_nu]
    · rw [show (10 : Int32) = nI 10 from rfl, pk_div (by omega) (by omega) (by omega)]
/-- split: the letters -/
theorem yy_s174 {post : Int32 → SY → Prop} {t o f m : Nat} (ht : t < 24) (hf : f < 24) (ne : t ≠ f) (hm : o + m ≤ 24) (hsz : sz f = m)
    (h : post (nI f) (nI c, ln, ar_n kd, ar_p pa, ar_n (st_u sz t o), ar_n (cp_i it (24 * t + o) (24 * f) m), ar_n pn, ar_n po, mk, os, cs, cm)) :
    ∀ d j, j + d = m → wY_split_174 post (nI t) (nI o) (nI f) (nI c) ln (d + 1) (nI j) (ar_n kd) (ar_p pa) (ar_n sz) (ar_n (cp_i it (24 * t + o) (24 * f) j)) (ar_n pn) (ar_n po) mk os cs cm := by
  intro d
  induction d with
  | zero =>
    intro j hj
    obtain rfl : j = m := by omega
    refine in_c (vp_in_nI hf (by omega)) (br_t ?_ (in_c (vp_in_nI ht (by omega)) (nm_r (show upd (ar_n sz) (nI t).toNatClampNeg (nI o) = _ by rw [nI_clamp (by omega), ar_nu]) h)))
    rw [ar_nc _ (by omega), hsz, nI_leI (by omega) (by omega)]; omega
  | succ d ih =>
    intro j hj
    refine in_c (vp_in_nI hf (by omega)) (br_f ?_ ?_)
    · rw [ar_nc _ (by omega), hsz, nI_leI (by omega) (by omega)]; omega
    · rw [ix_y, ix_y, nI_add]
      refine in_c (vp_in_nI (by omega) (by omega)) (in_c (vp_in_nI (by omega) (by omega)) (nm_r ?_ (nm_r (nI_1 j) (ih (j + 1) (by omega)))))
      rw [ar_nc _ (by omega), nI_clamp (by omega), cp_k it (by omega), ar_nu, cp_s]
def sp_0 (t o v q : Nat) : Nat × Nat := if v = t ∧ o < q then (t, o) else (v, q)
theorem yy_s104 {post : Int32 → SY → Prop} {t o f : Nat} (b8 : ∀ k, k < 8 → pn k < 24 ∧ po k < 25) (c24 : c ≤ 24) (s24 : sz t < 24) (ht : t < c) (hf : f < c) (ne : t ≠ f) (ho : o ≤ sz t)
    (h : post (nI f) (nI c, ln, ar_n kd, ar_p pa, ar_n (st_u (st_u sz f (sz t - o)) t o), ar_n (cp_i it (24 * t + o) (24 * f) (sz t - o)), ar_n (mp_n (sp_0 t o) pn po), ar_n (mp_o (sp_0 t o) pn po), mk, os, cs, cm)) :
    ∀ d k, k + d = 8 → wY_split_104 post (nI t) (nI o) (nI f) (nI c) ln (d + 1) (nI k) (ar_n kd) (ar_p pa) (ar_n sz) (ar_n it) (ar_n (mq_n (sp_0 t o) pn po k)) (ar_n (mq_o (sp_0 t o) pn po k)) mk os cs cm := by
  have n1 : ∀ v q, (sp_0 t o v q).1 = v := by
    intro v q; unfold sp_0; split
    · rename_i e; exact e.1.symm
    · rfl
  intro d
  induction d with
  | zero =>
    intro k hk
    obtain rfl : k = 8 := by omega
    refine br_t (nI_le (a := 8) (by omega) (by omega)) (in_c (vp_in_nI (by omega) (by omega)) (in_c (vp_in_nI (by omega) (by omega)) (nm_r (e' := ar_n (st_u sz f (sz t - o))) ?_ ⟨sz t - o + 1, ?_⟩)))
    · rw [ar_nc _ (by omega), nI_clamp (by omega), pk_sub ho, ar_nu]
    · have := yy_s174 (c := c) (kd := kd) (pa := pa) (sz := st_u sz f (sz t - o)) (it := it) (pn := mp_n (sp_0 t o) pn po) (po := mp_o (sp_0 t o) pn po) (ln := ln) (mk := mk) (os := os) (cs := cs) (cm := cm) (post := post) (t := t) (o := o) (f := f) (m := sz t - o) (by omega) (by omega) ne (by omega) (st_us _ _ _) h (sz t - o) 0 (by omega)
      rw [cp_0] at this
      exact this
  | succ d ih =>
    intro k hk
    have h8 : k < 8 := by omega
    have hb := b8 k h8
    have hi8 : vp_in (nI k) 8 := vp_in_nI h8 (by omega)
    have nx := ih (k + 1) (by omega)
    have st : ∀ q, (sp_0 t o (pn k) (po k)).2 = q → ∀ b, b = upd (ar_n (mq_o (sp_0 t o) pn po k)) (nI k).toNatClampNeg (nI q) → ∀ x, x = nI k + 1 → wY_split_104 post (nI t) (nI o) (nI f) (nI c) ln (d + 1) x (ar_n kd) (ar_p pa) (ar_n sz) (ar_n it) (ar_n (mq_n (sp_0 t o) pn po k)) (b) mk os cs cm := by
      intro q e b eb x ex
      rw [nI_clamp (by omega), ar_nu, mq_os e] at eb
      rw [eb, ex, nI_1, mq_nu (F := sp_0 t o) (pn := pn) (po := po) (k := k) (n1 _ _)]
      exact nx
    refine br_f (nI_ge (b := 8) h8 (by omega)) (in_c hi8 (cb_i (d := pn k = t) ?_ (fun e => in_c hi8 ?_) fun e => in_c hi8 (in_c hi8 ?_)))
    · rw [ar_nc _ (by omega), mq_nk, nI_eq (by omega) (by omega)]
    · rw [ar_nc _ (by omega : k < 2 ^ 31), mq_ok]
      refine cb_i (nI_leI (by omega) (by omega)) (fun l => in_c hi8 (in_c hi8 ?_)) (fun l => in_c hi8 ?_)
      · exact st _ (by unfold sp_0; rw [if_neg (by omega)])
      · exact st _ (by unfold sp_0; rw [if_pos (by omega)])
    · rw [ar_nc _ (by omega : k < 2 ^ 31), mq_ok]
      exact st _ (by unfold sp_0; rw [if_neg (by omega)])
theorem yy_split104 {post : Int32 → SY → Prop} {t o f : Nat} (b8 : ∀ k, k < 8 → pn k < 24 ∧ po k < 25) (c24 : c ≤ 24) (s24 : sz t < 24) (ht : t < c) (hf : f < c) (ne : t ≠ f) (ho : o ≤ sz t)
    (h : post (nI f) (nI c, ln, ar_n kd, ar_p pa, ar_n (st_u (st_u sz f (sz t - o)) t o), ar_n (cp_i it (24 * t + o) (24 * f) (sz t - o)), ar_n (mp_n (sp_0 t o) pn po), ar_n (mp_o (sp_0 t o) pn po), mk, os, cs, cm)) :
    ∃ n104 : Nat, wY_split_104 post (nI t) (nI o) (nI f) (nI c) ln n104 0 (ar_n kd) (ar_p pa) (ar_n sz) (ar_n it) (ar_n pn) (ar_n po) mk os cs cm := by
  refine ⟨9, ?_⟩
  have := yy_s104 b8 c24 s24 ht hf ne ho h 8 0 rfl
  rw [mq_n0, mq_o0] at this
  exact this
/-- join: the letters; then s is taken out -/
theorem yy_j135 {post : Int32 → SY → Prop} {t s m : Nat} (ht : t < 24) (hs : s < 24) (ne : s ≠ t) (hm : m + sz s ≤ 24)
    (h : wpY_takeOut (fun _ u => post (nI s) u) (nI c, ln, ar_n kd, ar_p pa, ar_n (st_u (st_u sz t (m + sz s)) s 0), ar_n (cp_i it (24 * s) (24 * t + m) (sz s)), ar_n pn, ar_n po, mk, os, cs, cm) (nI s)) :
    ∀ d j, j + d = sz s → wY_join_135 post (nI t) (nI s) (nI m) (nI c) ln (d + 1) (nI j) (ar_n kd) (ar_p pa) (ar_n sz) (ar_n (cp_i it (24 * s) (24 * t + m) j)) (ar_n pn) (ar_n po) mk os cs cm := by
  intro d
  induction d with
  | zero =>
    intro j hj
    obtain rfl : j = sz s := by omega
    refine in_c (vp_in_nI hs (by omega)) (br_t ?_ (in_c (vp_in_nI hs (by omega)) (in_c (vp_in_nI ht (by omega)) (nm_r (e' := ar_n (st_u sz t (m + sz s))) ?_ (in_c (vp_in_nI hs (by omega)) (nm_r (show upd (ar_n (st_u sz t (m + sz s))) (nI s).toNatClampNeg (nI 0) = _ by rw [nI_clamp (by omega), ar_nu]) h))))))
    · rw [ar_nc _ (by omega), nI_leI (by omega) (by omega)]; omega
    · rw [ar_nc _ (by omega), nI_clamp (by omega), nI_add, ar_nu]
  | succ d ih =>
    intro j hj
    refine in_c (vp_in_nI hs (by omega)) (br_f ?_ ?_)
    · rw [ar_nc _ (by omega), nI_leI (by omega) (by omega)]; omega
    · rw [ix_y, ix_y, nI_add]
      refine in_c (vp_in_nI (by omega) (by omega)) (in_c (vp_in_nI (by omega) (by omega)) (nm_r ?_ (nm_r (nI_1 j) (ih (j + 1) (by omega)))))
      rw [ar_nc _ (by omega), nI_clamp (by omega), cp_k it (by omega), ar_nu, cp_s]
theorem yy_join135 {post : Int32 → SY → Prop} {t s m : Nat} (ht : t < 24) (hs : s < 24) (ne : s ≠ t) (hm : m + sz s ≤ 24)
    (h : wpY_takeOut (fun _ u => post (nI s) u) (nI c, ln, ar_n kd, ar_p pa, ar_n (st_u (st_u sz t (m + sz s)) s 0), ar_n (cp_i it (24 * s) (24 * t + m) (sz s)), ar_n pn, ar_n po, mk, os, cs, cm) (nI s)) :
    ∃ n135 : Nat, wY_join_135 post (nI t) (nI s) (nI m) (nI c) ln n135 0 (ar_n kd) (ar_p pa) (ar_n sz) (ar_n it) (ar_n pn) (ar_n po) mk os cs cm := by
  refine ⟨sz s + 1, ?_⟩
  have := yy_j135 ht hs ne hm h (sz s) 0 (by omega)
  rw [cp_0] at this
  exact this
end
end
section
/-! the relation, the beginning, and the methods that only look -/
def i_Rel (_ : Nat) (u : SX) (v : SY) : Prop := ∃ (c : Nat) (kd pa sz it pn po : Nat → Nat) (sg eg : Int32) (rl rn oa ca il dm : Nat → Int32) (ln : Int32) (mk os cs cm : Nat → Int32), u = (nI c, sg, eg, ar_n kd, ar_p pa, ar_n sz, ar_n it, ar_n pn, ar_n po, rl, rn, oa, ca, il, dm) ∧ v = (nI c, ln, ar_n kd, ar_p pa, ar_n sz, ar_n it, ar_n pn, ar_n po, mk, os, cs, cm) ∧ tr_T c kd pa sz it ∧ pl_P c kd pa sz it pn po
theorem i_up {k : Nat} {u : SX} {v : SY} (h : i_Rel k u v) : i_Rel (k + 5) u v := h
theorem rel_mk {k c : Nat} {kd pa sz it pn po : Nat → Nat} {sg eg : Int32} {rl rn oa ca il dm : Nat → Int32} {ln : Int32} {mk os cs cm : Nat → Int32} (T : tr_T c kd pa sz it) (P : pl_P c kd pa sz it pn po) : i_Rel k (nI c, sg, eg, ar_n kd, ar_p pa, ar_n sz, ar_n it, ar_n pn, ar_n po, rl, rn, oa, ca, il, dm) (nI c, ln, ar_n kd, ar_p pa, ar_n sz, ar_n it, ar_n pn, ar_n po, mk, os, cs, cm) :=
  ⟨c, kd, pa, sz, it, pn, po, sg, eg, rl, rn, oa, ca, il, dm, ln, mk, os, cs, cm, rfl, rfl, T, P⟩
def ini_p (j : Nat) : Nat := if j = 0 then 0 else 1
theorem ini_T : tr_T 1 (fun _ => 0) ini_p (fun _ => 0) (fun _ => 0) := by
  refine ⟨⟨by omega, by omega⟩, fun _ _ => Nat.zero_le 1, fun _ _ h => absurd h (by show (0 : Nat) ≠ 1; omega), fun _ _ _ _ h => absurd h (Nat.not_lt_zero _), fun _ _ _ _ _ h => absurd h (Nat.not_lt_zero _), ?_, ⟨fun _ => 0, ?_⟩⟩
  · intro n p hn e
    have : n = 0 := by omega
    subst this
    exact absurd e (by unfold ini_p; rw [if_pos rfl]; omega)
  · intro n p hn e
    have : n = 0 := by omega
    subst this
    exact absurd e (by unfold ini_p; rw [if_pos rfl]; omega)
theorem ini_P : pl_P 1 (fun _ => 0) ini_p (fun _ => 0) (fun _ => 0) (fun _ => 0) (fun _ => 0) :=
  ⟨fun _ _ => ⟨Nat.zero_lt_one, Nat.le_refl 0⟩, fun _ _ => pl_Rr ini_T Nat.zero_lt_one⟩
theorem ini_z : (fun _ : Nat => (0 : Int32)) = ar_n (fun _ => 0) := rfl
theorem i_vc0 : wpX_init (fun u => wpY_init (fun v => i_Rel 0 u v)) := by
  have hi : vp_in (0 : Int32) 24 := vp_in_nI (n := 0) (by omega) (by omega)
  have ep : upd (fun _ : Nat => (0 : Int32)) 0 (-1) = ar_p ini_p := by
    funext j
    unfold upd ar_p ini_p
    split
    · decide
    · show (0 : Int32) = nI 1 - 1
      decide
  have ez : upd (fun _ : Nat => (0 : Int32)) (0 : Int32).toNatClampNeg 0 = ar_n (fun _ => 0) := by
    funext j
    unfold upd ar_n
    split <;> rfl
  unfold wpX_init
  refine in_c hi (nm_r ez (in_c hi (nm_r ep (in_c hi (nm_r ez (nm_r (e' := nI 1) (by decide) ?_))))))
  refine nm_r ep ?_
  exact rel_mk (c := 1) (kd := fun _ => 0) (pa := ini_p) (sz := fun _ => 0) (it := fun _ => 0) (pn := fun _ => 0) (po := fun _ => 0) ini_T ini_P
theorem i_vc_nodes {k : Nat} {u : SX} {v : SY} (I : i_Rel k u v) (hk : k + 5 ≤ 2560) : wpX_nodes (fun r => wpY_nodes (fun r' => r' = r ∧ i_Rel (k + 5) u v) v) u := by
  have J := i_up I
  obtain ⟨c, kd, pa, sz, it, pn, po, sg, eg, rl, rn, oa, ca, il, dm, ln, mk, os, cs, cm, rfl, rfl, T, P⟩ := I
  exact ⟨rfl, J⟩
theorem i_vc_kind {k : Nat} {u : SX} {v : SY} (I : i_Rel k u v) (hk : k + 5 ≤ 2560) (v1 : Int32) : wpX_kind (fun r => wpY_kind (fun r' => r' = r ∧ i_Rel (k + 5) u v) v v1) u v1 := by
  have J := i_up I
  obtain ⟨c, kd, pa, sz, it, pn, po, sg, eg, rl, rn, oa, ca, il, dm, ln, mk, os, cs, cm, rfl, rfl, T, P⟩ := I
  have c24 := tr_c24 T
  unfold wpX_kind
  dsimp only
  rcases nd_cases c v1 with ⟨n, hn, rfl⟩ | h
  · refine xx_isNode_t c24 hn (br_f (by decide) (in_c (vp_in_nI (by omega) (by omega)) ?_))
    unfold wpY_kind
    dsimp only
    refine yy_isNode_t c24 hn (br_f (by decide) (in_c (vp_in_nI (by omega) (by omega)) ?_))
    rw [ar_nc _ (by omega)]
    rcases tr_k1 T hn with e | e
    · rw [e]; exact br_t rfl ⟨rfl, J⟩
    · rw [e]; exact br_f (by decide) ⟨rfl, J⟩
  · refine xx_isNode_f c24 h (br_t rfl ?_)
    unfold wpY_kind
    dsimp only
    exact yy_isNode_f c24 h (br_t rfl ⟨rfl, J⟩)
theorem i_vc_size {k : Nat} {u : SX} {v : SY} (I : i_Rel k u v) (hk : k + 5 ≤ 2560) (v1 : Int32) : wpX_size (fun r => wpY_size (fun r' => r' = r ∧ i_Rel (k + 5) u v) v v1) u v1 := by
  have J := i_up I
  obtain ⟨c, kd, pa, sz, it, pn, po, sg, eg, rl, rn, oa, ca, il, dm, ln, mk, os, cs, cm, rfl, rfl, T, P⟩ := I
  have c24 := tr_c24 T
  unfold wpX_size
  dsimp only
  rcases nd_cases c v1 with ⟨n, hn, rfl⟩ | h
  · refine xx_isNode_t c24 hn (br_f (by decide) (in_c (vp_in_nI (by omega) (by omega)) ?_))
    unfold wpY_size
    dsimp only
    exact yy_isNode_t c24 hn (br_f (by decide) (in_c (vp_in_nI (by omega) (by omega)) ⟨rfl, J⟩))
  · refine xx_isNode_f c24 h (br_t rfl ?_)
    unfold wpY_size
    dsimp only
    exact yy_isNode_f c24 h (br_t rfl ⟨rfl, J⟩)
theorem i_vc_parent {k : Nat} {u : SX} {v : SY} (I : i_Rel k u v) (hk : k + 5 ≤ 2560) (v1 : Int32) : wpX_parent (fun r => wpY_parent (fun r' => r' = r ∧ i_Rel (k + 5) u v) v v1) u v1 := by
  have J := i_up I
  obtain ⟨c, kd, pa, sz, it, pn, po, sg, eg, rl, rn, oa, ca, il, dm, ln, mk, os, cs, cm, rfl, rfl, T, P⟩ := I
  have c24 := tr_c24 T
  unfold wpX_parent
  dsimp only
  rcases nd_cases c v1 with ⟨n, hn, rfl⟩ | h
  · have hl := tr_pl T hn
    have hi : vp_in (nI n) 24 := vp_in_nI (by omega) (by omega)
    refine xx_isNode_t c24 hn (br_f (by decide) (in_c hi ?_))
    rw [ar_pc _ (by omega)]
    refine cb_i (ar_no (by omega)) (fun e => ?_) (fun e => in_c hi ?_)
    · unfold wpY_parent
      dsimp only
      refine yy_isNode_t c24 hn (br_f (by decide) (in_c hi ?_))
      rw [ar_pc _ (by omega)]
      exact br_f (by rw [ar_pos (by omega)]; omega) ⟨rfl, J⟩
    · unfold wpY_parent
      dsimp only
      refine yy_isNode_t c24 hn (br_f (by decide) (in_c hi ?_))
      rw [ar_pc _ (by omega)]
      exact br_t (by rw [ar_pos (by omega)]; omega) (in_c hi ⟨rfl, J⟩)
  · refine xx_isNode_f c24 h (br_t rfl ?_)
    unfold wpY_parent
    dsimp only
    exact yy_isNode_f c24 h (br_t rfl ⟨rfl, J⟩)
theorem i_vc_item {k : Nat} {u : SX} {v : SY} (I : i_Rel k u v) (hk : k + 5 ≤ 2560) (v1 : Int32) (v2 : Int32) : wpX_item (fun r => wpY_item (fun r' => r' = r ∧ i_Rel (k + 5) u v) v v1 v2) u v1 v2 := by
  have J := i_up I
  obtain ⟨c, kd, pa, sz, it, pn, po, sg, eg, rl, rn, oa, ca, il, dm, ln, mk, os, cs, cm, rfl, rfl, T, P⟩ := I
  have c24 := tr_c24 T
  unfold wpX_item
  dsimp only
  rcases nd_cases c v1 with ⟨n, hn, rfl⟩ | h
  · have s24 := tr_s24 T hn
    have hi : vp_in (nI n) 24 := vp_in_nI (by omega) (by omega)
    refine xx_isNode_t c24 hn (br_f (by decide) ?_)
    by_cases z : v2 < 0
    · refine br_t z ?_
      unfold wpY_item
      dsimp only
      exact yy_isNode_t c24 hn (br_f (by decide) (br_t z ⟨rfl, J⟩))
    · refine br_f z (in_c hi ?_)
      obtain ⟨j, hj, rfl⟩ := nI_of z
      rw [ar_nc _ (by omega)]
      refine cb_i (nI_ltI hj (by omega)) (fun l => ?_) (fun l => ?_)
      · rw [ix_x]
        refine in_c (vp_in_nI (by omega) (by omega)) ?_
        unfold wpY_item
        dsimp only
        refine yy_isNode_t c24 hn (br_f (by decide) (br_f z (in_c hi ?_)))
        rw [ar_nc _ (by omega), ix_y]
        exact br_f (by rw [nI_leI (by omega) hj]; omega) (in_c (vp_in_nI (by omega) (by omega)) ⟨rfl, J⟩)
      · unfold wpY_item
        dsimp only
        refine yy_isNode_t c24 hn (br_f (by decide) (br_f z (in_c hi ?_)))
        rw [ar_nc _ (by omega)]
        exact br_t (by rw [nI_leI (by omega) hj]; omega) ⟨rfl, J⟩
  · refine xx_isNode_f c24 h (br_t rfl ?_)
    unfold wpY_item
    dsimp only
    exact yy_isNode_f c24 h (br_t rfl ⟨rfl, J⟩)
theorem i_vc_nodeOf {k : Nat} {u : SX} {v : SY} (I : i_Rel k u v) (hk : k + 5 ≤ 2560) (v1 : Int32) (v2 : Int32) : wpX_nodeOf (fun r => wpY_nodeOf (fun r' => r' = r ∧ i_Rel (k + 5) u v) v v1 v2) u v1 v2 := by
  have J := i_up I
  obtain ⟨c, kd, pa, sz, it, pn, po, sg, eg, rl, rn, oa, ca, il, dm, ln, mk, os, cs, cm, rfl, rfl, T, P⟩ := I
  unfold wpX_nodeOf
  dsimp only
  rcases nd_cases 4 v1 with ⟨r, hr, rfl⟩ | h
  · refine xx_isRange_t hr (br_f (by decide) ?_)
    rcases nd_cases 2 v2 with ⟨w, hw, rfl⟩ | h2
    · refine xx_isWhich_t hw (br_f (by decide) ?_)
      rw [ix_2x, nI_add]
      refine in_c (vp_in_nI (by omega) (by omega)) ?_
      unfold wpY_nodeOf
      dsimp only
      refine yy_isPlace_t hr hw (br_f (by decide) ?_)
      rw [ix_2y, nI_add]
      exact in_c (vp_in_nI (by omega) (by omega)) ⟨rfl, J⟩
    · refine xx_isWhich_f h2 (br_t rfl ?_)
      unfold wpY_nodeOf
      dsimp only
      exact yy_isPlace_f2 hr h2 (br_t rfl ⟨rfl, J⟩)
  · refine xx_isRange_f h (br_t rfl ?_)
    unfold wpY_nodeOf
    dsimp only
    exact yy_isPlace_f1 h (br_t rfl ⟨rfl, J⟩)
theorem i_vc_offsetOf {k : Nat} {u : SX} {v : SY} (I : i_Rel k u v) (hk : k + 5 ≤ 2560) (v1 : Int32) (v2 : Int32) : wpX_offsetOf (fun r => wpY_offsetOf (fun r' => r' = r ∧ i_Rel (k + 5) u v) v v1 v2) u v1 v2 := by
  have J := i_up I
  obtain ⟨c, kd, pa, sz, it, pn, po, sg, eg, rl, rn, oa, ca, il, dm, ln, mk, os, cs, cm, rfl, rfl, T, P⟩ := I
  unfold wpX_offsetOf
  dsimp only
  rcases nd_cases 4 v1 with ⟨r, hr, rfl⟩ | h
  · refine xx_isRange_t hr (br_f (by decide) ?_)
    rcases nd_cases 2 v2 with ⟨w, hw, rfl⟩ | h2
    · refine xx_isWhich_t hw (br_f (by decide) ?_)
      rw [ix_2x, nI_add]
      refine in_c (vp_in_nI (by omega) (by omega)) ?_
      unfold wpY_offsetOf
      dsimp only
      refine yy_isPlace_t hr hw (br_f (by decide) ?_)
      rw [ix_2y, nI_add]
      exact in_c (vp_in_nI (by omega) (by omega)) ⟨rfl, J⟩
    · refine xx_isWhich_f h2 (br_t rfl ?_)
      unfold wpY_offsetOf
      dsimp only
      exact yy_isPlace_f2 hr h2 (br_t rfl ⟨rfl, J⟩)
  · refine xx_isRange_f h (br_t rfl ?_)
    unfold wpY_offsetOf
    dsimp only
    exact yy_isPlace_f1 h (br_t rfl ⟨rfl, J⟩)
theorem i_vc_element {k : Nat} {u : SX} {v : SY} (I : i_Rel k u v) (hk : k + 5 ≤ 2560) : wpX_element (fun r u' => wpY_element (fun r' v' => r' = r ∧ i_Rel (k + 5) u' v') v) u := by
  have J := i_up I
  obtain ⟨c, kd, pa, sz, it, pn, po, sg, eg, rl, rn, oa, ca, il, dm, ln, mk, os, cs, cm, rfl, rfl, T, P⟩ := I
  have c24 := tr_c24 T
  unfold wpX_element
  dsimp only
  refine cb_i (nI_ltI (b := 24) (by omega) (by omega)) (fun h => xx_makeNode (k := 0) h ?_) (fun h => ?_)
  · unfold wpY_element
    dsimp only
    exact yy_make (k := 0) (by omega) h ⟨rfl, rel_mk (tr_Tmake T h (by omega)) (pl_Pmk T P)⟩
  · unfold wpY_element
    dsimp only
    exact yy_make_f (by omega) ⟨rfl, J⟩
theorem i_vc_text {k : Nat} {u : SX} {v : SY} (I : i_Rel k u v) (hk : k + 5 ≤ 2560) : wpX_text (fun r u' => wpY_text (fun r' v' => r' = r ∧ i_Rel (k + 5) u' v') v) u := by
  have J := i_up I
  obtain ⟨c, kd, pa, sz, it, pn, po, sg, eg, rl, rn, oa, ca, il, dm, ln, mk, os, cs, cm, rfl, rfl, T, P⟩ := I
  have c24 := tr_c24 T
  unfold wpX_text
  dsimp only
  refine cb_i (nI_ltI (b := 24) (by omega) (by omega)) (fun h => xx_makeNode (k := 1) h ?_) (fun h => ?_)
  · unfold wpY_text
    dsimp only
    exact yy_make (k := 1) (by omega) h ⟨rfl, rel_mk (tr_Tmake T h (by omega)) (pl_Pmk T P)⟩
  · unfold wpY_text
    dsimp only
    exact yy_make_f (by omega) ⟨rfl, J⟩
end
section
/-! take, put, replace -/
theorem i_vc_take {k : Nat} {u : SX} {v : SY} (I : i_Rel k u v) (hk : k + 5 ≤ 2560) (v1 : Int32) : wpX_take (fun r u' => wpY_take (fun r' v' => r' = r ∧ i_Rel (k + 5) u' v') v v1) u v1 := by
  have J := i_up I
  obtain ⟨c, kd, pa, sz, it, pn, po, sg, eg, rl, rn, oa, ca, il, dm, ln, mk, os, cs, cm, rfl, rfl, T, P⟩ := I
  have c24 := tr_c24 T
  unfold wpX_take
  dsimp only
  rcases nd_cases c v1 with ⟨n, hn, rfl⟩ | h
  · have hi : vp_in (nI n) 24 := vp_in_nI (by omega) (by omega)
    refine xx_isNode_t c24 hn (br_f (by decide) (in_c hi ?_))
    cases e : pa n with
    | zero =>
      refine br_t (by rw [ar_pc _ (by omega), e]; decide) ?_
      unfold wpY_take
      dsimp only
      exact yy_isNode_t c24 hn (br_f (by decide) (in_c hi (br_f (by rw [ar_pc _ (by omega), e]; decide) ⟨rfl, J⟩)))
    | succ p =>
      obtain ⟨hp, kp, i, hi', he⟩ := tr_pe T hn e
      refine br_f (by rw [ar_pc _ (by omega), e, ar_no (by omega)]; omega) (xx_indexOf T hn e hi' he (xx_takeOut T P.1 hn e hi' he ?_))
      show wpY_take _ _ _
      unfold wpY_take
      dsimp only
      refine yy_isNode_t c24 hn (br_f (by decide) (in_c hi (br_t (by rw [ar_pc _ (by omega), e, ar_pos (by omega)]; omega) (yy_takeOut T P.1 hn e hi' he ?_))))
      exact ⟨rfl, rel_mk (tr_Ttake T hn e hi' he) (pl_Ptk T hn e hi' he P)⟩
  · refine xx_isNode_f c24 h (br_t rfl ?_)
    unfold wpY_take
    dsimp only
    exact yy_isNode_f c24 h (br_t rfl ⟨rfl, J⟩)
theorem xx_put92 {c : Nat} {kd pa sz it pn po : Nat → Nat} {sg eg : Int32} {rl rn oa ca il dm : Nat → Int32} {post : Int32 → SX → Prop} {n p i : Nat} (T : tr_T c kd pa sz it) (V : ∀ k, k < 8 → pl_ok c sz (pn k) (po k)) (hn : n < c) (hp : p < c) (hs : sz p + 1 ≤ 24) (hi : i ≤ sz p)
    (h : post (nI (sz p + 1)) (nI c, sg, eg, ar_n kd, ar_p (st_u pa n (p + 1)), ar_n (st_u sz p (sz p + 1)), ar_n (st_u (mv_r it (24 * p) i (sz p) 1) (24 * p + i) n), ar_n (mp_n (pl_pt p i) pn po), ar_n (mp_o (pl_pt p i) pn po), rl, rn, oa, ca, il, dm)) : wX_put_92 post (nI p) (nI n) (nI i) (nI c) sg eg (ar_n kd) (ar_p pa) (ar_n sz) (ar_n it) (ar_n pn) (ar_n po) rl rn oa ca il dm := by
  have c24 := tr_c24 T
  unfold wX_put_92
  refine xx_putIn T V hn hp hs hi (in_c (vp_in_nI (by omega) (by omega)) ?_)
  rw [ar_nc _ (by omega), st_us]
  exact h
theorem yy_put105 {c : Nat} {kd pa sz it pn po : Nat → Nat} {ln : Int32} {mk os cs cm : Nat → Int32} {post : Int32 → SY → Prop} {n p i : Nat} (T : tr_T c kd pa sz it) (V : ∀ k, k < 8 → pl_ok c sz (pn k) (po k)) (hn : n < c) (hp : p < c) (hs : sz p + 1 ≤ 24) (hi : i ≤ sz p)
    (h : post (nI (sz p + 1)) (nI c, ln, ar_n kd, ar_p (st_u pa n (p + 1)), ar_n (st_u sz p (sz p + 1)), ar_n (st_u (mv_r it (24 * p) i (sz p) 1) (24 * p + i) n), ar_n (mp_n (pl_pt p i) pn po), ar_n (mp_o (pl_pt p i) pn po), mk, os, cs, cm)) : wY_put_105 post (nI p) (nI n) (nI i) (nI c) ln (ar_n kd) (ar_p pa) (ar_n sz) (ar_n it) (ar_n pn) (ar_n po) mk os cs cm := by
  have c24 := tr_c24 T
  unfold wY_put_105
  refine yy_putIn T V hn hp hs hi (in_c (vp_in_nI (by omega) (by omega)) ?_)
  rw [ar_nc _ (by omega), st_us]
  exact h
def pt_m (pa sz : Nat → Nat) (n p : Nat) : Nat := if pa n = p + 1 then sz p - 1 else sz p
theorem xx_putw {c : Nat} {kd pa sz it pn po : Nat → Nat} {sg eg : Int32} {rl rn oa ca il dm : Nat → Int32} {post : Int32 → SX → Prop} {n p : Nat} {x : Int32} (T : tr_T c kd pa sz it) (hn : n < c) (hp : p < c) (kp : kd p = 0) (n0 : n ≠ 0) (nw : ¬ tr_w pa (p + 1) n) (h : wX_put_62 post (nI p) (nI n) x (nI (pt_m pa sz n p)) (nI c) sg eg (ar_n kd) (ar_p pa) (ar_n sz) (ar_n it) (ar_n pn) (ar_n po) rl rn oa ca il dm) : wpX_put post (nI c, sg, eg, ar_n kd, ar_p pa, ar_n sz, ar_n it, ar_n pn, ar_n po, rl, rn, oa, ca, il, dm) (nI p) (nI n) x := by
  have c24 := tr_c24 T
  have hl := tr_pl T hn
  unfold wpX_put
  dsimp only
  refine xx_isOfKind_t (k := 0) c24 hp kp (br_f (by decide) (xx_isNode_t c24 hn (br_f (by decide) (br_f (nI_ne0 (by omega) (by omega)) (xx_isWithin T hp hn (fun z => absurd z nw) (fun _ => br_t rfl (in_c (vp_in_nI (by omega) (by omega)) (cb_i (d := pa n = p + 1) ?_ (fun e => in_c (vp_in_nI (by omega) (by omega)) ?_) (fun e => in_c (vp_in_nI (by omega) (by omega)) ?_)))))))))
  · rw [ar_pc _ (by omega), ar_is (by omega) (by omega)]
  · rw [ar_nc _ (by omega)]
    unfold pt_m at h
    rw [if_pos e] at h
    obtain ⟨_, _, i, hi, _⟩ := tr_pe T hn e
    rw [show nI (sz p) - 1 = nI (sz p - 1) from pk_sub (b := 1) (by omega)]
    exact h
  · rw [ar_nc _ (by omega)]
    unfold pt_m at h
    rw [if_neg e] at h
    exact h
theorem yy_putw {c : Nat} {kd pa sz it pn po : Nat → Nat} {ln : Int32} {mk os cs cm : Nat → Int32} {post : Int32 → SY → Prop} {n p : Nat} {x : Int32} (T : tr_T c kd pa sz it) (hn : n < c) (hp : p < c) (kp : kd p = 0) (n0 : n ≠ 0) (nw : ¬ tr_w pa (p + 1) n) (h : wY_put_75 post (nI p) (nI n) x (nI (pt_m pa sz n p)) (nI c) ln (ar_n kd) (ar_p pa) (ar_n sz) (ar_n it) (ar_n pn) (ar_n po) mk os cs cm) : wpY_put post (nI c, ln, ar_n kd, ar_p pa, ar_n sz, ar_n it, ar_n pn, ar_n po, mk, os, cs, cm) (nI p) (nI n) x := by
  have c24 := tr_c24 T
  have hl := tr_pl T hn
  unfold wpY_put
  dsimp only
  refine yy_isNode_t c24 hp (br_f (by decide) (in_c (vp_in_nI (by omega) (by omega)) (br_t (by rw [ar_nc _ (by omega), kp]; rfl) (yy_isNode_t c24 hn (br_f (by decide) (br_f (nI_ne0 (by omega) (by omega)) (br_f (fun z => ?_) (yy_isBelow T hp hn (fun z => absurd (tr_ws z) nw) (fun _ => br_t rfl (in_c (vp_in_nI (by omega) (by omega)) (cb_i (d := pa n = p + 1) ?_ (fun e => in_c (vp_in_nI (by omega) (by omega)) ?_) (fun e => in_c (vp_in_nI (by omega) (by omega)) ?_))))))))))))
  · rw [nI_eq (by omega) (by omega)] at z
    subst z
    exact nw (tr_wr _ _)
  · rw [ar_pc _ (by omega), ar_is (by omega) (by omega)]
  · rw [ar_nc _ (by omega)]
    unfold pt_m at h
    rw [if_pos e] at h
    obtain ⟨_, _, i, hi, _⟩ := tr_pe T hn e
    rw [show nI (sz p) - 1 = nI (sz p - 1) from pk_sub (b := 1) (by omega)]
    exact h
  · rw [ar_nc _ (by omega)]
    unfold pt_m at h
    rw [if_neg e] at h
    exact h
theorem i_vc_put {k : Nat} {u : SX} {v : SY} (I : i_Rel k u v) (hk : k + 5 ≤ 2560) (v1 : Int32) (v2 : Int32) (v3 : Int32) : wpX_put (fun r u' => wpY_put (fun r' v' => r' = r ∧ i_Rel (k + 5) u' v') v v1 v2 v3) u v1 v2 v3 := by
  have J := i_up I
  obtain ⟨c, kd, pa, sz, it, pn, po, sg, eg, rl, rn, oa, ca, il, dm, ln, mk, os, cs, cm, rfl, rfl, T, P⟩ := I
  have c24 := tr_c24 T
  rcases nd_cases c v1 with ⟨p, hp, rfl⟩ | h
  · have hpi : vp_in (nI p) 24 := vp_in_nI (by omega) (by omega)
    rcases tr_k1 T hp with kp | kp
    · rcases nd_cases c v2 with ⟨n, hn, rfl⟩ | h2
      · have hni : vp_in (nI n) 24 := vp_in_nI (by omega) (by omega)
        by_cases n0 : n = 0
        · subst n0
          unfold wpX_put
          dsimp only
          refine xx_isOfKind_t (k := 0) c24 hp kp (br_f (by decide) (xx_isNode_t c24 hn (br_f (by decide) (br_t rfl ?_))))
          unfold wpY_put
          dsimp only
          exact yy_isNode_t c24 hp (br_f (by decide) (in_c hpi (br_t (by rw [ar_nc _ (by omega), kp]; rfl) (yy_isNode_t c24 hn (br_f (by decide) (br_t rfl ⟨rfl, J⟩))))))
        · by_cases nw : tr_w pa (p + 1) n
          · unfold wpX_put
            dsimp only
            refine xx_isOfKind_t (k := 0) c24 hp kp (br_f (by decide) (xx_isNode_t c24 hn (br_f (by decide) (br_f (nI_ne0 (by omega) (by omega)) (xx_isWithin T hp hn (fun _ => br_f (by decide) ?_) (fun z => absurd nw z))))))
            unfold wpY_put
            dsimp only
            refine yy_isNode_t c24 hp (br_f (by decide) (in_c hpi (br_t (by rw [ar_nc _ (by omega), kp]; rfl) (yy_isNode_t c24 hn (br_f (by decide) (br_f (nI_ne0 (by omega) (by omega)) (cb_i (nI_eq (by omega) (by omega)) (fun _ => ⟨rfl, J⟩) (fun e => yy_isBelow T hp hn (fun _ => br_f (by decide) ⟨rfl, J⟩) (fun z => ?_)))))))))
            rcases tr_wc nw with q | q
            · exact absurd q e
            · exact absurd q z
          · refine xx_putw T hn hp kp n0 nw ?_
            have hpt : pt_m pa sz n p ≤ sz p := by unfold pt_m; split <;> omega
            have s24 := tr_s24 T hp
            by_cases z : v3 < 0
            · exact br_t z (yy_putw T hn hp kp n0 nw (br_t z ⟨rfl, J⟩))
            · obtain ⟨i, hi, rfl⟩ := nI_of z
              refine br_f z (cb_i (nI_leI hi (by omega)) (fun l => in_c hni ?_) (fun l => yy_putw T hn hp kp n0 nw (br_f z (br_f (by rw [nI_leI hi (by omega)]; exact l) ⟨rfl, J⟩))))
              cases e : pa n with
              | zero =>
                have hm : pt_m pa sz n p = sz p := by unfold pt_m; rw [if_neg (by omega)]
                have ne0 : n ≠ p := by rintro rfl; exact nw (tr_wr pa _)
                have s2 := tr_sz2 T hp kp hn ne0 (by omega)
                refine br_t (by rw [ar_pc _ (by omega), e]; decide) (xx_put92 T P.1 hn hp (by omega) (by omega) ?_)
                refine yy_putw T hn hp kp n0 nw (br_f z (br_t (by rw [nI_leI hi (by omega)]; exact l) (in_c hni (br_t (by rw [ar_pc _ (by omega), e]; decide) (yy_put105 T P.1 hn hp (by omega) (by omega) ?_)))))
                exact ⟨rfl, rel_mk (tr_Tput T hp kp hn e nw (by omega)) (pl_Ppt T hp kp hn e nw (by omega) P)⟩
              | succ q =>
                obtain ⟨hq, kq, j, hj, he⟩ := tr_pe T hn e
                have T1 := tr_Ttake T hn e hj he
                have P1 := pl_Ptk T hn e hj he P
                have nw1 : ¬ tr_w (st_u pa n 0) (p + 1) n := fun z => nw (tr_e1 z)
                have ne0 : n ≠ p := by rintro rfl; exact nw (tr_wr pa _)
                have s2 := tr_sz2 T1 hp kp hn ne0 (by rw [st_us]; omega)
                have hi1 : i ≤ st_u sz q (sz q - 1) p := by
                  unfold pt_m at l
                  by_cases d : p = q
                  · subst d; rw [st_us]; rw [if_pos e] at l; exact l
                  · rw [st_un d]; rw [if_neg (by omega)] at l; exact l
                refine br_f (by rw [ar_pc _ (by omega), e, ar_no (by omega)]; omega) (xx_takeOut T P.1 hn e hj he ?_)
                refine xx_put92 T1 P1.1 hn hp (by omega) hi1 ?_
                refine yy_putw T hn hp kp n0 nw (br_f z (br_t (by rw [nI_leI hi (by omega)]; exact l) (in_c hni (br_f (by rw [ar_pc _ (by omega), e, ar_neg (by omega)]; omega) (yy_takeOut T P.1 hn e hj he ?_)))))
                refine yy_put105 T1 P1.1 hn hp (by omega) hi1 ?_
                exact ⟨rfl, rel_mk (tr_Tput T1 hp kp hn (st_us _ _ _) nw1 hi1) (pl_Ppt T1 hp kp hn (st_us _ _ _) nw1 hi1 P1)⟩
      · unfold wpX_put
        dsimp only
        refine xx_isOfKind_t (k := 0) c24 hp kp (br_f (by decide) (xx_isNode_f c24 h2 (br_t rfl ?_)))
        unfold wpY_put
        dsimp only
        exact yy_isNode_t c24 hp (br_f (by decide) (in_c hpi (br_t (by rw [ar_nc _ (by omega), kp]; rfl) (yy_isNode_f c24 h2 (br_t rfl ⟨rfl, J⟩)))))
    · unfold wpX_put
      dsimp only
      refine xx_isOfKind_k (k := 0) c24 hp (by omega) (by omega) (by omega) (br_t rfl ?_)
      unfold wpY_put
      dsimp only
      exact yy_isNode_t c24 hp (br_f (by decide) (in_c hpi (br_f (by rw [ar_nc _ (by omega), kp]; decide) ⟨rfl, J⟩)))
  · unfold wpX_put
    dsimp only
    refine xx_isOfKind_f c24 h (br_t rfl ?_)
    unfold wpY_put
    dsimp only
    exact yy_isNode_f c24 h (br_t rfl ⟨rfl, J⟩)
/-! replace -/
theorem ex_mono (a c k : Nat) : ∀ x y, x ≤ y → ex_g a c k x ≤ ex_g a c k y := by
  intro x y h
  unfold ex_g
  split <;> split <;> (try split) <;> (try split) <;> omega
theorem ex_T {c : Nat} {kd pa sz it : Nat → Nat} (T : tr_T c kd pa sz it) {t a g k d : Nat} (ht : t < c) (kt : kd t = 1) (ha : a + g ≤ sz t) (hk : sz t + k - g ≤ 12) :
    (∀ n, n < c → kd n = 0 → st_u sz t (sz t + k - g) n = sz n ∧ ∀ i, i < 24 → dg_w k (24 * t + a) d (ex_i it t a g k (sz t)) (24 * n + i) = it (24 * n + i)) ∧
    (∀ n, n < c → kd n = 1 → st_u sz t (sz t + k - g) n ≤ 12 ∧ ∀ i, i < st_u sz t (sz t + k - g) n → dg_w k (24 * t + a) d (ex_i it t a g k (sz t)) (24 * n + i) ≤ 9) := by
  have tt := T.2.2.1 t ht kt
  have oth : ∀ n i, n ≠ t → i < 24 → dg_w k (24 * t + a) d (ex_i it t a g k (sz t)) (24 * n + i) = it (24 * n + i) := by
    intro n i ne hi
    rw [dg_o _ _ _ _ _ (by omega)]
    unfold ex_i
    split
    · exact mv_lo it ne hi (by omega) (by omega)
    · exact mv_ro it ne hi (by omega)
  refine ⟨fun n hn kn => ?_, fun n hn kn => ?_⟩
  · have ne : n ≠ t := by rintro rfl; omega
    exact ⟨st_un ne, fun i hi => oth n i ne hi⟩
  · by_cases ne : n = t
    · subst ne
      rw [st_us]
      refine ⟨hk, fun i hi => ?_⟩
      by_cases h1 : a ≤ i ∧ i < a + k
      · exact dg_9 _ _ _ _ _ (by omega) (by omega)
      · rw [dg_o _ _ _ _ _ (by omega)]
        unfold ex_i
        split
        · by_cases h2 : i < a
          · rw [mv_lb it (by omega)]; exact tt.2 i (by omega)
          · rw [mv_li it (by omega) (by omega)]; exact tt.2 _ (by omega)
        · by_cases h2 : i < a
          · rw [mv_rb it (by omega)]; exact tt.2 i (by omega)
          · rw [mv_ri it (by omega) (by omega)]; exact tt.2 _ (by omega)
    · rw [st_un ne]
      have := T.2.2.1 n hn kn
      refine ⟨this.1, fun i hi => ?_⟩
      rw [oth n i ne (by omega)]
      exact this.2 i hi
theorem ex_TP {c : Nat} {kd pa sz it pn po : Nat → Nat} (T : tr_T c kd pa sz it) (P : pl_P c kd pa sz it pn po) {t a g k d : Nat} (ht : t < c) (kt : kd t = 1) (ha : a + g ≤ sz t) (hk : sz t + k - g ≤ 12) :
    tr_T c kd pa (st_u sz t (sz t + k - g)) (dg_w k (24 * t + a) d (ex_i it t a g k (sz t))) ∧ pl_P c kd pa (st_u sz t (sz t + k - g)) (dg_w k (24 * t + a) d (ex_i it t a g k (sz t))) (mp_n (pl_ex t (ex_g a g k)) pn po) (mp_o (pl_ex t (ex_g a g k)) pn po) := by
  obtain ⟨h0, h1⟩ := ex_T T (d := d) ht kt ha hk
  refine ⟨tr_Ttx T h0 h1, pl_map _ (pl_ok c sz) P P.1 ?_ ?_⟩
  · intro v o h
    have := h.1
    have := h.2
    unfold pl_ex
    split
    · rename_i e
      subst e
      refine ⟨ht, ?_⟩
      rw [st_us]
      dsimp only
      unfold ex_g
      split
      · omega
      · split <;> omega
    · rename_i e
      exact ⟨h.1, by rw [st_un e]; exact h.2⟩
  · intro v o v' o' _ _ R
    exact pl_Rex T h0 kt (ex_mono a g k) R ht
theorem dg_ex {x : Int32} (h1 : ¬ x < -1) (h2 : x ≤ 9999) : ∃ k d, dg_c x k d := by
  by_cases z : x < 0
  · refine ⟨0, 0, Or.inl ⟨?_, rfl, rfl⟩⟩
    rw [← Int32.toInt_inj]
    rw [Int32.lt_iff_toInt_lt] at h1 z
    rw [show (-1 : Int32).toInt = -1 from by decide] at h1 ⊢
    rw [show (0 : Int32).toInt = 0 from by decide] at z
    omega
  · obtain ⟨d, hd, rfl⟩ := nI_of z
    have h3 := (nI_leI (a := d) (b := 9999) hd (by omega)).mp h2
    by_cases a1 : d < 10
    · exact ⟨1, d, Or.inr ⟨rfl, Or.inl ⟨a1, rfl⟩⟩⟩
    · by_cases a2 : d < 100
      · exact ⟨2, d, Or.inr ⟨rfl, Or.inr (Or.inl ⟨by omega, a2, rfl⟩)⟩⟩
      · by_cases a3 : d < 1000
        · exact ⟨3, d, Or.inr ⟨rfl, Or.inr (Or.inr (Or.inl ⟨by omega, a3, rfl⟩))⟩⟩
        · exact ⟨4, d, Or.inr ⟨rfl, Or.inr (Or.inr (Or.inr ⟨by omega, by omega, rfl⟩))⟩⟩
theorem yy_r72 {c : Nat} {kd pa sz it pn po : Nat → Nat} {ln : Int32} {mk os cs cm : Nat → Int32} {post : Int32 → SY → Prop} {t a z x : Int32} {k d : Nat} (hx : dg_c x k d) (h : wY_replace_118 post t a x z (nI k) (nI c) ln (ar_n kd) (ar_p pa) (ar_n sz) (ar_n it) (ar_n pn) (ar_n po) mk os cs cm) : wY_replace_72 post t a x z (nI c) ln (ar_n kd) (ar_p pa) (ar_n sz) (ar_n it) (ar_n pn) (ar_n po) mk os cs cm := by
  rcases hx with ⟨rfl, rfl, _⟩ | ⟨rfl, hx⟩
  · exact br_f (by decide) h
  · refine br_t (nI_pos' (by omega)) ?_
    rcases hx with ⟨h1, rfl⟩ | ⟨h0, h1, rfl⟩ | ⟨h0, h1, rfl⟩ | ⟨h0, h1, rfl⟩
    · exact br_f (nI_ge (b := 10) h1 (by omega)) h
    · exact br_t (nI_le (a := 10) h0 (by omega)) (br_f (nI_ge (b := 100) h1 (by omega)) h)
    · exact br_t (nI_le (a := 10) (by omega) (by omega)) (br_t (nI_le (a := 100) h0 (by omega)) (br_f (nI_ge (b := 1000) h1 (by omega)) h))
    · exact br_t (nI_le (a := 10) (by omega) (by omega)) (br_t (nI_le (a := 100) (by omega) (by omega)) (br_t (nI_le (a := 1000) h0 (by omega)) h))
theorem xx_r71 {c : Nat} {kd pa sz it pn po : Nat → Nat} {sg eg : Int32} {rl rn oa ca il dm : Nat → Int32} {post : Int32 → SX → Prop} {t a g k d : Nat} {x : Int32} (T : tr_T c kd pa sz it) (V : ∀ k, k < 8 → pl_ok c sz (pn k) (po k)) (ht : t < c) (kt : kd t = 1) (ha : a + g ≤ sz t) (hx : dg_c x k d)
    (h4 : ¬ sz t + k - g ≤ 12 → post (-4) (nI c, sg, eg, ar_n kd, ar_p pa, ar_n sz, ar_n it, ar_n pn, ar_n po, rl, rn, oa, ca, il, dm))
    (h : sz t + k - g ≤ 12 → post (nI (sz t + k - g)) (nI c, sg, eg, ar_n kd, ar_p pa, ar_n (st_u sz t (sz t + k - g)), ar_n (dg_w k (24 * t + a) d (ex_i it t a g k (sz t))), ar_n (mp_n (pl_ex t (ex_g a g k)) pn po), ar_n (mp_o (pl_ex t (ex_g a g k)) pn po), rl, rn, oa, ca, il, dm)) : wX_replace_71 post (nI t) (nI a) x (nI g) (nI c) sg eg (ar_n kd) (ar_p pa) (ar_n sz) (ar_n it) (ar_n pn) (ar_n po) rl rn oa ca il dm := by
  have c24 := tr_c24 T
  have tt := T.2.2.1 t ht kt
  have k4 := dg_k hx
  unfold wX_replace_71
  refine xx_digitCount hx (in_c (vp_in_nI (by omega) (by omega)) ?_)
  rw [ar_nc _ (by omega), pk_sub (by omega), nI_add]
  refine cb_i (d := sz t + k - g ≤ 12) ?_ (fun l => ?_) h4
  · rw [show (12 : Int32) = nI 12 from rfl, nI_leI (by omega) (by omega)]; omega
  · refine xx_replaceLetters T V ht ha l tt.1 hx (in_c (vp_in_nI (by omega) (by omega)) ?_)
    rw [ar_nc _ (by omega), st_us]
    exact h l
theorem yy_r118 {c : Nat} {kd pa sz it pn po : Nat → Nat} {ln : Int32} {mk os cs cm : Nat → Int32} {post : Int32 → SY → Prop} {t a g k d : Nat} {x : Int32} (T : tr_T c kd pa sz it) (V : ∀ k, k < 8 → pl_ok c sz (pn k) (po k)) (ht : t < c) (kt : kd t = 1) (ha : a + g ≤ sz t) (hx : dg_c x k d)
    (h4 : ¬ sz t + k - g ≤ 12 → post (-4) (nI c, ln, ar_n kd, ar_p pa, ar_n sz, ar_n it, ar_n pn, ar_n po, mk, os, cs, cm))
    (h : sz t + k - g ≤ 12 → post (nI (sz t + k - g)) (nI c, ln, ar_n kd, ar_p pa, ar_n (st_u sz t (sz t + k - g)), ar_n (dg_w k (24 * t + a) d (ex_i it t a g k (sz t))), ar_n (mp_n (pl_ex t (ex_g a g k)) pn po), ar_n (mp_o (pl_ex t (ex_g a g k)) pn po), mk, os, cs, cm)) : wY_replace_72 post (nI t) (nI a) x (nI g) (nI c) ln (ar_n kd) (ar_p pa) (ar_n sz) (ar_n it) (ar_n pn) (ar_n po) mk os cs cm := by
  have c24 := tr_c24 T
  have tt := T.2.2.1 t ht kt
  have k4 := dg_k hx
  refine yy_r72 hx (in_c (vp_in_nI (by omega) (by omega)) ?_)
  rw [ar_nc _ (by omega), pk_sub (by omega), nI_add]
  refine cb_i (d := sz t + k - g ≤ 12) ?_ (fun l => ?_) h4
  · rw [show (12 : Int32) = nI 12 from rfl, nI_leI (by omega) (by omega)]; omega
  · refine yy_exchange T V ht ha l tt.1 k4.1 (nm_e ⟨k + 1, ?_⟩)
    have h := h l
    rcases hx with ⟨_, rfl, rfl⟩ | ⟨rfl, hx⟩
    · refine br_t (by decide) (in_c (vp_in_nI (by omega) (by omega)) ?_)
      rw [ar_nc _ (by omega), st_us]
      exact h
    · exact yy_dgl (t := t) (a := a) (by omega) k d _ (by omega) (by omega) (by rw [st_us]; exact h)
theorem i_vc_replace {k : Nat} {u : SX} {v : SY} (I : i_Rel k u v) (hk : k + 5 ≤ 2560) (v1 : Int32) (v2 : Int32) (v3 : Int32) (v4 : Int32) : wpX_replace (fun r u' => wpY_replace (fun r' v' => r' = r ∧ i_Rel (k + 5) u' v') v v1 v2 v3 v4) u v1 v2 v3 v4 := by
  have J := i_up I
  obtain ⟨c, kd, pa, sz, it, pn, po, sg, eg, rl, rn, oa, ca, il, dm, ln, mk, os, cs, cm, rfl, rfl, T, P⟩ := I
  have c24 := tr_c24 T
  unfold wpX_replace
  dsimp only
  rcases nd_cases c v1 with ⟨t, ht, rfl⟩ | h
  · have hti : vp_in (nI t) 24 := vp_in_nI (by omega) (by omega)
    have s24 := tr_s24 T ht
    rcases tr_k1 T ht with kt | kt
    · refine xx_isOfKind_k (k := 1) c24 ht (by omega) (by omega) (by omega) (br_t rfl ?_)
      unfold wpY_replace
      dsimp only
      exact yy_isTextNode_k c24 ht kt (br_t rfl ⟨rfl, J⟩)
    · refine xx_isOfKind_t (k := 1) c24 ht kt (br_f (by decide) ?_)
      by_cases z : v2 < 0
      · refine br_t z ?_
        unfold wpY_replace
        dsimp only
        exact yy_isTextNode_t c24 ht kt (br_f (by decide) (br_t z ⟨rfl, J⟩))
      · obtain ⟨a, ha, rfl⟩ := nI_of z
        refine br_f z (in_c hti ?_)
        have sa : ar_n sz (nI t).toNatClampNeg = nI (sz t) := ar_nc _ (by omega)
        rw [sa]
        refine cb_i (nI_ltI (by omega) ha) (fun l => ?_) (fun l => ?_)
        · unfold wpY_replace
          dsimp only
          exact yy_isTextNode_t c24 ht kt (br_f (by decide) (br_f z (in_c hti (br_t (by rw [sa, nI_ltI (by omega) ha]; exact l) ⟨rfl, J⟩))))
        · have l' : ¬ ar_n sz (nI t).toNatClampNeg < nI a := by rw [sa, nI_ltI (by omega) ha]; exact l
          by_cases z3 : 0 ≤ v3
          · refine br_t z3 ?_
            by_cases z4 : v4 < -1
            · refine br_t z4 ?_
              unfold wpY_replace
              dsimp only
              exact yy_isTextNode_t c24 ht kt (br_f (by decide) (br_f z (in_c hti (br_f l' (br_t z3 (br_t z4 ⟨rfl, J⟩))))))
            · refine br_f z4 ?_
              by_cases z5 : v4 ≤ 9999
              · refine br_t z5 (in_c hti ?_)
                obtain ⟨q, d, hx⟩ := dg_ex z4 z5
                obtain ⟨g, hg, rfl⟩ := nI_of (Int32.not_lt.mpr z3)
                have YW : ∀ (post : Int32 → SY → Prop) (g' : Nat), (g ≤ sz t - a ∧ g' = g ∨ ¬ g ≤ sz t - a ∧ g' = sz t - a) → wY_replace_72 post (nI t) (nI a) v4 (nI g') (nI c) ln (ar_n kd) (ar_p pa) (ar_n sz) (ar_n it) (ar_n pn) (ar_n po) mk os cs cm → wpY_replace post (nI c, ln, ar_n kd, ar_p pa, ar_n sz, ar_n it, ar_n pn, ar_n po, mk, os, cs, cm) (nI t) (nI a) (nI g) v4 := by
                  intro post g' hg' h
                  unfold wpY_replace
                  dsimp only
                  refine yy_isTextNode_t c24 ht kt (br_f (by decide) (br_f z (in_c hti (br_f l' (br_t z3 (br_f z4 (br_t z5 (in_c hti ?_))))))))
                  rw [sa, pk_sub (by omega)]
                  rcases hg' with ⟨h1, rfl⟩ | ⟨h1, rfl⟩
                  · exact br_t (by rw [nI_leI hg (by omega)]; exact h1) h
                  · exact br_f (by rw [nI_leI hg (by omega)]; exact h1) (in_c hti h)
                have fin : ∀ g', (g ≤ sz t - a ∧ g' = g ∨ ¬ g ≤ sz t - a ∧ g' = sz t - a) → wX_replace_71 (fun r u' => wpY_replace (fun r' v' => r' = r ∧ i_Rel (k + 5) u' v') (nI c, ln, ar_n kd, ar_p pa, ar_n sz, ar_n it, ar_n pn, ar_n po, mk, os, cs, cm) (nI t) (nI a) (nI g) v4) (nI t) (nI a) v4 (nI g') (nI c) sg eg (ar_n kd) (ar_p pa) (ar_n sz) (ar_n it) (ar_n pn) (ar_n po) rl rn oa ca il dm := by
                  intro g' hg'
                  have hb : a + g' ≤ sz t := by omega
                  refine xx_r71 T P.1 ht kt hb hx (fun l4 => YW _ g' hg' (yy_r118 T P.1 ht kt hb hx (fun _ => ⟨rfl, J⟩) (fun l5 => absurd l5 l4))) (fun l4 => YW _ g' hg' (yy_r118 T P.1 ht kt hb hx (fun l5 => absurd l4 l5) (fun _ => ⟨rfl, ?_⟩)))
                  obtain ⟨T', P'⟩ := ex_TP T P (d := d) ht kt hb l4
                  exact rel_mk T' P'
                refine nm_r (pk_sub (by omega)) (cb_i (nI_leI hg (by omega)) (fun l2 => fin g (Or.inl ⟨l2, rfl⟩)) (fun l2 => fin _ (Or.inr ⟨l2, rfl⟩)))
              · refine br_f z5 ?_
                unfold wpY_replace
                dsimp only
                exact yy_isTextNode_t c24 ht kt (br_f (by decide) (br_f z (in_c hti (br_f l' (br_t z3 (br_f z4 (br_f z5 ⟨rfl, J⟩)))))))
          · refine br_f z3 ?_
            unfold wpY_replace
            dsimp only
            exact yy_isTextNode_t c24 ht kt (br_f (by decide) (br_f z (in_c hti (br_f l' (br_f z3 ⟨rfl, J⟩)))))
  · refine xx_isOfKind_f c24 h (br_t rfl ?_)
    unfold wpY_replace
    dsimp only
    exact yy_isTextNode_f c24 h (br_t rfl ⟨rfl, J⟩)
end
section
/-! split -/
theorem sp_h {c : Nat} {kd pa sz it : Nat → Nat} (T : tr_T c kd pa sz it) {t f o : Nat} (ht : t < c) (kt : kd t = 1) (kf : kd f = 1) (ne : t ≠ f) (ho : o ≤ sz t) :
    (∀ n, n < c → kd n = 0 → st_u (st_u sz f (sz t - o)) t o n = sz n ∧ ∀ i, i < 24 → cp_i it (24 * t + o) (24 * f) (sz t - o) (24 * n + i) = it (24 * n + i)) ∧
    (∀ n, n < c → kd n = 1 → st_u (st_u sz f (sz t - o)) t o n ≤ 12 ∧ ∀ i, i < st_u (st_u sz f (sz t - o)) t o n → cp_i it (24 * t + o) (24 * f) (sz t - o) (24 * n + i) ≤ 9) := by
  have tt := T.2.2.1 t ht kt
  have oth : ∀ n i, n ≠ f → i < 24 → cp_i it (24 * t + o) (24 * f) (sz t - o) (24 * n + i) = it (24 * n + i) := by
    intro n i e hi
    unfold cp_i
    exact if_neg (by omega)
  refine ⟨fun n hn kn => ?_, fun n hn kn => ?_⟩
  · have e1 : n ≠ t := by rintro rfl; omega
    have e2 : n ≠ f := by rintro rfl; omega
    exact ⟨by rw [st_un e1, st_un e2], fun i hi => oth n i e2 hi⟩
  · by_cases e1 : n = t
    · subst e1
      rw [st_us]
      refine ⟨by omega, fun i hi => ?_⟩
      rw [oth n i ne (by omega)]
      exact tt.2 i (by omega)
    · rw [st_un e1]
      by_cases e2 : n = f
      · subst e2
        rw [st_us]
        refine ⟨by omega, fun i hi => ?_⟩
        unfold cp_i
        rw [if_pos (by omega), show 24 * t + o + (24 * n + i - 24 * n) = 24 * t + (o + i) by omega]
        exact tt.2 _ (by omega)
      · rw [st_un e2]
        have := T.2.2.1 n hn kn
        refine ⟨this.1, fun i hi => ?_⟩
        rw [oth n i e2 (by omega)]
        exact this.2 i hi
theorem xx_hand0 {c : Nat} {kd pa sz it pn po : Nat → Nat} {sg eg : Int32} {rl rn oa ca il dm : Nat → Int32} {post : SX → Prop} {f o t : Nat} (hf : f < 24) (ht : t < 24) (ne : f ≠ t) (h1 : sz f ≤ 24) (ho : o ≤ sz f) (hz : sz t = 0)
    (h : post (nI c, sg, eg, ar_n kd, ar_p pa, ar_n (st_u (st_u sz t (sz f - o)) f o), ar_n (cp_i it (24 * f + o) (24 * t) (sz f - o)), ar_n pn, ar_n po, rl, rn, oa, ca, il, dm)) : wpX_handLetters post (nI c, sg, eg, ar_n kd, ar_p pa, ar_n sz, ar_n it, ar_n pn, ar_n po, rl, rn, oa, ca, il, dm) (nI f) (nI o) (nI t) := by
  refine xx_handLetters hf ht ne h1 ho (by omega) ?_
  rw [hz, Nat.zero_add, Nat.add_zero]
  exact h
theorem sp_0e (t o v q : Nat) : sp_0 t o v q = pl_ex t (fun q => if o < q then o else q) v q := by
  unfold sp_0 pl_ex
  by_cases e : v = t
  · by_cases l : o < q
    · rw [if_pos ⟨e, l⟩, if_pos e]; dsimp only; rw [if_pos l]
    · rw [if_neg (fun z => l z.2), if_pos e]; dsimp only; rw [if_neg l, e]
  · rw [if_neg (fun z => e z.1), if_neg e]
theorem sp_P0 {c : Nat} {kd pa sz it pn po : Nat → Nat} (T : tr_T c kd pa sz it) (P : pl_P c kd pa sz it pn po) {t f o : Nat} (ht : t < c) (hf : f < c) (kt : kd t = 1) (kf : kd f = 1) (ne : t ≠ f) (ho : o ≤ sz t) (nf : ∀ k, k < 8 → pn k ≠ f) :
    tr_T c kd pa (st_u (st_u sz f (sz t - o)) t o) (cp_i it (24 * t + o) (24 * f) (sz t - o)) ∧ pl_P c kd pa (st_u (st_u sz f (sz t - o)) t o) (cp_i it (24 * t + o) (24 * f) (sz t - o)) (mp_n (sp_0 t o) pn po) (mp_o (sp_0 t o) pn po) := by
  obtain ⟨h0, h1⟩ := sp_h T ht kt kf ne ho
  refine ⟨tr_Ttx T h0 h1, pl_map _ (fun v q => pl_ok c sz v q ∧ v ≠ f) P (fun k hk => ⟨P.1 k hk, nf k hk⟩) ?_ ?_⟩
  · rintro v q ⟨h, e⟩
    have := h.2
    unfold sp_0
    split
    · exact ⟨ht, by rw [st_us]; exact Nat.le_refl _⟩
    · rename_i z
      refine ⟨h.1, ?_⟩
      dsimp only
      by_cases e1 : v = t
      · subst e1; rw [st_us]; omega
      · rw [st_un e1, st_un e]; exact h.2
  · rintro v q v' q' _ _ R
    rw [sp_0e, sp_0e]
    refine pl_Rex T h0 kt ?_ R ht
    intro a b hab
    try dsimp only
    split <;> split <;> omega
def sp_a (p i v q : Nat) : Nat × Nat := if v = p ∧ i + 1 ≤ q ∧ q ≤ i + 1 then (p, i + 2) else (v, q)
def sp_b (t o f v q : Nat) : Nat × Nat := if v = t ∧ o + 1 ≤ q then (f, q - o) else (v, q)
theorem sp_ab {p i t o f : Nat} (ne : p ≠ t) (v q : Nat) : sp_b t o f (sp_a p i v q).1 (sp_a p i v q).2 = pl_sp p i t o f v q := by
  unfold pl_sp
  by_cases h : v = p ∧ q = i + 1
  · have e : sp_a p i v q = (p, i + 2) := by unfold sp_a; exact if_pos (by omega)
    rw [e, if_pos h]
    unfold sp_b
    exact if_neg (fun z => ne z.1)
  · have e : sp_a p i v q = (v, q) := by unfold sp_a; exact if_neg (by omega)
    rw [e, if_neg h]
    unfold sp_b
    by_cases h2 : v = t ∧ o < q
    · rw [if_pos h2, if_pos (by omega)]
    · rw [if_neg h2, if_neg (by omega)]
theorem sp_P1 {c : Nat} {kd pa sz it pn po : Nat → Nat} (T : tr_T c kd pa sz it) (P : pl_P c kd pa sz it pn po) {p i t f o : Nat} (ht : t < c) (hf : f < c) (kt : kd t = 1) (kf : kd f = 1) (ne : t ≠ f) (ho : o ≤ sz t) (nf : ∀ k, k < 8 → pn k ≠ f)
    (hp : p < c) (kp : kd p = 0) (hi : i + 1 < sz p) (et : it (24 * p + i) = t) (ef : it (24 * p + (i + 1)) = f) :
    tr_T c kd pa (st_u (st_u sz f (sz t - o)) t o) (cp_i it (24 * t + o) (24 * f) (sz t - o)) ∧ pl_P c kd pa (st_u (st_u sz f (sz t - o)) t o) (cp_i it (24 * t + o) (24 * f) (sz t - o)) (mp_n (pl_sp p i t o f) pn po) (mp_o (pl_sp p i t o f) pn po) := by
  obtain ⟨h0, h1⟩ := sp_h T ht kt kf ne ho
  have npt : p ≠ t := by rintro rfl; omega
  have npf : p ≠ f := by rintro rfl; omega
  refine ⟨tr_Ttx T h0 h1, pl_map _ (fun v q => pl_ok c sz v q ∧ v ≠ f) P (fun k hk => ⟨P.1 k hk, nf k hk⟩) ?_ ?_⟩
  · rintro v q ⟨h, e⟩
    have := h.2
    unfold pl_sp
    split
    · exact ⟨hp, by rw [st_un npt, st_un npf]; dsimp only; omega⟩
    · split
      · rename_i z
        have z1 := z.1
        subst z1
        exact ⟨hf, by rw [st_un (Ne.symm ne), st_us]; dsimp only; omega⟩
      · rename_i z
        refine ⟨h.1, ?_⟩
        dsimp only
        by_cases e1 : v = t
        · subst e1; rw [st_us]; omega
        · rw [st_un e1, st_un e]; exact h.2
  · rintro v q v' q' h h' R
    exact pl_Rsp T h0 hp kp hi et ef kt kf h.1.1 h'.1.1 h.2 h'.2 R
theorem i_vc_split {k : Nat} {u : SX} {v : SY} (I : i_Rel k u v) (hk : k + 5 ≤ 2560) (v1 : Int32) (v2 : Int32) : wpX_split (fun r u' => wpY_split (fun r' v' => r' = r ∧ i_Rel (k + 5) u' v') v v1 v2) u v1 v2 := by
  have J := i_up I
  obtain ⟨c, kd, pa, sz, it, pn, po, sg, eg, rl, rn, oa, ca, il, dm, ln, mk, os, cs, cm, rfl, rfl, T, P⟩ := I
  have c24 := tr_c24 T
  unfold wpX_split
  dsimp only
  rcases nd_cases c v1 with ⟨t, ht, rfl⟩ | h
  · have hti : vp_in (nI t) 24 := vp_in_nI (by omega) (by omega)
    have s24 := tr_s24 T ht
    rcases tr_k1 T ht with kt | kt
    · refine xx_isOfKind_k (k := 1) c24 ht (by omega) (by omega) (by omega) (br_t rfl ?_)
      unfold wpY_split
      dsimp only
      exact yy_isTextNode_k c24 ht kt (br_t rfl ⟨rfl, J⟩)
    · refine xx_isOfKind_t (k := 1) c24 ht kt (br_f (by decide) ?_)
      by_cases z : v2 < 0
      · refine br_t z ?_
        unfold wpY_split
        dsimp only
        exact yy_isTextNode_t c24 ht kt (br_f (by decide) (br_t z ⟨rfl, J⟩))
      · obtain ⟨o, ho, rfl⟩ := nI_of z
        refine br_f z (in_c hti ?_)
        have sa : ar_n sz (nI t).toNatClampNeg = nI (sz t) := ar_nc _ (by omega)
        rw [sa]
        refine cb_i (nI_leI ho (by omega)) (fun l => ?_) (fun l => ?_)
        · have YW : ∀ (post : Int32 → SY → Prop), wpY_make (fun r_18 u => match u with | (f_count_19, f_length_20, a_isText_21, a_parents_22, a_sizes_23, a_items_24, a_placeNode_25, a_placeOffset_26, a_marks_27, a_opens_28, a_closes_29, a_coming_30) => (((0 ≤ r_18 → (vp_in (nI t) 24 ∧ (∀ x4_33 : Int32, x4_33 = a_parents_22 (nI t).toNatClampNeg → (((x4_33 < 0 → (∃ n104 : Nat, wY_split_104 post (nI t) (nI o) r_18 f_count_19 f_length_20 n104 0 a_isText_21 a_parents_22 a_sizes_23 a_items_24 a_placeNode_25 a_placeOffset_26 a_marks_27 a_opens_28 a_closes_29 a_coming_30)) ∧ (¬ x4_33 < 0 → (wpY_indexOf (fun r_62 => (wpY_putIn (fun u => match u with | (f_count_76, f_length_77, a_isText_78, a_parents_79, a_sizes_80, a_items_81, a_placeNode_82, a_placeOffset_83, a_marks_84, a_opens_85, a_closes_86, a_coming_87) => (wpY_movePlaces (fun u => match u with | (f_count_89, f_length_90, a_isText_91, a_parents_92, a_sizes_93, a_items_94, a_placeNode_95, a_placeOffset_96, a_marks_97, a_opens_98, a_closes_99, a_coming_100) => (wpY_movePlaces (fun u => match u with | (f_count_102, f_length_103, a_isText_104, a_parents_105, a_sizes_106, a_items_107, a_placeNode_108, a_placeOffset_109, a_marks_110, a_opens_111, a_closes_112, a_coming_113) => (∃ n104 : Nat, wY_split_104 post (nI t) (nI o) r_18 f_count_102 f_length_103 n104 0 a_isText_104 a_parents_105 a_sizes_106 a_items_107 a_placeNode_108 a_placeOffset_109 a_marks_110 a_opens_111 a_closes_112 a_coming_113)) (f_count_89, f_length_90, a_isText_91, a_parents_92, a_sizes_93, a_items_94, a_placeNode_95, a_placeOffset_96, a_marks_97, a_opens_98, a_closes_99, a_coming_100) (nI t) (nI o + 1) 12 r_18 (-nI o))) (f_count_76, f_length_77, a_isText_78, a_parents_79, a_sizes_80, a_items_81, a_placeNode_82, a_placeOffset_83, a_marks_84, a_opens_85, a_closes_86, a_coming_87) x4_33 (r_62 + 1) (r_62 + 1) x4_33 1)) (f_count_19, f_length_20, a_isText_21, a_parents_22, a_sizes_23, a_items_24, a_placeNode_25, a_placeOffset_26, a_marks_27, a_opens_28, a_closes_29, a_coming_30) x4_33 r_18 (r_62 + 1))) (f_count_19, f_length_20, a_isText_21, a_parents_22, a_sizes_23, a_items_24, a_placeNode_25, a_placeOffset_26, a_marks_27, a_opens_28, a_closes_29, a_coming_30) (nI t)))))))) ∧ (¬ 0 ≤ r_18 → (post (-3) (f_count_19, f_length_20, a_isText_21, a_parents_22, a_sizes_23, a_items_24, a_placeNode_25, a_placeOffset_26, a_marks_27, a_opens_28, a_closes_29, a_coming_30)))))) (nI c, ln, ar_n kd, ar_p pa, ar_n sz, ar_n it, ar_n pn, ar_n po, mk, os, cs, cm) 1 → wpY_split post (nI c, ln, ar_n kd, ar_p pa, ar_n sz, ar_n it, ar_n pn, ar_n po, mk, os, cs, cm) (nI t) (nI o) := by
            intro post h
            unfold wpY_split
            dsimp only
            exact yy_isTextNode_t c24 ht kt (br_f (by decide) (br_f z (in_c hti (br_t (by rw [sa, nI_leI ho (by omega)]; exact l) h))))
          refine cb_i (nI_ltI (b := 24) (by omega) (by omega)) (fun hc => ?_) (fun hc => ?_)
          · have T1 := tr_Tmake T hc (k := 1) (by omega)
            have P1 := pl_Pmk T P (k := 1)
            have ne : t ≠ c := by omega
            have e1 : st_u sz c 0 t = sz t := st_un ne
            have e2 : st_u sz c 0 c = 0 := st_us _ _ _
            have e3 : st_u pa c 0 t = pa t := st_un ne
            have kt1 : st_u kd c 1 t = 1 := by rw [st_un ne]; exact kt
            have kf1 : st_u kd c 1 c = 1 := st_us _ _ _
            have nf : ∀ j, j < 8 → pn j ≠ c := fun j hj => by have := (P.1 j hj).1; omega
            have b8 := pl_sm8 T1 P1.1
            have pos : (0 : Int32) ≤ nI c := nI_pos' (by omega)
            refine xx_makeNode (k := 1) hc (in_c hti ?_)
            cases e : pa t with
            | zero =>
              obtain ⟨TF, PF⟩ := sp_P0 T1 P1 (t := t) (f := c) (o := o) (by omega) (by omega) kt1 kf1 ne (by omega) nf
              refine nm_r ((ar_pc _ (by omega)).trans (by rw [e3, e])) (br_t (by decide) (in_c hti ?_))
              dsimp only
              rw [ar_nc _ (by omega), e1, nI_1 o]
              refine xx_gatherPlaces (sp_0 t o) b8 (by omega) (by omega) (by omega) ?_ ?_
              · intro j hj
                have := (P.1 j hj).2
                refine ⟨fun q => ?_, fun q => ?_⟩
                · unfold sp_0; rw [if_pos (by omega)]; exact ⟨rfl, rfl⟩
                · unfold sp_0
                  rw [if_neg]
                  rintro ⟨q1, q2⟩
                  rw [q1] at this
                  exact q ⟨q1, by omega, by omega⟩
              · unfold wX_split_128
                refine xx_hand0 (by omega) (by omega) ne (by omega) (by omega) e2 ?_
                refine YW _ (yy_make (k := 1) (by omega) hc (br_t pos (in_c hti (nm_r ((ar_pc _ (by omega)).trans (by rw [e3, e])) (br_t (by decide) (yy_split104 b8 (by omega) (by omega) (by omega) (by omega) ne (by omega) ?_))))))
                exact ⟨rfl, rel_mk TF PF⟩
            | succ p =>
              obtain ⟨hp, kp, i, hi, he⟩ := tr_pe T ht e
              have sp24 := tr_sz T hp kp
              have nec : p ≠ c := by omega
              have f1 : st_u sz c 0 p = sz p := st_un nec
              have kp1 : st_u kd c 1 p = 0 := by rw [st_un nec]; exact kp
              have npt : p ≠ t := by rintro rfl; omega
              have nw : ¬ tr_w (st_u pa c 0) (p + 1) c := fun z => by have := tr_lt T hp (tr_e1 z); omega
              have e31 : st_u pa c 0 t = p + 1 := by rw [e3, e]
              have T2 := tr_Tput T1 (n0 := c) (p0 := p) (i0 := i + 1) (by omega) kp1 (by omega) (st_us _ _ _) nw (by rw [f1]; omega)
              have P2 := pl_Ppt T1 (n0 := c) (p0 := p) (i0 := i + 1) (by omega) kp1 (by omega) (st_us _ _ _) nw (by rw [f1]; omega) P1
              have b82 := pl_sm8 T2 P2.1
              have nf2 : ∀ j, j < 8 → mp_n (pl_pt p (i + 1)) pn po j ≠ c := fun j hj => by rw [mp_n1 hj, pl_p1]; exact nf j hj
              have g1 : st_u (st_u sz c 0) p (st_u sz c 0 p + 1) t = sz t := by rw [st_un (Ne.symm npt), e1]
              have g2 : st_u (st_u sz c 0) p (st_u sz c 0 p + 1) c = 0 := by rw [st_un (by omega), e2]
              have g3 : st_u (st_u sz c 0) p (st_u sz c 0 p + 1) p = sz p + 1 := by rw [st_us, f1]
              have et : st_u (mv_r it (24 * p) (i + 1) (st_u sz c 0 p) 1) (24 * p + (i + 1)) c (24 * p + i) = t := by
                rw [st_un (by omega), mv_rb it (by omega)]; exact he
              obtain ⟨TF, PF⟩ := sp_P1 T2 P2 (p := p) (i := i) (t := t) (f := c) (o := o) (by omega) (by omega) kt1 kf1 ne (by rw [g1]; exact l) nf2 (by omega) kp1 (by rw [g3]; omega) et (st_us _ _ _)
              have ba : ∀ j, j < 8 → mp_n (sp_a p i) (mp_n (pl_pt p (i + 1)) pn po) (mp_o (pl_pt p (i + 1)) pn po) j < 24 ∧ mp_o (sp_a p i) (mp_n (pl_pt p (i + 1)) pn po) (mp_o (pl_pt p (i + 1)) pn po) j < 25 := by
                intro j hj
                have := b82 j hj
                rw [mp_n1 (F := sp_a p i) hj, mp_o1 (F := sp_a p i) hj]
                unfold sp_a
                split
                · dsimp only; omega
                · exact this
              have ab := fun (j : Nat) (_ : j < 8) => sp_ab (i := i) (o := o) (f := c) npt (mp_n (pl_pt p (i + 1)) pn po j) (mp_o (pl_pt p (i + 1)) pn po j)
              refine nm_r ((ar_pc _ (by omega)).trans (by rw [e31, nI_pred])) (br_f ?_ (xx_indexOf T1 (by omega) e31 (by rw [f1]; exact hi) he ?_))
              · intro z
                have := nI_pos (n := p) (by omega)
                rw [z] at this
                exact this (by decide)
              · rw [nI_1 i, nI_1 o, show nI i + 2 = nI (i + 2) from nI_add i 2]
                refine xx_putIn T1 P1.1 (by omega) (by omega) (by rw [f1]; omega) (by rw [f1]; omega) ?_
                refine xx_gatherPlaces (sp_a p i) b82 (by omega) (by omega) (by omega) ?_ ?_
                · intro j hj
                  refine ⟨fun q => ?_, fun q => ?_⟩
                  · unfold sp_a; rw [if_pos q]; exact ⟨rfl, rfl⟩
                  · unfold sp_a; rw [if_neg q]
                · refine xx_slidePlaces (sp_b t o c) ba (by omega) (by omega) ?_ ?_
                  · intro j hj
                    refine ⟨fun q => ?_, fun q => ?_⟩
                    · unfold sp_b
                      rw [if_pos q]
                      exact ⟨rfl, by rw [← Int32.sub_eq_add_neg, pk_sub (by omega)]⟩
                    · unfold sp_b; rw [if_neg q]
                  · rw [mp_nn (sp_a p i) (sp_b t o c), mp_oo (sp_a p i) (sp_b t o c), mp_nc (F := fun v q => sp_b t o c (sp_a p i v q).1 (sp_a p i v q).2) (G := pl_sp p i t o c) ab, mp_oc (F := fun v q => sp_b t o c (sp_a p i v q).1 (sp_a p i v q).2) (G := pl_sp p i t o c) ab]
                    unfold wX_split_128
                    refine xx_hand0 (by omega) (by omega) ne (by rw [g1]; omega) (by rw [g1]; exact l) g2 ?_
                    refine YW _ (yy_make (k := 1) (by omega) hc (br_t pos (in_c hti (nm_r ((ar_pc _ (by omega)).trans (by rw [e31, nI_pred])) (br_f (nI_pos (by omega)) (yy_indexOf T1 (by omega) e31 (by rw [f1]; exact hi) he ?_))))))
                    rw [nI_1 i, nI_1 o]
                    refine yy_putIn T1 P1.1 (by omega) (by omega) (by rw [f1]; omega) (by rw [f1]; omega) ?_
                    refine yy_movePlaces (sp_a p i) b82 (by omega) (by omega) (by omega) ?_ ?_
                    · intro j hj
                      refine ⟨fun q => ?_, fun q => ?_⟩
                      · unfold sp_a; rw [if_pos q]; exact ⟨rfl, by rw [nI_1]; congr 1; omega⟩
                      · unfold sp_a; rw [if_neg q]
                    · refine yy_movePlaces (hi := 12) (sp_b t o c) ba (by omega) (by omega) (by omega) ?_ ?_
                      · intro j hj
                        have tt := (T.2.2.1 t ht kt).1
                        have val := (P2.1 j hj).2
                        refine ⟨fun q => ?_, fun q => ?_⟩
                        · unfold sp_b
                          rw [if_pos ⟨q.1, q.2.1⟩]
                          exact ⟨rfl, by rw [← Int32.sub_eq_add_neg, pk_sub (by omega)]⟩
                        · unfold sp_b
                          rw [if_neg]
                          intro y
                          apply q
                          refine ⟨y.1, y.2, ?_⟩
                          have y1 := y.1
                          rw [mp_n1 (F := sp_a p i) hj] at y1
                          rw [mp_o1 (F := sp_a p i) hj]
                          by_cases w : mp_n (pl_pt p (i + 1)) pn po j = p ∧ i + 1 ≤ mp_o (pl_pt p (i + 1)) pn po j ∧ mp_o (pl_pt p (i + 1)) pn po j ≤ i + 1
                          · unfold sp_a at y1
                            rw [if_pos w] at y1
                            exact absurd y1 npt
                          · unfold sp_a at y1 ⊢
                            rw [if_neg w] at y1 ⊢
                            dsimp only at y1 ⊢
                            rw [y1, g1] at val
                            omega
                      · rw [mp_nn (sp_a p i) (sp_b t o c), mp_oo (sp_a p i) (sp_b t o c), mp_nc (F := fun v q => sp_b t o c (sp_a p i v q).1 (sp_a p i v q).2) (G := pl_sp p i t o c) ab, mp_oc (F := fun v q => sp_b t o c (sp_a p i v q).1 (sp_a p i v q).2) (G := pl_sp p i t o c) ab]
                        have idn : ∀ j, j < 8 → sp_0 t o (mp_n (pl_sp p i t o c) (mp_n (pl_pt p (i + 1)) pn po) (mp_o (pl_pt p (i + 1)) pn po) j) (mp_o (pl_sp p i t o c) (mp_n (pl_pt p (i + 1)) pn po) (mp_o (pl_pt p (i + 1)) pn po) j) = (mp_n (pl_sp p i t o c) (mp_n (pl_pt p (i + 1)) pn po) (mp_o (pl_pt p (i + 1)) pn po) j, mp_o (pl_sp p i t o c) (mp_n (pl_pt p (i + 1)) pn po) (mp_o (pl_pt p (i + 1)) pn po) j) := by
                          intro j hj
                          rw [mp_n1 (F := pl_sp p i t o c) hj, mp_o1 (F := pl_sp p i t o c) hj]
                          unfold sp_0
                          rw [if_neg]
                          unfold pl_sp
                          split
                          · exact fun y => npt y.1
                          · split
                            · exact fun y => ne y.1.symm
                            · rename_i y; exact y
                        have bF := pl_sm8 TF PF.1
                        refine yy_split104 bF (by omega) (by rw [g1]; omega) (by omega) (by omega) ne (by rw [g1]; exact l) ?_
                        rw [mp_ni idn, mp_oi idn]
                        exact ⟨rfl, rel_mk TF PF⟩
          · exact YW _ (yy_make_f (by omega) (br_f (by decide) ⟨rfl, J⟩))
        · unfold wpY_split
          dsimp only
          exact yy_isTextNode_t c24 ht kt (br_f (by decide) (br_f z (in_c hti (br_f (by rw [sa, nI_leI ho (by omega)]; exact l) ⟨rfl, J⟩))))
  · refine xx_isOfKind_f c24 h (br_t rfl ?_)
    unfold wpY_split
    dsimp only
    exact yy_isTextNode_f c24 h (br_t rfl ⟨rfl, J⟩)
end
section
/-! join -/
theorem jn_h {c : Nat} {kd pa sz it : Nat → Nat} (T : tr_T c kd pa sz it) {t s : Nat} (ht : t < c) (hs : s < c) (kt : kd t = 1) (ks : kd s = 1) (ne : t ≠ s) (hm : sz t + sz s ≤ 12) :
    (∀ n, n < c → kd n = 0 → st_u (st_u sz t (sz t + sz s)) s 0 n = sz n ∧ ∀ i, i < 24 → cp_i it (24 * s) (24 * t + sz t) (sz s) (24 * n + i) = it (24 * n + i)) ∧
    (∀ n, n < c → kd n = 1 → st_u (st_u sz t (sz t + sz s)) s 0 n ≤ 12 ∧ ∀ i, i < st_u (st_u sz t (sz t + sz s)) s 0 n → cp_i it (24 * s) (24 * t + sz t) (sz s) (24 * n + i) ≤ 9) := by
  have tt := T.2.2.1 t ht kt
  have ts := T.2.2.1 s hs ks
  have oth : ∀ n i, n ≠ t → i < 24 → cp_i it (24 * s) (24 * t + sz t) (sz s) (24 * n + i) = it (24 * n + i) := by
    intro n i e hi
    unfold cp_i
    exact if_neg (by omega)
  refine ⟨fun n hn kn => ?_, fun n hn kn => ?_⟩
  · have e1 : n ≠ t := by rintro rfl; omega
    have e2 : n ≠ s := by rintro rfl; omega
    exact ⟨by rw [st_un e2, st_un e1], fun i hi => oth n i e1 hi⟩
  · by_cases e2 : n = s
    · subst e2
      rw [st_us]
      exact ⟨by omega, fun i hi => by omega⟩
    · rw [st_un e2]
      by_cases e1 : n = t
      · subst e1
        rw [st_us]
        refine ⟨hm, fun i hi => ?_⟩
        by_cases l : i < sz n
        · have : cp_i it (24 * s) (24 * n + sz n) (sz s) (24 * n + i) = it (24 * n + i) := by
            unfold cp_i; exact if_neg (by omega)
          rw [this]
          exact tt.2 i l
        · unfold cp_i
          rw [if_pos (by omega), show 24 * s + (24 * n + i - (24 * n + sz n)) = 24 * s + (i - sz n) by omega]
          exact ts.2 _ (by omega)
      · rw [st_un e1]
        have := T.2.2.1 n hn kn
        refine ⟨this.1, fun i hi => ?_⟩
        rw [oth n i e1 (by omega)]
        exact this.2 i hi
def jn_1 (t m s v q : Nat) : Nat × Nat := if v = s ∧ 0 ≤ q then (t, q + m) else (v, q)
def jn_2 (p i t m v q : Nat) : Nat × Nat := if v = p ∧ i + 1 ≤ q ∧ q ≤ i + 1 then (t, m) else (v, q)
theorem jn_12 {p i t m s : Nat} (npt : p ≠ t) (v q : Nat) : jn_2 p i t m (jn_1 t m s v q).1 (jn_1 t m s v q).2 = pl_jn p i t m s v q := by
  unfold pl_jn
  by_cases h : v = s
  · have e : jn_1 t m s v q = (t, q + m) := by unfold jn_1; exact if_pos ⟨h, by omega⟩
    rw [e, if_pos h]
    unfold jn_2
    rw [if_neg (fun z => npt z.1.symm)]
    dsimp only
    rw [Nat.add_comm]
  · have e : jn_1 t m s v q = (v, q) := by unfold jn_1; exact if_neg (fun z => h z.1)
    rw [e, if_neg h]
    unfold jn_2
    by_cases h2 : v = p ∧ q = i + 1
    · rw [if_pos h2, if_pos (by omega)]
    · rw [if_neg h2, if_neg (by omega)]
theorem jn_P {c : Nat} {kd pa sz it pn po : Nat → Nat} (T : tr_T c kd pa sz it) (P : pl_P c kd pa sz it pn po) {p i t s : Nat} (ht : t < c) (hs : s < c) (kt : kd t = 1) (ks : kd s = 1) (ne : t ≠ s) (hm : sz t + sz s ≤ 12)
    (hp : p < c) (kp : kd p = 0) (hi : i + 1 < sz p) (et : it (24 * p + i) = t) (ef : it (24 * p + (i + 1)) = s) :
    tr_T c kd pa (st_u (st_u sz t (sz t + sz s)) s 0) (cp_i it (24 * s) (24 * t + sz t) (sz s)) ∧ pl_P c kd pa (st_u (st_u sz t (sz t + sz s)) s 0) (cp_i it (24 * s) (24 * t + sz t) (sz s)) (mp_n (pl_jn p i t (sz t) s) pn po) (mp_o (pl_jn p i t (sz t) s) pn po) := by
  obtain ⟨h0, h1⟩ := jn_h T ht hs kt ks ne hm
  have npt : p ≠ t := by rintro rfl; omega
  have npf : p ≠ s := by rintro rfl; omega
  refine ⟨tr_Ttx T h0 h1, pl_map _ (pl_ok c sz) P P.1 ?_ ?_⟩
  · intro v q h
    have := h.2
    unfold pl_jn
    split
    · rename_i z
      subst z
      exact ⟨ht, by rw [st_un ne, st_us]; dsimp only; omega⟩
    · split
      · exact ⟨ht, by rw [st_un ne, st_us]; dsimp only; omega⟩
      · rename_i z _
        refine ⟨h.1, ?_⟩
        dsimp only
        rw [st_un z]
        by_cases e1 : v = t
        · subst e1; rw [st_us]; omega
        · rw [st_un e1]; exact h.2
  · intro v q v' q' h h' R
    exact pl_Rjn T h0 hp kp hi et ef kt ks h h' R
theorem i_vc_join {k : Nat} {u : SX} {v : SY} (I : i_Rel k u v) (hk : k + 5 ≤ 2560) (v1 : Int32) : wpX_join (fun r u' => wpY_join (fun r' v' => r' = r ∧ i_Rel (k + 5) u' v') v v1) u v1 := by
  have J := i_up I
  obtain ⟨c, kd, pa, sz, it, pn, po, sg, eg, rl, rn, oa, ca, il, dm, ln, mk, os, cs, cm, rfl, rfl, T, P⟩ := I
  have c24 := tr_c24 T
  unfold wpX_join
  dsimp only
  rcases nd_cases c v1 with ⟨t, ht, rfl⟩ | h
  · have hti : vp_in (nI t) 24 := vp_in_nI (by omega) (by omega)
    have s24 := tr_s24 T ht
    rcases tr_k1 T ht with kt | kt
    · refine xx_isOfKind_k (k := 1) c24 ht (by omega) (by omega) (by omega) (br_t rfl ?_)
      unfold wpY_join
      dsimp only
      exact yy_isTextNode_k c24 ht kt (br_t rfl ⟨rfl, J⟩)
    · refine xx_isOfKind_t (k := 1) c24 ht kt (br_f (by decide) ?_)
      cases e : pa t with
      | zero =>
        refine xx_nextChild_0 (by omega) e (br_t rfl ?_)
        unfold wpY_join
        dsimp only
        exact yy_isTextNode_t c24 ht kt (br_f (by decide) (in_c hti (nm_r ((ar_pc _ (by omega)).trans (by rw [e])) (br_f (by decide) (br_t (by decide) ⟨rfl, J⟩)))))
      | succ p =>
        obtain ⟨hp, kp, i, hi, he⟩ := tr_pe T ht e
        have sp24 := tr_s24 T hp
        have hpi : vp_in (nI p) 24 := vp_in_nI (by omega) (by omega)
        have YW : ∀ (post : Int32 → SY → Prop), wY_join_32 post (nI t) (nI p) (nI (i + 1)) (nI c) ln (ar_n kd) (ar_p pa) (ar_n sz) (ar_n it) (ar_n pn) (ar_n po) mk os cs cm → wpY_join post (nI c, ln, ar_n kd, ar_p pa, ar_n sz, ar_n it, ar_n pn, ar_n po, mk, os, cs, cm) (nI t) := by
          intro post h
          unfold wpY_join
          dsimp only
          refine yy_isTextNode_t c24 ht kt (br_f (by decide) (in_c hti (nm_r ((ar_pc _ (by omega)).trans (by rw [e, nI_pred])) (br_t (nI_pos' (by omega)) (yy_indexOf T ht e hi he ?_)))))
          rw [nI_1]
          exact h
        refine xx_nextChild T ht e hi he (fun l => ?_) (fun l => br_t rfl (YW _ (br_f (nI_pos (by omega)) (in_c hpi (br_t (by rw [ar_nc _ (by omega), nI_leI (by omega) (by omega)]; exact l) ⟨rfl, J⟩)))))
        have cs' := tr_ch T hp kp l
        generalize es : it (24 * p + (i + 1)) = s at cs'
        obtain ⟨hs, ps⟩ := cs'
        have hsi : vp_in (nI s) 24 := vp_in_nI (by omega) (by omega)
        have ss24 := tr_s24 T hs
        have ne : t ≠ s := by
          intro q
          have := tr_in T hp kp (i := i) (j := i + 1) hi l (by rw [he, es, q])
          omega
        have y1 : ¬ ar_n sz (nI p).toNatClampNeg ≤ nI (i + 1) := by rw [ar_nc _ (by omega), nI_leI (by omega) (by omega)]; omega
        have y2 : ar_n it (24 * nI p + nI (i + 1)).toNatClampNeg = nI s := by rw [ix_y, ar_nc _ (by omega), es]
        have y3 : vp_in (24 * nI p + nI (i + 1)) 576 := by rw [ix_y]; exact vp_in_nI (by omega) (by omega)
        refine br_f ?_ (in_c hsi ?_)
        · intro z
          have := nI_pos (n := s) (by omega)
          rw [z] at this
          exact this (by decide)
        · rw [ar_nc _ (by omega)]
          rcases tr_k1 T hs with ks | ks
          · rw [ks]
            refine br_f (by decide) (YW _ (br_f (nI_pos (by omega)) (in_c hpi (br_f y1 (in_c y3 ?_)))))
            rw [y2]
            exact in_c hsi (br_t (by rw [ar_nc _ (by omega), ks]; rfl) ⟨rfl, J⟩)
          · rw [ks]
            refine br_t rfl (in_c hti (nm_r (ar_nc _ (by omega)) (in_c hsi ?_)))
            rw [ar_nc _ (by omega), nI_add]
            have YV : ∀ (post : Int32 → SY → Prop), (sz t + sz s ≤ 12 → wpY_movePlaces (fun u => match u with | (f_count_44, f_length_45, a_isText_46, a_parents_47, a_sizes_48, a_items_49, a_placeNode_50, a_placeOffset_51, a_marks_52, a_opens_53, a_closes_54, a_coming_55) => (wpY_movePlaces (fun u => match u with | (f_count_57, f_length_58, a_isText_59, a_parents_60, a_sizes_61, a_items_62, a_placeNode_63, a_placeOffset_64, a_marks_65, a_opens_66, a_closes_67, a_coming_68) => (∃ n135 : Nat, wY_join_135 post (nI t) (nI s) (nI (sz t)) f_count_57 f_length_58 n135 0 a_isText_59 a_parents_60 a_sizes_61 a_items_62 a_placeNode_63 a_placeOffset_64 a_marks_65 a_opens_66 a_closes_67 a_coming_68)) (f_count_44, f_length_45, a_isText_46, a_parents_47, a_sizes_48, a_items_49, a_placeNode_50, a_placeOffset_51, a_marks_52, a_opens_53, a_closes_54, a_coming_55) (nI p) (nI (i + 1)) (nI (i + 1)) (nI t) (nI (sz t) - nI (i + 1)))) (nI c, ln, ar_n kd, ar_p pa, ar_n sz, ar_n it, ar_n pn, ar_n po, mk, os, cs, cm) (nI s) 0 12 (nI t) (nI (sz t))) → (¬ sz t + sz s ≤ 12 → post (-3) (nI c, ln, ar_n kd, ar_p pa, ar_n sz, ar_n it, ar_n pn, ar_n po, mk, os, cs, cm)) → wpY_join post (nI c, ln, ar_n kd, ar_p pa, ar_n sz, ar_n it, ar_n pn, ar_n po, mk, os, cs, cm) (nI t) := by
              intro post h1 h2
              refine YW _ (br_f (nI_pos (by omega)) (in_c hpi (br_f y1 (in_c y3 ?_))))
              rw [y2]
              refine in_c hsi (br_f (by rw [ar_nc _ (by omega), ks]; decide) (in_c y3 (nm_e (in_c hti (nm_r (ar_nc _ (by omega)) (in_c hsi ?_))))))
              rw [ar_nc _ (by omega), nI_add]
              exact cb_i (nI_leI (b := 12) (by omega) (by omega)) h1 h2
            refine cb_i (nI_leI (b := 12) (by omega) (by omega)) (fun hm => ?_) (fun hm => YV _ (fun z => absurd z hm) (fun _ => ⟨rfl, J⟩))
            have npt : p ≠ t := by rintro rfl; omega
            have nps : p ≠ s := by rintro rfl; omega
            have b8 := pl_sm8 T P.1
            obtain ⟨TF, PF⟩ := jn_P T P ht hs kt ks ne hm hp kp l he es
            have h0 := (jn_h T ht hs kt ks ne hm).1 p hp kp
            have b1 : ∀ j, j < 8 → mp_n (jn_1 t (sz t) s) pn po j < 24 ∧ mp_o (jn_1 t (sz t) s) pn po j < 25 := by
              intro j hj
              have := b8 j hj
              have val := (P.1 j hj).2
              rw [mp_n1 hj, mp_o1 hj]
              unfold jn_1
              split
              · rename_i z; rw [z.1] at val; dsimp only; omega
              · exact this
            have ab := fun (j : Nat) (_ : j < 8) => jn_12 (i := i) (m := sz t) (s := s) npt (pn j) (po j)
            refine xx_indexOf T hs ps l es (xx_slidePlaces (lo := 0) (jn_1 t (sz t) s) b8 (by omega) (by omega) ?_ (in_c hti ?_))
            · intro j hj
              refine ⟨fun q => ?_, fun q => ?_⟩
              · unfold jn_1; rw [if_pos q]; exact ⟨rfl, (nI_add _ _).symm⟩
              · unfold jn_1; rw [if_neg q]
            · dsimp only
              rw [show ar_p pa (nI t).toNatClampNeg = nI p by rw [ar_pc _ (by omega), e, nI_pred]]
              refine xx_gatherPlaces (jn_2 p i t (sz t)) b1 (by omega) (by omega) (by omega) ?_ ?_
              · intro j hj
                refine ⟨fun q => ?_, fun q => ?_⟩
                · unfold jn_2; rw [if_pos q]; exact ⟨rfl, rfl⟩
                · unfold jn_2; rw [if_neg q]
              · rw [mp_nn (jn_1 t (sz t) s) (jn_2 p i t (sz t)), mp_oo (jn_1 t (sz t) s) (jn_2 p i t (sz t)), mp_nc (F := fun v q => jn_2 p i t (sz t) (jn_1 t (sz t) s v q).1 (jn_1 t (sz t) s v q).2) (G := pl_jn p i t (sz t) s) ab, mp_oc (F := fun v q => jn_2 p i t (sz t) (jn_1 t (sz t) s v q).1 (jn_1 t (sz t) s v q).2) (G := pl_jn p i t (sz t) s) ab]
                have hz : i + 1 < st_u (st_u sz t (sz t + sz s)) s 0 p := by rw [h0.1]; exact l
                have hes : cp_i it (24 * s) (24 * t + sz t) (sz s) (24 * p + (i + 1)) = s := by rw [h0.2 _ (by omega)]; exact es
                refine xx_handLetters (o := 0) (by omega) (by omega) (Ne.symm ne) (by omega) (by omega) (by omega) ?_
                refine xx_takeOut TF PF.1 hs ps hz hes ?_
                refine YV _ (fun _ => ?_) (fun z => absurd hm z)
                refine yy_movePlaces (lo := 0) (hi := 12) (jn_1 t (sz t) s) b8 (by omega) (by omega) (by omega) ?_ ?_
                · intro j hj
                  have ts := (T.2.2.1 s hs ks).1
                  have val := (P.1 j hj).2
                  refine ⟨fun q => ?_, fun q => ?_⟩
                  · unfold jn_1; rw [if_pos ⟨q.1, by omega⟩]; exact ⟨rfl, (nI_add _ _).symm⟩
                  · unfold jn_1
                    rw [if_neg]
                    intro w
                    rw [w.1] at val
                    exact q ⟨w.1, by omega, by omega⟩
                · refine yy_movePlaces (jn_2 p i t (sz t)) b1 (by omega) (by omega) (by omega) ?_ ?_
                  · intro j hj
                    refine ⟨fun q => ?_, fun q => ?_⟩
                    · unfold jn_2
                      rw [if_pos q]
                      refine ⟨rfl, ?_⟩
                      rw [show mp_o (jn_1 t (sz t) s) pn po j = i + 1 by omega, ← nj_sb (k := sz t) (c := i + 1) (by omega) (by omega) (i + 1) (by omega)]
                      congr 1
                      omega
                    · unfold jn_2; rw [if_neg q]
                  · rw [mp_nn (jn_1 t (sz t) s) (jn_2 p i t (sz t)), mp_oo (jn_1 t (sz t) s) (jn_2 p i t (sz t)), mp_nc (F := fun v q => jn_2 p i t (sz t) (jn_1 t (sz t) s v q).1 (jn_1 t (sz t) s v q).2) (G := pl_jn p i t (sz t) s) ab, mp_oc (F := fun v q => jn_2 p i t (sz t) (jn_1 t (sz t) s v q).1 (jn_1 t (sz t) s v q).2) (G := pl_jn p i t (sz t) s) ab]
                    refine yy_join135 (by omega) (by omega) (Ne.symm ne) (by omega) ?_
                    refine yy_takeOut TF PF.1 hs ps hz hes ?_
                    exact ⟨rfl, rel_mk (tr_Ttake TF hs ps hz hes) (pl_Ptk TF hs ps hz hes PF)⟩
  · refine xx_isOfKind_f c24 h (br_t rfl ?_)
    unfold wpY_join
    dsimp only
    exact yy_isTextNode_f c24 h (br_t rfl ⟨rfl, J⟩)
end
section
/-! the row of a tree: lengths and positions -/
def ly_s (f : Nat → Nat) : Nat → Nat
  | 0 => 0
  | k + 1 => ly_s f k + f k
theorem ly_sc {f g : Nat → Nat} : ∀ k, (∀ i, i < k → f i = g i) → ly_s f k = ly_s g k := by
  intro k
  induction k with
  | zero => intro _; rfl
  | succ k ih => intro h; show ly_s f k + f k = ly_s g k + g k; rw [ih (fun i hi => h i (by omega)), h k (by omega)]
theorem ly_sl {f g : Nat → Nat} : ∀ k, (∀ i, i < k → f i ≤ g i) → ly_s f k ≤ ly_s g k := by
  intro k
  induction k with
  | zero => intro _; exact Nat.le_refl _
  | succ k ih =>
    intro h
    have a := ih (fun i hi => h i (by omega))
    have b := h k (by omega)
    show ly_s f k + f k ≤ ly_s g k + g k
    omega
theorem ly_sa (f g : Nat → Nat) : ∀ k, ly_s (fun i => f i + g i) k = ly_s f k + ly_s g k := by
  intro k
  induction k with
  | zero => rfl
  | succ k ih => show ly_s (fun i => f i + g i) k + (f k + g k) = ly_s f k + f k + (ly_s g k + g k); omega
theorem ly_sz : ∀ k, ly_s (fun _ => 0) k = 0 := by
  intro k
  induction k with
  | zero => rfl
  | succ k ih => show ly_s (fun _ => 0) k + 0 = 0; omega
theorem ly_sw (f : Nat → Nat → Nat) (k : Nat) : ∀ l, ly_s (fun i => ly_s (fun j => f i j) k) l = ly_s (fun j => ly_s (fun i => f i j) l) k := by
  intro l
  induction l with
  | zero => exact (ly_sz k).symm
  | succ l ih =>
    show ly_s (fun i => ly_s (fun j => f i j) k) l + ly_s (fun j => f l j) k = ly_s (fun j => ly_s (fun i => f i j) l + f l j) k
    rw [ly_sa, ih]
theorem ly_sm (f : Nat → Nat) {i j : Nat} (h : i ≤ j) : ly_s f i ≤ ly_s f j := by
  induction j with
  | zero => rw [show i = 0 by omega]; exact Nat.le_refl _
  | succ j ih =>
    by_cases e : i = j + 1
    · subst e; exact Nat.le_refl _
    · have := ih (by omega)
      show ly_s f i ≤ ly_s f j + f j
      omega
theorem ly_sf (f : Nat → Nat) : ∀ k r, r < ly_s f k → ∃ i, i < k ∧ ly_s f i ≤ r ∧ r < ly_s f (i + 1) := by
  intro k
  induction k with
  | zero => intro r h; exact absurd h (by show ¬ r < 0; omega)
  | succ k ih =>
    intro r h
    by_cases z : r < ly_s f k
    · obtain ⟨i, a, b⟩ := ih r z
      exact ⟨i, by omega, b⟩
    · exact ⟨k, by omega, by omega, h⟩
theorem ly_s1 {f : Nat → Nat} {x : Nat} : ∀ k, (∀ i, i < k → f i = 0 ∨ f i = x) → (∀ i j, i < k → j < k → f i ≠ 0 → f j ≠ 0 → i = j) → ly_s f k ≤ x := by
  intro k
  induction k with
  | zero => intro _ _; exact Nat.zero_le x
  | succ k ih =>
    intro h inj
    have a := ih (fun i hi => h i (by omega)) (fun i j hi hj => inj i j (by omega) (by omega))
    show ly_s f k + f k ≤ x
    by_cases z : f k = 0
    · omega
    · have : ly_s f k = 0 := by
        rw [ly_sc (g := fun _ => 0) k, ly_sz]
        intro i hi
        apply Classical.byContradiction
        intro q
        have := inj i k (by omega) (by omega) q z
        omega
      rcases h k (by omega) with q | q <;> omega
theorem ly_se {n c x : Nat} (h : n < c) : ly_s (fun m => if m = n then x else 0) c = x := by
  have : ∀ k, ly_s (fun m => if m = n then x else 0) k = if n < k then x else 0 := by
    intro k
    induction k with
    | zero => rfl
    | succ k ih =>
      show ly_s (fun m => if m = n then x else 0) k + (if k = n then x else 0) = _
      rw [ih]
      by_cases a : n < k
      · rw [if_pos a, if_neg (by omega), if_pos (by omega)]; omega
      · by_cases b : k = n
        · rw [if_neg a, if_pos b, if_pos (by omega)]; omega
        · rw [if_neg a, if_neg b, if_neg (by omega)]
  rw [this, if_pos h]
section
variable {c : Nat} {kd pa sz it : Nat → Nat}
theorem tr_B (rk : Nat → Nat) : ∀ c, ∃ B, ∀ n, n < c → rk n < B := by
  intro c
  induction c with
  | zero => exact ⟨0, fun n h => by omega⟩
  | succ c ih =>
    obtain ⟨B, h⟩ := ih
    refine ⟨B + rk c + 1, fun n hn => ?_⟩
    by_cases e : n = c
    · subst e; omega
    · have := h n (by omega); omega
/-- from the leaves up -/
theorem tr_hi (T : tr_T c kd pa sz it) {Q : Nat → Prop} (h : ∀ n, n < c → (kd n = 0 → ∀ i, i < sz n → Q (it (24 * n + i))) → Q n) : ∀ n, n < c → Q n := by
  obtain ⟨rk, hr, _⟩ := tr_rk T
  obtain ⟨B, hB⟩ := tr_B rk c
  have : ∀ d n, n < c → B - rk n ≤ d → Q n := by
    intro d
    induction d with
    | zero => intro n hn z; have := hB n hn; omega
    | succ d ih =>
      intro n hn z
      refine h n hn (fun k i hi => ?_)
      have a := tr_ch T hn k hi
      have b := hr _ _ a.1 a.2
      have := hB n hn
      exact ih _ a.1 (by omega)
  exact fun n hn => this _ n hn (Nat.le_refl _)
/-- from the tops down -/
theorem tr_ri (T : tr_T c kd pa sz it) {Q : Nat → Prop} (h : ∀ n, n < c → (∀ p, pa n = p + 1 → Q p) → Q n) : ∀ n, n < c → Q n := by
  obtain ⟨rk, hr, _⟩ := tr_rk T
  have : ∀ d n, n < c → rk n < d → Q n := by
    intro d
    induction d with
    | zero => intro n hn z; omega
    | succ d ih =>
      intro n hn z
      refine h n hn (fun p e => ?_)
      have b := hr _ _ hn e
      exact ih p (tr_pe T hn e).1 (by omega)
  exact fun n hn => this _ n hn (Nat.lt_succ_self _)
theorem ly_L (T : tr_T c kd pa sz it) (w : Nat → Nat) : ∃ L : Nat → Nat, ∀ n, n < c → L n = w n + (if kd n = 0 then ly_s (fun i => L (it (24 * n + i))) (sz n) else 0) := by
  obtain ⟨rk, hr, _⟩ := tr_rk T
  obtain ⟨B, hB⟩ := tr_B rk c
  have : ∀ d, ∃ L : Nat → Nat, ∀ n, n < c → B - rk n ≤ d → L n = w n + (if kd n = 0 then ly_s (fun i => L (it (24 * n + i))) (sz n) else 0) := by
    intro d
    induction d with
    | zero => exact ⟨fun _ => 0, fun n hn z => by have := hB n hn; omega⟩
    | succ d ih =>
      obtain ⟨L, hL⟩ := ih
      refine ⟨fun n => if B - rk n = d + 1 then w n + (if kd n = 0 then ly_s (fun i => L (it (24 * n + i))) (sz n) else 0) else L n, fun n hn z => ?_⟩
      have eq : kd n = 0 → ly_s (fun i => L (it (24 * n + i))) (sz n) = ly_s (fun i => if B - rk (it (24 * n + i)) = d + 1 then w (it (24 * n + i)) + (if kd (it (24 * n + i)) = 0 then ly_s (fun i_1 => L (it (24 * it (24 * n + i) + i_1))) (sz (it (24 * n + i))) else 0) else L (it (24 * n + i))) (sz n) := by
        intro k
        apply ly_sc
        intro i hi
        have a := tr_ch T hn k hi
        have b := hr _ _ a.1 a.2
        have := hB _ hn
        rw [if_neg (by omega)]
      try dsimp only
      by_cases e : B - rk n = d + 1
      · rw [if_pos e]
        by_cases k : kd n = 0
        · rw [if_pos k, if_pos k, eq k]
        · rw [if_neg k, if_neg k]
      · rw [if_neg e, hL n hn (by omega)]
        by_cases k : kd n = 0
        · rw [if_pos k, if_pos k, eq k]
        · rw [if_neg k, if_neg k]
  obtain ⟨L, hL⟩ := this B
  exact ⟨L, fun n hn => hL n hn (by omega)⟩
/-- what is summed over a tree is no more than over all nodes -/
theorem ly_Lb (T : tr_T c kd pa sz it) {w L : Nat → Nat} (hL : ∀ n, n < c → L n = w n + (if kd n = 0 then ly_s (fun i => L (it (24 * n + i))) (sz n) else 0)) : ∀ n, n < c → L n ≤ ly_s (fun m => cl_if (tr_w pa (m + 1) n) (w m) 0) c := by
  refine tr_hi T ?_
  intro n hn ih
  rw [hL n hn]
  by_cases k : kd n = 0
  · rw [if_pos k]
    have h1 : ly_s (fun i => L (it (24 * n + i))) (sz n) ≤ ly_s (fun i => ly_s (fun m => cl_if (tr_w pa (m + 1) (it (24 * n + i))) (w m) 0) c) (sz n) := ly_sl _ (fun i hi => ih k i hi)
    rw [ly_sw (fun i m => cl_if (tr_w pa (m + 1) (it (24 * n + i))) (w m) 0) c (sz n)] at h1
    have h2 := ly_se (x := w n) hn
    have h3 := ly_sa (fun m => if m = n then w n else 0) (fun m => ly_s (fun i => cl_if (tr_w pa (m + 1) (it (24 * n + i))) (w m) 0) (sz n)) c
    have h4 : ly_s (fun m => (if m = n then w n else 0) + ly_s (fun i => cl_if (tr_w pa (m + 1) (it (24 * n + i))) (w m) 0) (sz n)) c ≤ ly_s (fun m => cl_if (tr_w pa (m + 1) n) (w m) 0) c := by
      apply ly_sl
      intro m hm
      have z : ¬ tr_w pa (m + 1) n ∨ m = n → ly_s (fun i => cl_if (tr_w pa (m + 1) (it (24 * n + i))) (w m) 0) (sz n) = 0 := by
        intro q
        rw [ly_sc (g := fun _ => 0) (sz n), ly_sz]
        intro i hi
        try dsimp only
        have a := tr_ch T hn k hi
        apply cl_f
        intro y
        rcases q with q | q
        · exact q (tr_wt y (tr_wp a.2 (tr_wr _ _)))
        · subst q; exact tr_ac T a.1 a.2 y
      by_cases e : m = n
      · rw [z (Or.inr e), if_pos e, e, cl_t (tr_wr _ _)]; omega
      · rw [if_neg e]
        by_cases y : tr_w pa (m + 1) n
        · rw [cl_t y, Nat.zero_add]
          apply ly_s1
          · intro i hi
            by_cases q : tr_w pa (m + 1) (it (24 * n + i))
            · right; rw [cl_t q]
            · left; rw [cl_f q]
          · intro i j hi hj qi qj
            have ri : tr_w pa (m + 1) (it (24 * n + i)) := Classical.byContradiction fun q => qi (cl_f q _ _)
            have rj : tr_w pa (m + 1) (it (24 * n + j)) := Classical.byContradiction fun q => qj (cl_f q _ _)
            have := pl_odd1 T hn hm ⟨i, hi, k, ri, rfl⟩ ⟨j, hj, k, rj, rfl⟩
            omega
        · rw [z (Or.inl y)]; omega
    rw [h3, h2] at h4
    omega
  · rw [if_neg k]
    have h2 := ly_se (x := w n) hn
    have h4 : ly_s (fun m => if m = n then w n else 0) c ≤ ly_s (fun m => cl_if (tr_w pa (m + 1) n) (w m) 0) c := by
      apply ly_sl
      intro m hm
      try dsimp only
      by_cases e : m = n
      · rw [if_pos e, e, cl_t (tr_wr _ _)]; omega
      · rw [if_neg e]; omega
    omega
theorem ly_Lk (T : tr_T c kd pa sz it) {w L : Nat → Nat} {K : Nat} (hw : ∀ m, m < c → w m ≤ K) (hL : ∀ n, n < c → L n = w n + (if kd n = 0 then ly_s (fun i => L (it (24 * n + i))) (sz n) else 0)) : ∀ n, n < c → L n ≤ 24 * K := by
  intro n hn
  have a := ly_Lb T hL n hn
  have b : ly_s (fun m => cl_if (tr_w pa (m + 1) n) (w m) 0) c ≤ ly_s (fun _ => K) c := by
    apply ly_sl
    intro m hm
    try dsimp only
    by_cases y : tr_w pa (m + 1) n
    · rw [cl_t y]; exact hw m hm
    · rw [cl_f y]; omega
  have d : ∀ c, ly_s (fun _ => K) c = c * K := by
    intro c
    induction c with
    | zero => exact (Nat.zero_mul K).symm
    | succ c ih => show ly_s (fun _ => K) c + K = _; rw [ih, Nat.succ_mul]
  rw [d] at b
  have := Nat.mul_le_mul_right K (tr_c24 T)
  omega
/-- the layout: L a node's length, op its opening, N how many nodes it holds -/
def ly_Q (c : Nat) (kd pa sz it L op N : Nat → Nat) : Prop :=
  (∀ n, n < c → kd n = 1 → L n = 2 + sz n) ∧
  (∀ n, n < c → kd n = 0 → L n = 2 + ly_s (fun j => L (it (24 * n + j))) (sz n)) ∧
  (∀ n, n < c → pa n = 0 → op n = 0) ∧
  (∀ n i, n < c → kd n = 0 → i < sz n → op (it (24 * n + i)) = op n + 1 + ly_s (fun j => L (it (24 * n + j))) i) ∧
  (∀ n, n < c → L n ≤ 336) ∧
  (∀ n, n < c → kd n = 1 → N n = 1) ∧
  (∀ n, n < c → kd n = 0 → N n = 1 + ly_s (fun j => N (it (24 * n + j))) (sz n)) ∧
  (∀ n, n < c → N n ≤ 24)
theorem ly_ex (T : tr_T c kd pa sz it) : ∃ L op N : Nat → Nat, ly_Q c kd pa sz it L op N := by
  obtain ⟨L, hL⟩ := ly_L T (fun n => 2 + if kd n = 1 then sz n else 0)
  obtain ⟨N, hN⟩ := ly_L T (fun _ => 1)
  have ixs : ∀ n, ∃ i, n < c → ∀ p, pa n = p + 1 → i < sz p ∧ it (24 * p + i) = n := by
    intro n
    by_cases hn : n < c
    · cases e : pa n with
      | zero => exact ⟨0, fun _ p h => by omega⟩
      | succ q =>
        obtain ⟨_, _, i, a, b⟩ := tr_pe T hn e
        refine ⟨i, fun _ p h => ?_⟩
        have : q = p := by omega
        subst this
        exact ⟨a, b⟩
    · exact ⟨0, fun h => absurd h hn⟩
  obtain ⟨ix, hix⟩ : ∃ ix : Nat → Nat, ∀ n, n < c → ∀ p, pa n = p + 1 → ix n < sz p ∧ it (24 * p + ix n) = n := ⟨fun n => Classical.choose (ixs n), fun n => Classical.choose_spec (ixs n)⟩
  obtain ⟨rk, hr, _⟩ := tr_rk T
  have opx : ∀ d, ∃ op : Nat → Nat, ∀ n, n < c → rk n < d → (pa n = 0 → op n = 0) ∧ ∀ p, pa n = p + 1 → op n = op p + 1 + ly_s (fun j => L (it (24 * p + j))) (ix n) := by
    intro d
    induction d with
    | zero => exact ⟨fun _ => 0, fun n _ z => by omega⟩
    | succ d ih =>
      obtain ⟨op, h⟩ := ih
      refine ⟨fun n => if rk n = d then (if pa n = 0 then 0 else op (pa n - 1) + 1 + ly_s (fun j => L (it (24 * (pa n - 1) + j))) (ix n)) else op n, fun n hn z => ⟨fun e => ?_, fun p e => ?_⟩⟩
      · try dsimp only
        by_cases q : rk n = d
        · rw [if_pos q, if_pos e]
        · rw [if_neg q]; exact (h n hn (by omega)).1 e
      · have r := hr n p hn e
        try dsimp only
        rw [if_neg (show rk p ≠ d by omega)]
        by_cases q : rk n = d
        · rw [if_pos q, if_neg (by omega), show pa n - 1 = p by omega]
        · rw [if_neg q]; exact (h n hn (by omega)).2 p e
  obtain ⟨B, hB⟩ := tr_B rk c
  obtain ⟨op, hop⟩ := opx B
  refine ⟨L, op, N, ?_, ?_, ?_, ?_, ?_, ?_, ?_, ?_⟩
  · intro n hn k
    have := hL n hn
    try dsimp only at this
    rw [if_pos k, if_neg (by omega)] at this
    omega
  · intro n hn k
    have := hL n hn
    try dsimp only at this
    rw [if_neg (by omega), if_pos k] at this
    omega
  · intro n hn e
    exact (hop n hn (hB n hn)).1 e
  · intro n i hn k hi
    have a := tr_ch T hn k hi
    have b := hix _ a.1 n a.2
    have e := tr_in T hn k b.1 hi b.2
    have := (hop _ a.1 (hB _ a.1)).2 n a.2
    rw [e] at this
    exact this
  · intro n hn
    have := ly_Lk T (K := 14) (fun m hm => ?_) hL n hn
    · omega
    · try dsimp only
      split
      · rename_i k; have := (T.2.2.1 m hm k).1; omega
      · omega
  · intro n hn k
    have := hN n hn
    rw [if_neg (by omega)] at this
    omega
  · intro n hn k
    have := hN n hn
    rw [if_pos k] at this
    exact this
  · intro n hn
    have := ly_Lk T (K := 1) (fun m hm => Nat.le_refl _) hN n hn
    omega
variable {L op N : Nat → Nat}
theorem ly_L2 (Q : ly_Q c kd pa sz it L op N) (T : tr_T c kd pa sz it) {n : Nat} (hn : n < c) : 2 ≤ L n := by
  rcases tr_k1 T hn with k | k
  · rw [Q.2.1 n hn k]; omega
  · rw [Q.1 n hn k]; omega
theorem ly_ch (Q : ly_Q c kd pa sz it L op N) {n i : Nat} (hn : n < c) (k : kd n = 0) (hi : i < sz n) : op (it (24 * n + i)) = op n + 1 + ly_s (fun j => L (it (24 * n + j))) i := Q.2.2.2.1 n i hn k hi
theorem ly_cl (Q : ly_Q c kd pa sz it L op N) {n i : Nat} (hn : n < c) (k : kd n = 0) (hi : i < sz n) : op (it (24 * n + i)) + L (it (24 * n + i)) + 1 ≤ op n + L n := by
  rw [ly_ch Q hn k hi, Q.2.1 n hn k]
  have : ly_s (fun j => L (it (24 * n + j))) (i + 1) ≤ ly_s (fun j => L (it (24 * n + j))) (sz n) := ly_sm _ (by omega)
  have e : ly_s (fun j => L (it (24 * n + j))) (i + 1) = ly_s (fun j => L (it (24 * n + j))) i + L (it (24 * n + i)) := rfl
  omega
/-- what is within lies inside -/
theorem ly_in (Q : ly_Q c kd pa sz it L op N) (T : tr_T c kd pa sz it) {m n : Nat} (hm : m < c) (h : tr_w pa (m + 1) n) : op n ≤ op m ∧ op m + L m ≤ op n + L n ∧ (m = n ∨ (op n < op m ∧ op m + L m < op n + L n)) := by
  refine tr_ind (Q := fun x => ∀ m, x = m + 1 → m < c → op n ≤ op m ∧ op m + L m ≤ op n + L n ∧ (m = n ∨ (op n < op m ∧ op m + L m < op n + L n))) ?_ ?_ (m + 1) h m rfl hm
  · intro m e _
    have : m = n := by omega
    subst this
    exact ⟨Nat.le_refl _, Nat.le_refl _, Or.inl rfl⟩
  · intro v hv ih m e hm
    have : v = m := by omega
    subst this
    cases e2 : pa v with
    | zero => rw [e2] at hv; exact absurd hv tr_w0
    | succ p =>
      obtain ⟨hp, kp, i, hi, he⟩ := tr_pe T hm e2
      have a := ih p e2 hp
      have b := ly_ch Q hp kp hi
      have d := ly_cl Q hp kp hi
      rw [he] at b d
      exact ⟨by omega, by omega, Or.inr ⟨by omega, by omega⟩⟩
/-- what lies inside is within -/
theorem ly_lam (Q : ly_Q c kd pa sz it L op N) (T : tr_T c kd pa sz it) : ∀ n, n < c → ∀ m d, m < c → d < c → tr_w pa (m + 1) n → tr_w pa (d + 1) n → op d ≤ op m → op m < op d + L d → tr_w pa (m + 1) d := by
  refine tr_hi T ?_
  intro n hn ih m d hm hd wm wd h1 h2
  have split : ∀ v, v < c → tr_w pa (v + 1) n → v = n ∨ ∃ i, i < sz n ∧ kd n = 0 ∧ tr_w pa (v + 1) (it (24 * n + i)) := by
    intro v hv w
    rcases tr_wl w with e | ⟨q, e, g⟩
    · left; omega
    · obtain ⟨_, k, i, hi, he⟩ := tr_pe T (tr_lt T hv g) e
      right
      exact ⟨i, hi, k, by rw [he]; exact g⟩
  rcases split d hd wd with e | ⟨i, hi, k, gd⟩
  · subst e; exact wm
  · have bd := ly_in Q T hd gd
    have ci := ly_ch Q hn k hi
    rcases split m hm wm with e | ⟨j, hj, _, gm⟩
    · subst e; omega
    · have bm := ly_in Q T hm gm
      have cj := ly_ch Q hn k hj
      have sx : ∀ a b, a < b → ly_s (fun j => L (it (24 * n + j))) a + L (it (24 * n + a)) ≤ ly_s (fun j => L (it (24 * n + j))) b := fun a b hab => ly_sm (fun j => L (it (24 * n + j))) (i := a + 1) (j := b) (by omega)
      rcases Nat.lt_trichotomy i j with l | l | l
      · have := sx i j l; omega
      · subst l
        exact ih k i hi m d hm hd gm gd h1 h2
      · have := sx j i l
        have l2 := ly_L2 Q T hm
        omega
/-- every position of a row is an opening, a closing or a letter -/
theorem ly_cov (Q : ly_Q c kd pa sz it L op N) (T : tr_T c kd pa sz it) : ∀ n, n < c → ∀ r, op n ≤ r → r < op n + L n → ∃ m, m < c ∧ tr_w pa (m + 1) n ∧ (r = op m ∨ r + 1 = op m + L m ∨ (kd m = 1 ∧ ∃ i, i < sz m ∧ r = op m + 1 + i)) := by
  refine tr_hi T ?_
  intro n hn ih r h1 h2
  by_cases e1 : r = op n
  · exact ⟨n, hn, tr_wr _ _, Or.inl e1⟩
  · by_cases e2 : r + 1 = op n + L n
    · exact ⟨n, hn, tr_wr _ _, Or.inr (Or.inl e2)⟩
    · rcases tr_k1 T hn with k | k
      · have e := Q.2.1 n hn k
        obtain ⟨i, hi, a, b⟩ := ly_sf (fun j => L (it (24 * n + j))) (sz n) (r - op n - 1) (by omega)
        have e3 : ly_s (fun j => L (it (24 * n + j))) (i + 1) = ly_s (fun j => L (it (24 * n + j))) i + L (it (24 * n + i)) := rfl
        have d := ly_ch Q hn k hi
        obtain ⟨m, hm, w, o⟩ := ih k i hi r (by omega) (by omega)
        exact ⟨m, hm, tr_wt w (tr_wp (tr_ch T hn k hi).2 (tr_wr _ _)), o⟩
      · have e := Q.1 n hn k
        exact ⟨n, hn, tr_wr _ _, Or.inr (Or.inr ⟨k, r - op n - 1, by omega, by omega⟩)⟩
/-- the gap of a place -/
def ly_g (kd it L op : Nat → Nat) (v o : Nat) : Nat := op v + 1 + (if kd v = 1 then o else ly_s (fun j => L (it (24 * v + j))) o)
theorem ly_gb (Q : ly_Q c kd pa sz it L op N) (T : tr_T c kd pa sz it) {v o : Nat} (h : pl_ok c sz v o) : op v < ly_g kd it L op v o ∧ ly_g kd it L op v o < op v + L v := by
  unfold ly_g
  have := h.2
  rcases tr_k1 T h.1 with k | k
  · rw [if_neg (by omega), Q.2.1 v h.1 k]
    have := ly_sm (fun j => L (it (24 * v + j))) h.2
    omega
  · rw [if_pos k, Q.1 v h.1 k]; omega
/-- gaps in order: places in order -/
theorem ly_ord (Q : ly_Q c kd pa sz it L op N) (T : tr_T c kd pa sz it) {v o v' o' : Nat} (h : pl_ok c sz v o) (h' : pl_ok c sz v' o') (hg : ly_g kd it L op v o ≤ ly_g kd it L op v' o') : pl_le c kd pa sz it v o v' o' := by
  intro w x y hw hx hy
  apply Classical.byContradiction
  intro lt
  have key : ∀ v o x, pl_ok c sz v o → pl_cd kd pa sz it w v o x → (v = w ∧ x = 2 * o) ∨ (kd w = 0 ∧ ∃ j, j < sz w ∧ x = 2 * j + 1 ∧ op w + 1 + ly_s (fun j => L (it (24 * w + j))) j < ly_g kd it L op v o ∧ ly_g kd it L op v o < op w + 1 + ly_s (fun j => L (it (24 * w + j))) (j + 1)) := by
    intro v o x h hx
    rcases hx with e | ⟨j, hj, k, g, e⟩
    · exact Or.inl e
    · refine Or.inr ⟨k, j, hj, e, ?_⟩
      have a := ly_in Q T h.1 g
      have b := ly_gb Q T h
      have d := ly_ch Q hw k hj
      have e3 : ly_s (fun j => L (it (24 * w + j))) (j + 1) = ly_s (fun j => L (it (24 * w + j))) j + L (it (24 * w + j)) := rfl
      omega
  have mono : ∀ a b, a ≤ b → ly_s (fun j => L (it (24 * w + j))) a ≤ ly_s (fun j => L (it (24 * w + j))) b := fun a b hab => ly_sm _ hab
  rcases key v o x h hx with ⟨e, ex⟩ | ⟨k, j, hj, ex, g1, g2⟩
  · subst e
    rcases key v' o' y h' hy with ⟨e', ey⟩ | ⟨k', j', hj', ey, g1', g2'⟩
    · subst e'
      have ho := h.2
      have strict : kd v' = 0 → ly_s (fun j => L (it (24 * v' + j))) (o' + 1) ≤ ly_s (fun j => L (it (24 * v' + j))) o := fun _ => mono (o' + 1) o (by omega)
      unfold ly_g at hg
      rcases tr_k1 T hw with k | k
      · rw [if_neg (by omega), if_neg (by omega)] at hg
        have s := strict k
        have e3 : ly_s (fun j => L (it (24 * v' + j))) (o' + 1) = ly_s (fun j => L (it (24 * v' + j))) o' + L (it (24 * v' + o')) := rfl
        have l2 := ly_L2 Q T (tr_ch T hw k (i := o') (by omega)).1
        omega
      · rw [if_pos k, if_pos k] at hg
        omega
    · have e : ly_g kd it L op v o = op v + 1 + ly_s (fun j => L (it (24 * v + j))) o := by unfold ly_g; rw [if_neg (by omega)]
      have := mono (j' + 1) o (by omega)
      omega
  · rcases key v' o' y h' hy with ⟨e', ey⟩ | ⟨k', j', hj', ey, g1', g2'⟩
    · subst e'
      have e : ly_g kd it L op v' o' = op v' + 1 + ly_s (fun j => L (it (24 * v' + j))) o' := by unfold ly_g; rw [if_neg (by omega)]
      have := mono o' j (by omega)
      omega
    · have := mono (j' + 1) j (by omega)
      omega
end
end
section
/-! X lays the row -/
def rw_D (kd sz it L op : Nat → Nat) (rl rn oa ca : Nat → Int32) (m : Nat) : Prop :=
  oa m = nI (op m) ∧ ca m = nI (op m + L m - 1) ∧ rl (op m) = -1 ∧ rn (op m) = nI m ∧ rl (op m + L m - 1) = -1 ∧ rn (op m + L m - 1) = -1 ∧ (kd m = 1 → ∀ i, i < sz m → rl (op m + 1 + i) = nI (it (24 * m + i)) ∧ rn (op m + 1 + i) = -1)
def rw_F (pa op : Nat → Nat) (n : Nat) (rl rn oa ca il rl' rn' oa' ca' il' : Nat → Int32) : Prop := (∀ k, k ≤ op n → rl' k = rl k ∧ rn' k = rn k) ∧ ∀ m, ¬ tr_w pa (m + 1) n → oa' m = oa m ∧ ca' m = ca m ∧ il' m = il m
section
variable {c : Nat} {kd pa sz it pn po : Nat → Nat} {sg eg : Int32} {rl rn oa ca il dm : Nat → Int32} {L op N : Nat → Nat}
theorem rw_Dk {rl' rn' oa' ca' : Nat → Int32} {m : Nat} (Q : ly_Q c kd pa sz it L op N) (T : tr_T c kd pa sz it) (hm : m < c) (D : rw_D kd sz it L op rl rn oa ca m) (h1 : ∀ k, op m ≤ k → k < op m + L m → rl' k = rl k ∧ rn' k = rn k) (h2 : oa' m = oa m) (h3 : ca' m = ca m) : rw_D kd sz it L op rl' rn' oa' ca' m := by
  have l2 := ly_L2 Q T hm
  obtain ⟨a, b, d, e, f, g, h⟩ := D
  have p1 := h1 (op m) (Nat.le_refl _) (by omega)
  have p2 := h1 (op m + L m - 1) (by omega) (by omega)
  refine ⟨h2.trans a, h3.trans b, p1.1.trans d, p1.2.trans e, p2.1.trans f, p2.2.trans g, fun k i hi => ?_⟩
  have p3 := h1 (op m + 1 + i) (by omega) (by rw [Q.1 m hm k]; omega)
  exact ⟨p3.1.trans (h k i hi).1, p3.2.trans (h k i hi).2⟩
theorem xx_layOpening {post : SX → Prop} {m a : Nat} (hm : m < 24) (ha : a < 336) (h : post (nI c, sg, eg, ar_n kd, ar_p pa, ar_n sz, ar_n it, ar_n pn, ar_n po, upd rl a (-1), upd rn a (nI m), upd oa m (nI a), ca, upd il m 0, dm)) : wpX_layOpening post (nI c, sg, eg, ar_n kd, ar_p pa, ar_n sz, ar_n it, ar_n pn, ar_n po, rl, rn, oa, ca, il, dm) (nI m) (nI a) := by
  refine in_c (vp_in_nI ha (by omega)) (nm_r (congrArg (fun j => upd rl j (-1)) (nI_clamp (by omega))) (in_c (vp_in_nI ha (by omega)) (nm_r (congrArg (fun j => upd rn j (nI m)) (nI_clamp (by omega))) (in_c (vp_in_nI hm (by omega)) (nm_r (congrArg (fun j => upd oa j (nI a)) (nI_clamp (by omega))) (in_c (vp_in_nI hm (by omega)) (nm_r (congrArg (fun j => upd il j 0) (nI_clamp (by omega))) h)))))))
theorem xx_layInside {post : SX → Prop} {a : Nat} {x : Int32} (ha : a < 336) (h : post (nI c, sg, eg, ar_n kd, ar_p pa, ar_n sz, ar_n it, ar_n pn, ar_n po, upd rl a x, upd rn a (-1), oa, ca, il, dm)) : wpX_layInside post (nI c, sg, eg, ar_n kd, ar_p pa, ar_n sz, ar_n it, ar_n pn, ar_n po, rl, rn, oa, ca, il, dm) x (nI a) := by
  refine in_c (vp_in_nI ha (by omega)) (nm_r (congrArg (fun j => upd rl j x) (nI_clamp (by omega))) (in_c (vp_in_nI ha (by omega)) (nm_r (congrArg (fun j => upd rn j (-1)) (nI_clamp (by omega))) h)))
theorem xx_lClose {post : SX → Prop} {n a : Nat} (hn : n < 24) (hs : sz n < 24) (ha : a < 336) (e : il n = nI (sz n)) (h : wX_layRow_10 post (340 - (a + 1)) (nI (pa n) - 1) (nI (a + 1)) (nI c) sg eg (ar_n kd) (ar_p pa) (ar_n sz) (ar_n it) (ar_n pn) (ar_n po) (upd rl a (-1)) (upd rn a (-1)) oa (upd ca n (nI a)) il dm) : wX_layRow_10 post (340 - a) (nI n) (nI a) (nI c) sg eg (ar_n kd) (ar_p pa) (ar_n sz) (ar_n it) (ar_n pn) (ar_n po) rl rn oa ca il dm := by
  have hi : vp_in (nI n) 24 := vp_in_nI hn (by omega)
  rw [show 340 - a = 340 - (a + 1) + 1 by omega]
  refine br_f (nI_ge (b := 336) ha (by omega)) (br_f (fun z => ?_) (in_c hi (nm_r (e' := nI (sz n)) ?_ (in_c hi (br_f ?_ ?_)))))
  · have := nI_pos (n := n) (by omega)
    rw [z] at this
    exact this (by decide)
  · rw [nI_clamp (by omega), e]
  · rw [ar_nc _ (by omega), nI_ltI (by omega) (by omega)]; omega
  · exact xx_layInside ha (in_c hi (nm_r (congrArg (fun j => upd ca j (nI a)) (nI_clamp (by omega))) (in_c hi (nm_r (ar_pc _ (by omega)) (nm_r (nI_1 a) h)))))
theorem xx_lLetter {post : SX → Prop} {n a i : Nat} (hn : n < 24) (k : kd n = 1) (hs : sz n < 24) (ha : a < 336) (e : il n = nI i) (hi' : i < sz n) (h : wX_layRow_10 post (340 - (a + 1)) (nI n) (nI (a + 1)) (nI c) sg eg (ar_n kd) (ar_p pa) (ar_n sz) (ar_n it) (ar_n pn) (ar_n po) (upd rl a (nI (it (24 * n + i)))) (upd rn a (-1)) oa ca (upd il n (nI (i + 1))) dm) : wX_layRow_10 post (340 - a) (nI n) (nI a) (nI c) sg eg (ar_n kd) (ar_p pa) (ar_n sz) (ar_n it) (ar_n pn) (ar_n po) rl rn oa ca il dm := by
  have hi : vp_in (nI n) 24 := vp_in_nI hn (by omega)
  rw [show 340 - a = 340 - (a + 1) + 1 by omega]
  refine br_f (nI_ge (b := 336) ha (by omega)) (br_f (fun z => ?_) (in_c hi (nm_r (e' := nI i) ?_ (in_c hi (br_t ?_ ?_)))))
  · have := nI_pos (n := n) (by omega)
    rw [z] at this
    exact this (by decide)
  · rw [nI_clamp (by omega), e]
  · rw [ar_nc _ (by omega), nI_ltI (by omega) (by omega)]; omega
  · rw [ix_x, nI_1 i]
    refine in_c (vp_in_nI (by omega) (by omega)) (nm_r (ar_nc _ (by omega)) (in_c hi (nm_r (congrArg (fun j => upd il j (nI (i + 1))) (nI_clamp (by omega))) (in_c hi (br_t (by rw [ar_nc _ (by omega), k]; rfl) ?_)))))
    exact xx_layInside ha (nm_r (nI_1 a) h)
theorem xx_lChild {post : SX → Prop} {n a i m : Nat} (hn : n < 24) (k : kd n = 0) (hs : sz n < 24) (ha : a < 336) (e : il n = nI i) (hi' : i < sz n) (em : it (24 * n + i) = m) (hm : m < 24) (h : wX_layRow_10 post (340 - (a + 1)) (nI m) (nI (a + 1)) (nI c) sg eg (ar_n kd) (ar_p pa) (ar_n sz) (ar_n it) (ar_n pn) (ar_n po) (upd rl a (-1)) (upd rn a (nI m)) (upd oa m (nI a)) ca (upd (upd il n (nI (i + 1))) m 0) dm) : wX_layRow_10 post (340 - a) (nI n) (nI a) (nI c) sg eg (ar_n kd) (ar_p pa) (ar_n sz) (ar_n it) (ar_n pn) (ar_n po) rl rn oa ca il dm := by
  have hi : vp_in (nI n) 24 := vp_in_nI hn (by omega)
  rw [show 340 - a = 340 - (a + 1) + 1 by omega]
  refine br_f (nI_ge (b := 336) ha (by omega)) (br_f (fun z => ?_) (in_c hi (nm_r (e' := nI i) ?_ (in_c hi (br_t ?_ ?_)))))
  · have := nI_pos (n := n) (by omega)
    rw [z] at this
    exact this (by decide)
  · rw [nI_clamp (by omega), e]
  · rw [ar_nc _ (by omega), nI_ltI (by omega) (by omega)]; omega
  · rw [ix_x, nI_1 i]
    refine in_c (vp_in_nI (by omega) (by omega)) (nm_r ((ar_nc _ (by omega)).trans (congrArg nI em)) (in_c hi (nm_r (congrArg (fun j => upd il j (nI (i + 1))) (nI_clamp (by omega))) (in_c hi (br_f (by rw [ar_nc _ (by omega), k]; decide) ?_)))))
    exact xx_layOpening hm ha (nm_r (nI_1 a) h)
end
/-- the text's letters, from the i-th on, then its closing -/
theorem xx_lText {c : Nat} {kd pa sz it pn po : Nat → Nat} {sg eg : Int32} {rl rn oa ca il dm : Nat → Int32} {L op N : Nat → Nat} {post : SX → Prop} {n : Nat} (Q : ly_Q c kd pa sz it L op N) (T : tr_T c kd pa sz it) (hn : n < c) (k : kd n = 1) (hb : op n + L n ≤ 336) {rl0 rn0 oa0 ca0 il0 : Nat → Int32}
    (K : ∀ rl rn oa ca il, (∀ m, m < c → tr_w pa (m + 1) n → rw_D kd sz it L op rl rn oa ca m) → rw_F pa op n rl0 rn0 oa0 ca0 il0 rl rn oa ca il → wX_layRow_10 post (340 - (op n + L n)) (nI (pa n) - 1) (nI (op n + L n)) (nI c) sg eg (ar_n kd) (ar_p pa) (ar_n sz) (ar_n it) (ar_n pn) (ar_n po) rl rn oa ca il dm) :
    ∀ d i rl rn oa ca il, i + d = sz n → oa n = nI (op n) → il n = nI i → rl (op n) = -1 → rn (op n) = nI n → (∀ j, j < i → rl (op n + 1 + j) = nI (it (24 * n + j)) ∧ rn (op n + 1 + j) = -1) → rw_F pa op n rl0 rn0 oa0 ca0 il0 rl rn oa ca il →
      wX_layRow_10 post (340 - (op n + 1 + i)) (nI n) (nI (op n + 1 + i)) (nI c) sg eg (ar_n kd) (ar_p pa) (ar_n sz) (ar_n it) (ar_n pn) (ar_n po) rl rn oa ca il dm := by
  have c24 := tr_c24 T
  have s24 := tr_s24 T hn
  have eL := Q.1 n hn k
  have only : ∀ m, m < c → tr_w pa (m + 1) n → m = n := fun m hm w => pl_wtx T hm k w
  intro d
  induction d with
  | zero =>
    intro i rl rn oa ca il hi e1 e2 e3 e4 e5 F
    have ei : i = sz n := by omega
    subst ei
    refine xx_lClose (by omega) s24 (by omega) e2 ?_
    rw [show op n + 1 + sz n + 1 = op n + L n by omega]
    refine K _ _ _ _ _ ?_ ?_
    · intro m hm w
      have := only m hm w
      subst this
      refine ⟨e1, ?_, ?_, ?_, ?_, ?_, ?_⟩
      · rw [pk_us]; congr 1; omega
      · rw [pk_un (by omega)]; exact e3
      · rw [pk_un (by omega)]; exact e4
      · rw [show op m + L m - 1 = op m + 1 + sz m by omega, pk_us]
      · rw [show op m + L m - 1 = op m + 1 + sz m by omega, pk_us]
      · intro _ i hi
        rw [pk_un (by omega), pk_un (by omega)]
        exact e5 i (by omega)
    · refine ⟨fun q hq => ?_, fun m w => ?_⟩
      · rw [pk_un (by omega), pk_un (by omega)]; exact F.1 q hq
      · have ne : m ≠ n := by rintro rfl; exact w (tr_wr _ _)
        rw [pk_un ne]
        exact F.2 m w
  | succ d ih =>
    intro i rl rn oa ca il hi e1 e2 e3 e4 e5 F
    refine xx_lLetter (by omega) k s24 (by omega) e2 (by omega) ?_
    rw [show op n + 1 + i + 1 = op n + 1 + (i + 1) by omega]
    refine ih (i + 1) _ _ _ _ _ (by omega) e1 (by rw [pk_us]) (by rw [pk_un (by omega)]; exact e3) (by rw [pk_un (by omega)]; exact e4) ?_ ?_
    · intro j hj
      by_cases e : j = i
      · subst e; rw [pk_us, pk_us]; exact ⟨rfl, rfl⟩
      · rw [pk_un (by omega), pk_un (by omega)]; exact e5 j (by omega)
    · refine ⟨fun q hq => ?_, fun m w => ?_⟩
      · rw [pk_un (by omega), pk_un (by omega)]; exact F.1 q hq
      · have ne : m ≠ n := by rintro rfl; exact w (tr_wr _ _)
        rw [pk_un ne]
        exact F.2 m w
/-- a node's whole row -/
theorem xx_lNode {c : Nat} {kd pa sz it pn po : Nat → Nat} {sg eg : Int32} {rl rn oa ca il dm : Nat → Int32} {L op N : Nat → Nat} {post : SX → Prop} (Q : ly_Q c kd pa sz it L op N) (T : tr_T c kd pa sz it) :
    ∀ n, n < c → op n + L n ≤ 336 → ∀ rl rn oa ca il, oa n = nI (op n) → il n = 0 → rl (op n) = -1 → rn (op n) = nI n →
      (∀ rl' rn' oa' ca' il', (∀ m, m < c → tr_w pa (m + 1) n → rw_D kd sz it L op rl' rn' oa' ca' m) → rw_F pa op n rl rn oa ca il rl' rn' oa' ca' il' → wX_layRow_10 post (340 - (op n + L n)) (nI (pa n) - 1) (nI (op n + L n)) (nI c) sg eg (ar_n kd) (ar_p pa) (ar_n sz) (ar_n it) (ar_n pn) (ar_n po) rl' rn' oa' ca' il' dm) →
      wX_layRow_10 post (340 - (op n + 1)) (nI n) (nI (op n + 1)) (nI c) sg eg (ar_n kd) (ar_p pa) (ar_n sz) (ar_n it) (ar_n pn) (ar_n po) rl rn oa ca il dm := by
  have c24 := tr_c24 T
  refine tr_hi T ?_
  intro n hn IH hb rl0 rn0 oa0 ca0 il0 e1 e2 e3 e4 K
  have s24 := tr_s24 T hn
  rcases tr_k1 T hn with k | k
  · have eL := Q.2.1 n hn k
    have IH := IH k
    have loop : ∀ d i rl rn oa ca il, i + d = sz n → oa n = nI (op n) → il n = nI i → rl (op n) = -1 → rn (op n) = nI n → (∀ j, j < i → ∀ m, m < c → tr_w pa (m + 1) (it (24 * n + j)) → rw_D kd sz it L op rl rn oa ca m) → rw_F pa op n rl0 rn0 oa0 ca0 il0 rl rn oa ca il →
        wX_layRow_10 post (340 - (op n + 1 + ly_s (fun j => L (it (24 * n + j))) i)) (nI n) (nI (op n + 1 + ly_s (fun j => L (it (24 * n + j))) i)) (nI c) sg eg (ar_n kd) (ar_p pa) (ar_n sz) (ar_n it) (ar_n pn) (ar_n po) rl rn oa ca il dm := by
      intro d
      induction d with
      | zero =>
        intro i rl rn oa ca il hi e1 e2 e3 e4 e5 F
        have ei : i = sz n := by omega
        subst ei
        refine xx_lClose (by omega) s24 (by omega) e2 ?_
        rw [show op n + 1 + ly_s (fun j => L (it (24 * n + j))) (sz n) + 1 = op n + L n by omega]
        refine K _ _ _ _ _ ?_ ?_
        · intro m hm w
          rcases tr_wl w with z | ⟨q, z, g⟩
          · have : m = n := by omega
            subst this
            refine ⟨e1, ?_, ?_, ?_, ?_, ?_, ?_⟩
            · rw [pk_us]; congr 1; omega
            · rw [pk_un (by omega)]; exact e3
            · rw [pk_un (by omega)]; exact e4
            · rw [show op m + L m - 1 = op m + 1 + ly_s (fun j => L (it (24 * m + j))) (sz m) by omega, pk_us]
            · rw [show op m + L m - 1 = op m + 1 + ly_s (fun j => L (it (24 * m + j))) (sz m) by omega, pk_us]
            · intro k1; omega
          · have hq := tr_lt T hm g
            obtain ⟨_, _, j, hj, he⟩ := tr_pe T hq z
            have D := e5 j hj m hm (by rw [he]; exact g)
            have cl := ly_cl Q hn k hj
            rw [he] at cl
            have inn := ly_in Q T hm g
            have ne : m ≠ n := by
              rintro rfl
              exact tr_ac T hq z g
            exact rw_Dk Q T hm D (fun r h1 h2 => ⟨pk_un (by omega), pk_un (by omega)⟩) rfl (pk_un ne)
        · refine ⟨fun q hq => ?_, fun m w => ?_⟩
          · rw [pk_un (by omega), pk_un (by omega)]; exact F.1 q hq
          · have ne : m ≠ n := by rintro rfl; exact w (tr_wr _ _)
            rw [pk_un ne]
            exact F.2 m w
      | succ d ih =>
        intro i rl rn oa ca il hi e1 e2 e3 e4 e5 F
        have hi' : i < sz n := by omega
        have ch := tr_ch T hn k hi'
        have opc := ly_ch Q hn k hi'
        have cl := ly_cl Q hn k hi'
        have step := IH i hi'
        generalize em : it (24 * n + i) = m at ch opc cl step
        obtain ⟨hm, pm⟩ := ch
        have nem : n ≠ m := by rintro rfl; exact tr_ac T hm pm (tr_wr _ _)
        have nwn : ¬ tr_w pa (n + 1) m := tr_ac T hm pm
        refine xx_lChild (by omega) k s24 (by omega) e2 hi' em (by omega) ?_
        rw [← opc]
        refine step (by omega) _ _ _ _ _ (pk_us) (pk_us) (pk_us) (pk_us) ?_
        intro rl' rn' oa' ca' il' D' F'
        rw [pm, nI_pred]
        have e3s : ly_s (fun j => L (it (24 * n + j))) (i + 1) = ly_s (fun j => L (it (24 * n + j))) i + L (it (24 * n + i)) := rfl
        rw [show op m + L m = op n + 1 + ly_s (fun j => L (it (24 * n + j))) (i + 1) by rw [e3s, em]; omega]
        have fn := F'.2 n nwn
        have fo := F'.1 (op n) (by omega)
        refine ih (i + 1) rl' rn' oa' ca' il' (by omega) ?_ ?_ ?_ ?_ ?_ ?_
        · rw [fn.1, pk_un nem]; exact e1
        · rw [fn.2.2, pk_un nem, pk_us]
        · rw [fo.1, pk_un (by omega)]; exact e3
        · rw [fo.2, pk_un (by omega)]; exact e4
        · intro j hj q hq w
          by_cases ej : j = i
          · subst ej
            rw [em] at w
            exact D' q hq w
          · have D := e5 j (by omega) q hq w
            have clj := ly_cl Q hn k (i := j) (by omega)
            have opj := ly_ch Q hn k (i := j) (by omega)
            have inn := ly_in Q T hq w
            have sm := ly_sm (fun j => L (it (24 * n + j))) (i := j + 1) (j := i) (by omega)
            have e3j : ly_s (fun j => L (it (24 * n + j))) (j + 1) = ly_s (fun j => L (it (24 * n + j))) j + L (it (24 * n + j)) := rfl
            have nw : ¬ tr_w pa (q + 1) m := by
              intro w2
              have := pl_odd1 T hn hq ⟨j, by omega, k, w, rfl⟩ ⟨i, hi', k, by rw [em]; exact w2, rfl⟩
              omega
            have neq : q ≠ m := by rintro rfl; exact nw (tr_wr _ _)
            have fq := F'.2 q nw
            refine rw_Dk Q T hq D (fun r h1 h2 => ?_) ?_ ?_
            · have fr := F'.1 r (by omega)
              rw [fr.1, fr.2, pk_un (by omega), pk_un (by omega)]
              exact ⟨rfl, rfl⟩
            · rw [fq.1, pk_un neq]
            · rw [fq.2.1]
        · refine ⟨fun r hr => ?_, fun q w => ?_⟩
          · have fr := F'.1 r (by omega)
            rw [fr.1, fr.2, pk_un (by omega), pk_un (by omega)]
            exact F.1 r hr
          · have nw : ¬ tr_w pa (q + 1) m := fun w2 => w (tr_wt w2 (tr_wp pm (tr_wr _ _)))
            have neq : q ≠ m := by rintro rfl; exact nw (tr_wr _ _)
            have nen : q ≠ n := by rintro rfl; exact w (tr_wr _ _)
            have fq := F'.2 q nw
            rw [fq.1, fq.2.1, fq.2.2, pk_un neq, pk_un neq, pk_un nen]
            exact F.2 q w
    exact loop (sz n) 0 rl0 rn0 oa0 ca0 il0 (by omega) e1 e2 e3 e4 (fun j hj => by omega) ⟨fun _ _ => ⟨rfl, rfl⟩, fun _ _ => ⟨rfl, rfl, rfl⟩⟩
  · have := xx_lText (rl := rl0) (rn := rn0) (oa := oa0) (ca := ca0) (il := il0) Q T hn k hb K (sz n) 0 rl0 rn0 oa0 ca0 il0 (by omega) e1 e2 e3 e4 (fun j hj => by omega) ⟨fun _ _ => ⟨rfl, rfl⟩, fun _ _ => ⟨rfl, rfl, rfl⟩⟩
    exact this
/-- the row of a tree -/
theorem xx_layRow {c : Nat} {kd pa sz it pn po : Nat → Nat} {sg eg : Int32} {rl rn oa ca il dm : Nat → Int32} {L op N : Nat → Nat} {post : SX → Prop} {r : Nat} (Q : ly_Q c kd pa sz it L op N) (T : tr_T c kd pa sz it) (hr : r < c) (pr : pa r = 0)
    (h : ∀ rl rn oa ca il, (∀ m, m < c → tr_w pa (m + 1) r → rw_D kd sz it L op rl rn oa ca m) → post (nI c, sg, eg, ar_n kd, ar_p pa, ar_n sz, ar_n it, ar_n pn, ar_n po, rl, rn, oa, ca, il, dm)) : wpX_layRow post (nI c, sg, eg, ar_n kd, ar_p pa, ar_n sz, ar_n it, ar_n pn, ar_n po, rl, rn, oa, ca, il, dm) (nI r) := by
  have c24 := tr_c24 T
  have o0 := Q.2.2.1 r hr pr
  have l336 := Q.2.2.2.2.1 r hr
  have l2 := ly_L2 Q T hr
  unfold wpX_layRow
  dsimp only
  refine xx_layOpening (a := 0) (by omega) (by omega) ⟨339, ?_⟩
  have := xx_lNode (rl := rl) (rn := rn) (oa := oa) (ca := ca) (il := il) (pn := pn) (po := po) (sg := sg) (eg := eg) (dm := dm) (post := post) Q T r hr (by omega) (upd rl 0 (-1)) (upd rn 0 (nI r)) (upd oa r (nI 0)) ca (upd il r 0) (by rw [pk_us, o0]) pk_us (by rw [o0, pk_us]) (by rw [o0, pk_us]) ?_
  · rw [o0] at this
    exact this
  · intro rl' rn' oa' ca' il' D F
    have hp := h rl' rn' oa' ca' il' D
    rw [o0, pr, show 340 - (0 + L r) = 339 - L r + 1 by omega]
    by_cases z : 336 ≤ 0 + L r
    · exact br_t (nI_le (a := 336) z (by omega)) hp
    · exact br_f (nI_ge (b := 336) (by omega) (by omega)) (br_t (by decide) hp)
end
section
/-! Y writes the row -/
def rw_E (kd sz it L op : Nat → Nat) (mk os cs : Nat → Int32) (m : Nat) : Prop :=
  os m = nI (op m) ∧ cs m = nI (op m + L m - 1) ∧ mk (op m) = -1 ∧ mk (op m + L m - 1) = -1 ∧ (kd m = 1 → ∀ i, i < sz m → mk (op m + 1 + i) = nI (it (24 * m + i)))
def rw_G (pa op : Nat → Nat) (n : Nat) (mk os cs cm mk' os' cs' cm' : Nat → Int32) : Prop := (∀ k, k < op n → mk' k = mk k) ∧ ∀ m, ¬ tr_w pa (m + 1) n → os' m = os m ∧ cs' m = cs m ∧ cm' m = cm m
section
variable {c : Nat} {kd pa sz it pn po : Nat → Nat} {ln : Int32} {mk os cs cm : Nat → Int32} {L op N : Nat → Nat}
theorem rw_Ek {mk' os' cs' : Nat → Int32} {m : Nat} (Q : ly_Q c kd pa sz it L op N) (T : tr_T c kd pa sz it) (hm : m < c) (D : rw_E kd sz it L op mk os cs m) (h1 : ∀ k, op m ≤ k → k < op m + L m → mk' k = mk k) (h2 : os' m = os m) (h3 : cs' m = cs m) : rw_E kd sz it L op mk' os' cs' m := by
  have l2 := ly_L2 Q T hm
  obtain ⟨a, b, d, f, h⟩ := D
  have p1 := h1 (op m) (Nat.le_refl _) (by omega)
  have p2 := h1 (op m + L m - 1) (by omega) (by omega)
  refine ⟨h2.trans a, h3.trans b, p1.trans d, p2.trans f, fun k i hi => ?_⟩
  have p3 := h1 (op m + 1 + i) (by omega) (by rw [Q.1 m hm k]; omega)
  exact p3.trans (h k i hi)
theorem yy_mark {post : SY → Prop} {a : Nat} {x : Int32} (ha : a < 400) (h : post (nI c, nI (a + 1), ar_n kd, ar_p pa, ar_n sz, ar_n it, ar_n pn, ar_n po, upd mk a x, os, cs, cm)) : wpY_mark post (nI c, nI a, ar_n kd, ar_p pa, ar_n sz, ar_n it, ar_n pn, ar_n po, mk, os, cs, cm) x :=
  in_c (vp_in_nI ha (by omega)) (nm_r (congrArg (fun j => upd mk j x) (nI_clamp (by omega))) (nm_r (nI_1 a) h))
theorem yy_wOpen {post : SY → Prop} {r n a t : Nat} (hn : n < 24) (ha : a < 400) (ht : t < 100) (h : wY_write_49 post (wY_write_12 post (nI r) (200 - (t + 1))) (nI r) (nI n) (nI t) (nI c) (nI (a + 1)) (ar_n kd) (ar_p pa) (ar_n sz) (ar_n it) (ar_n pn) (ar_n po) (upd mk a (-1)) (upd os n (nI a)) cs (upd cm n 0)) : wY_write_12 post (nI r) (200 - t) (nI n) 1 (nI t) (nI c) (nI a) (ar_n kd) (ar_p pa) (ar_n sz) (ar_n it) (ar_n pn) (ar_n po) mk os cs cm := by
  have hi : vp_in (nI n) 24 := vp_in_nI hn (by omega)
  rw [show 200 - t = 200 - (t + 1) + 1 by omega]
  refine br_f (nI_ge (b := 100) ht (by omega)) (br_f (nI_pos (by omega)) (br_f (by decide) (in_c hi (nm_r (congrArg (fun j => upd os j (nI a)) (nI_clamp (by omega))) (in_c hi (nm_r (congrArg (fun j => upd cm j 0) (nI_clamp (by omega))) ?_))))))
  exact yy_mark ha h
theorem yy_wCont {post : SY → Prop} {r n t : Nat} (hn : n < 24) (ht : t < 100) (h : wY_write_49 post (wY_write_12 post (nI r) (200 - (t + 1))) (nI r) (nI n) (nI t) (nI c) ln (ar_n kd) (ar_p pa) (ar_n sz) (ar_n it) (ar_n pn) (ar_n po) mk os cs cm) : wY_write_12 post (nI r) (200 - t) (nI n) 0 (nI t) (nI c) ln (ar_n kd) (ar_p pa) (ar_n sz) (ar_n it) (ar_n pn) (ar_n po) mk os cs cm := by
  rw [show 200 - t = 200 - (t + 1) + 1 by omega]
  exact br_f (nI_ge (b := 100) ht (by omega)) (br_f (nI_pos (by omega)) (br_t rfl h))
theorem yy_wChild {post : SY → Prop} {r n t i m f : Nat} (hn : n < 24) (k : kd n = 0) (hs : sz n < 24) (e : cm n = nI i) (hi' : i < sz n) (em : it (24 * n + i) = m) (h : wY_write_12 post (nI r) f (nI m) 1 (nI (t + 1)) (nI c) ln (ar_n kd) (ar_p pa) (ar_n sz) (ar_n it) (ar_n pn) (ar_n po) mk os cs (upd cm n (nI (i + 1)))) : wY_write_49 post (wY_write_12 post (nI r) f) (nI r) (nI n) (nI t) (nI c) ln (ar_n kd) (ar_p pa) (ar_n sz) (ar_n it) (ar_n pn) (ar_n po) mk os cs cm := by
  have hi : vp_in (nI n) 24 := vp_in_nI hn (by omega)
  have ec : cm (nI n).toNatClampNeg = nI i := by rw [nI_clamp (by omega)]; exact e
  refine in_c hi (br_t (by rw [ar_nc _ (by omega), k]; rfl) (in_c hi (in_c hi (br_f (by rw [ec, ar_nc _ (by omega), nI_leI (by omega) (by omega)]; omega) (in_c hi (in_c hi (nm_r (e' := upd cm n (nI (i + 1))) ?_ (in_c hi ?_))))))))
  · rw [ec, nI_1, nI_clamp (by omega)]
  · have e1 : upd cm n (nI (i + 1)) (nI n).toNatClampNeg = nI (i + 1) := by rw [nI_clamp (by omega), pk_us]
    rw [e1, ix_y, show nI (24 * n + (i + 1)) - 1 = nI (24 * n + i) from pk_sub (b := 1) (by omega)]
    exact in_c (vp_in_nI (by omega) (by omega)) (nm_r ((ar_nc _ (by omega)).trans (congrArg nI em)) (nm_r (nI_1 t) h))
theorem yy_wClose {post : SY → Prop} {r n t a f : Nat} (hn : n < 24) (hr : r < 24) (ha : a < 400) (pr : pa r = 0) (h : wY_write_12 post (nI r) f (nI (pa n) - 1) 0 (nI (t + 1)) (nI c) (nI (a + 1)) (ar_n kd) (ar_p pa) (ar_n sz) (ar_n it) (ar_n pn) (ar_n po) (upd mk a (-1)) os (upd cs n (nI a)) cm) : wY_write_152 post (wY_write_12 post (nI r) f) (nI r) (nI n) (nI t) (nI c) (nI a) (ar_n kd) (ar_p pa) (ar_n sz) (ar_n it) (ar_n pn) (ar_n po) mk os cs cm := by
  have hi : vp_in (nI n) 24 := vp_in_nI hn (by omega)
  refine in_c hi (nm_r (congrArg (fun j => upd cs j (nI a)) (nI_clamp (by omega))) (yy_mark ha (cb_i (nI_eq (by omega) (by omega)) (fun e => nm_r (nI_1 t) ?_) (fun e => in_c hi (nm_r (ar_pc _ (by omega)) (nm_r (nI_1 t) h))))))
  subst e
  rw [pr] at h
  exact h
theorem yy_wCloseE {post : SY → Prop} {r n t a f : Nat} (hn : n < 24) (hr : r < 24) (ha : a < 400) (pr : pa r = 0) (k : kd n = 0) (hs : sz n < 24) (e : cm n = nI (sz n)) (h : wY_write_12 post (nI r) f (nI (pa n) - 1) 0 (nI (t + 1)) (nI c) (nI (a + 1)) (ar_n kd) (ar_p pa) (ar_n sz) (ar_n it) (ar_n pn) (ar_n po) (upd mk a (-1)) os (upd cs n (nI a)) cm) : wY_write_49 post (wY_write_12 post (nI r) f) (nI r) (nI n) (nI t) (nI c) (nI a) (ar_n kd) (ar_p pa) (ar_n sz) (ar_n it) (ar_n pn) (ar_n po) mk os cs cm := by
  have hi : vp_in (nI n) 24 := vp_in_nI hn (by omega)
  have ec : cm (nI n).toNatClampNeg = nI (sz n) := by rw [nI_clamp (by omega)]; exact e
  refine in_c hi (br_t (by rw [ar_nc _ (by omega), k]; rfl) (in_c hi (in_c hi (br_t (by rw [ec, ar_nc _ (by omega), nI_leI (by omega) (by omega)]; omega) ⟨1, in_c hi (br_c (fun _ => ?_) (fun _ => in_c hi (br_t (by rw [ar_nc _ (by omega), k]; rfl) ?_)))⟩))))
  · exact yy_wClose hn hr ha pr h
  · exact yy_wClose hn hr ha pr h
theorem yy_w110 {post : SY → Prop} {r n t a f : Nat} (hn : n < 24) (hr : r < 24) (pr : pa r = 0) (k : kd n = 1) (hs : sz n < 24) (ha : a + sz n < 400) {mk0 : Nat → Int32}
    (K : ∀ mk : Nat → Int32, (∀ j, j < sz n → mk (a + j) = nI (it (24 * n + j))) → (∀ q, q < a → mk q = mk0 q) → wY_write_12 post (nI r) f (nI (pa n) - 1) 0 (nI (t + 1)) (nI c) (nI (a + sz n + 1)) (ar_n kd) (ar_p pa) (ar_n sz) (ar_n it) (ar_n pn) (ar_n po) (upd mk (a + sz n) (-1)) os (upd cs n (nI (a + sz n))) cm) :
    ∀ d i (mk : Nat → Int32), i + d = sz n → (∀ j, j < i → mk (a + j) = nI (it (24 * n + j))) → (∀ q, q < a → mk q = mk0 q) → wY_write_110 post (wY_write_12 post (nI r) f) (nI r) (nI n) (nI t) (d + 1) (nI i) (nI c) (nI (a + i)) (ar_n kd) (ar_p pa) (ar_n sz) (ar_n it) (ar_n pn) (ar_n po) mk os cs cm := by
  have hi : vp_in (nI n) 24 := vp_in_nI hn (by omega)
  intro d
  induction d with
  | zero =>
    intro i mk e h1 h2
    have ei : i = sz n := by omega
    subst ei
    exact in_c hi (br_t (by rw [ar_nc _ (by omega), nI_leI (by omega) (by omega)]; omega) (yy_wClose hn hr ha pr (K mk h1 h2)))
  | succ d ih =>
    intro i mk e h1 h2
    refine in_c hi (br_f (by rw [ar_nc _ (by omega), nI_leI (by omega) (by omega)]; omega) (in_c hi (br_f (by rw [ar_nc _ (by omega), k]; decide) ?_)))
    rw [ix_y]
    refine in_c (vp_in_nI (by omega) (by omega)) ?_
    rw [ar_nc _ (by omega)]
    refine yy_mark (by omega) (nm_r (nI_1 i) ?_)
    refine ih (i + 1) _ (by omega) ?_ ?_
    · intro j hj
      by_cases ej : j = i
      · subst ej; rw [pk_us]
      · rw [pk_un (by omega)]; exact h1 j (by omega)
    · intro q hq
      rw [pk_un (by omega)]; exact h2 q hq
end
theorem yy_wNode {c : Nat} {kd pa sz it pn po : Nat → Nat} {ln : Int32} {mk os cs cm : Nat → Int32} {L op N : Nat → Nat} {post : SY → Prop} {r : Nat} (Q : ly_Q c kd pa sz it L op N) (T : tr_T c kd pa sz it) (hr : r < c) (pr : pa r = 0) :
    ∀ n, n < c → op n + L n ≤ 336 → ∀ t (mk os cs cm : Nat → Int32), t + 2 * N n ≤ 100 →
      (∀ mk' os' cs' cm', (∀ m, m < c → tr_w pa (m + 1) n → rw_E kd sz it L op mk' os' cs' m) → rw_G pa op n mk os cs cm mk' os' cs' cm' → wY_write_12 post (nI r) (200 - (t + 2 * N n - 1)) (nI (pa n) - 1) 0 (nI (t + 2 * N n - 1)) (nI c) (nI (op n + L n)) (ar_n kd) (ar_p pa) (ar_n sz) (ar_n it) (ar_n pn) (ar_n po) mk' os' cs' cm') →
      wY_write_12 post (nI r) (200 - t) (nI n) 1 (nI t) (nI c) (nI (op n)) (ar_n kd) (ar_p pa) (ar_n sz) (ar_n it) (ar_n pn) (ar_n po) mk os cs cm := by
  have c24 := tr_c24 T
  refine tr_hi T ?_
  intro n hn IH hb t mk0 os0 cs0 cm0 ht K
  have s24 := tr_s24 T hn
  rcases tr_k1 T hn with k | k
  · have eL := Q.2.1 n hn k
    have eN := Q.2.2.2.2.2.2.1 n hn k
    have IH := IH k
    have loop : ∀ d i (mk os cs cm : Nat → Int32), i + d = sz n → os n = nI (op n) → cm n = nI i → mk (op n) = -1 → (∀ j, j < i → ∀ m, m < c → tr_w pa (m + 1) (it (24 * n + j)) → rw_E kd sz it L op mk os cs m) → rw_G pa op n mk0 os0 cs0 cm0 mk os cs cm →
        wY_write_49 post (wY_write_12 post (nI r) (200 - (t + 2 * ly_s (fun j => N (it (24 * n + j))) i + 1))) (nI r) (nI n) (nI (t + 2 * ly_s (fun j => N (it (24 * n + j))) i)) (nI c) (nI (op n + 1 + ly_s (fun j => L (it (24 * n + j))) i)) (ar_n kd) (ar_p pa) (ar_n sz) (ar_n it) (ar_n pn) (ar_n po) mk os cs cm := by
      intro d
      induction d with
      | zero =>
        intro i mk os cs cm hi e1 e2 e3 e5 F
        have ei : i = sz n := by omega
        subst ei
        refine yy_wCloseE (by omega) (by omega) (by omega) pr k s24 e2 ?_
        rw [show op n + 1 + ly_s (fun j => L (it (24 * n + j))) (sz n) + 1 = op n + L n by omega, show t + 2 * ly_s (fun j => N (it (24 * n + j))) (sz n) + 1 = t + 2 * N n - 1 by omega]
        refine K _ _ _ _ ?_ ?_
        · intro m hm w
          rcases tr_wl w with z | ⟨q, z, g⟩
          · have : m = n := by omega
            subst this
            refine ⟨e1, ?_, ?_, ?_, ?_⟩
            · rw [pk_us]; congr 1; omega
            · rw [pk_un (by omega)]; exact e3
            · rw [show op m + L m - 1 = op m + 1 + ly_s (fun j => L (it (24 * m + j))) (sz m) by omega, pk_us]
            · intro k1; omega
          · have hq := tr_lt T hm g
            obtain ⟨_, _, j, hj, he⟩ := tr_pe T hq z
            have D := e5 j hj m hm (by rw [he]; exact g)
            have cl := ly_cl Q hn k hj
            rw [he] at cl
            have inn := ly_in Q T hm g
            have ne : m ≠ n := by
              rintro rfl
              exact tr_ac T hq z g
            exact rw_Ek Q T hm D (fun r h1 h2 => pk_un (by omega)) rfl (pk_un ne)
        · refine ⟨fun q hq => ?_, fun m w => ?_⟩
          · rw [pk_un (by omega)]; exact F.1 q hq
          · have ne : m ≠ n := by rintro rfl; exact w (tr_wr _ _)
            rw [pk_un ne]
            exact F.2 m w
      | succ d ih =>
        intro i mk os cs cm hi e1 e2 e3 e5 F
        have hi' : i < sz n := by omega
        have ch := tr_ch T hn k hi'
        have opc := ly_ch Q hn k hi'
        have cl := ly_cl Q hn k hi'
        have step := IH i hi'
        have e3s : ly_s (fun j => L (it (24 * n + j))) (i + 1) = ly_s (fun j => L (it (24 * n + j))) i + L (it (24 * n + i)) := rfl
        have e3n : ly_s (fun j => N (it (24 * n + j))) (i + 1) = ly_s (fun j => N (it (24 * n + j))) i + N (it (24 * n + i)) := rfl
        have smn := ly_sm (fun j => N (it (24 * n + j))) (i := i + 1) (j := sz n) (by omega)
        generalize em : it (24 * n + i) = m at ch opc cl step e3s e3n
        obtain ⟨hm, pm⟩ := ch
        have nem : n ≠ m := by rintro rfl; exact tr_ac T hm pm (tr_wr _ _)
        have nwn : ¬ tr_w pa (n + 1) m := tr_ac T hm pm
        refine yy_wChild (by omega) k s24 e2 hi' em ?_
        rw [← opc]
        refine step (by omega) _ _ _ _ _ (by omega) ?_
        intro mk' os' cs' cm' D' F'
        rw [pm, nI_pred]
        rw [show op m + L m = op n + 1 + ly_s (fun j => L (it (24 * n + j))) (i + 1) by omega, show t + 2 * ly_s (fun j => N (it (24 * n + j))) i + 1 + 2 * N m - 1 = t + 2 * ly_s (fun j => N (it (24 * n + j))) (i + 1) by omega]
        have fn := F'.2 n nwn
        have fo := F'.1 (op n) (by omega)
        refine yy_wCont (by omega) (by omega) (ih (i + 1) mk' os' cs' cm' (by omega) ?_ ?_ ?_ ?_ ?_)
        · rw [fn.1]; exact e1
        · rw [fn.2.2, pk_us]
        · rw [fo]; exact e3
        · intro j hj q hq w
          by_cases ej : j = i
          · subst ej
            rw [em] at w
            exact D' q hq w
          · have D := e5 j (by omega) q hq w
            have clj := ly_cl Q hn k (i := j) (by omega)
            have opj := ly_ch Q hn k (i := j) (by omega)
            have inn := ly_in Q T hq w
            have sm := ly_sm (fun j => L (it (24 * n + j))) (i := j + 1) (j := i) (by omega)
            have e3j : ly_s (fun j => L (it (24 * n + j))) (j + 1) = ly_s (fun j => L (it (24 * n + j))) j + L (it (24 * n + j)) := rfl
            have nw : ¬ tr_w pa (q + 1) m := by
              intro w2
              have := pl_odd1 T hn hq ⟨j, by omega, k, w, rfl⟩ ⟨i, hi', k, by rw [em]; exact w2, rfl⟩
              omega
            have fq := F'.2 q nw
            exact rw_Ek Q T hq D (fun r h1 h2 => F'.1 r (by omega)) fq.1 fq.2.1
        · refine ⟨fun r hr => ?_, fun q w => ?_⟩
          · rw [F'.1 r (by omega)]
            exact F.1 r hr
          · have nw : ¬ tr_w pa (q + 1) m := fun w2 => w (tr_wt w2 (tr_wp pm (tr_wr _ _)))
            have nen : q ≠ n := by rintro rfl; exact w (tr_wr _ _)
            have fq := F'.2 q nw
            rw [fq.1, fq.2.1, fq.2.2, pk_un nen]
            exact F.2 q w
    refine yy_wOpen (by omega) (by omega) (by omega) ?_
    refine loop (sz n) 0 _ _ _ _ (by omega) pk_us pk_us pk_us (fun j hj => by omega) ⟨fun q hq => pk_un (by omega), fun m w => ?_⟩
    have ne : m ≠ n := by rintro rfl; exact w (tr_wr _ _)
    exact ⟨pk_un ne, rfl, pk_un ne⟩
  · have eL := Q.1 n hn k
    have eN := Q.2.2.2.2.2.1 n hn k
    refine yy_wOpen (by omega) (by omega) (by omega) ?_
    have hi : vp_in (nI n) 24 := vp_in_nI (by omega) (by omega)
    refine in_c hi (br_f (by rw [ar_nc _ (by omega), k]; decide) ⟨sz n + 1, ?_⟩)
    refine yy_w110 (a := op n + 1) (mk0 := upd mk0 (op n) (-1)) (by omega) (by omega) pr k s24 (by omega) ?_ (sz n) 0 (upd mk0 (op n) (-1)) (by omega) (fun j hj => by omega) (fun _ _ => rfl)
    intro mk h1 h2
    have := K (upd mk (op n + 1 + sz n) (-1)) (upd os0 n (nI (op n))) (upd cs0 n (nI (op n + 1 + sz n))) (upd cm0 n 0) ?_ ?_
    · rw [eN, show t + 2 * 1 - 1 = t + 1 by omega, show op n + L n = op n + 1 + sz n + 1 by omega] at this
      exact this
    · intro m hm w
      have := pl_wtx T hm k w
      subst this
      refine ⟨pk_us, ?_, ?_, ?_, ?_⟩
      · rw [pk_us]; congr 1; omega
      · rw [pk_un (by omega), h2 _ (by omega), pk_us]
      · rw [show op m + L m - 1 = op m + 1 + sz m by omega, pk_us]
      · intro _ i hi
        rw [pk_un (by omega)]
        exact h1 i hi
    · refine ⟨fun q hq => ?_, fun m w => ?_⟩
      · rw [pk_un (by omega), h2 q (by omega), pk_un (by omega)]
      · have ne : m ≠ n := by rintro rfl; exact w (tr_wr _ _)
        exact ⟨pk_un ne, pk_un ne, pk_un ne⟩
theorem yy_write {c : Nat} {kd pa sz it pn po : Nat → Nat} {ln : Int32} {mk os cs cm : Nat → Int32} {L op N : Nat → Nat} {post : SY → Prop} {r : Nat} (Q : ly_Q c kd pa sz it L op N) (T : tr_T c kd pa sz it) (hr : r < c) (pr : pa r = 0)
    (h : ∀ ln mk os cs cm, (∀ m, m < c → tr_w pa (m + 1) r → rw_E kd sz it L op mk os cs m) → post (nI c, ln, ar_n kd, ar_p pa, ar_n sz, ar_n it, ar_n pn, ar_n po, mk, os, cs, cm)) : wpY_write post (nI c, ln, ar_n kd, ar_p pa, ar_n sz, ar_n it, ar_n pn, ar_n po, mk, os, cs, cm) (nI r) := by
  have o0 := Q.2.2.1 r hr pr
  have l336 := Q.2.2.2.2.1 r hr
  have n24 := Q.2.2.2.2.2.2.2 r hr
  refine ⟨200, ?_⟩
  have := yy_wNode (ln := ln) (mk := mk) (os := os) (cs := cs) (cm := cm) (pn := pn) (po := po) (post := post) Q T hr pr r hr (by omega) 0 mk os cs cm (by omega) ?_
  · rw [o0] at this
    exact this
  · intro mk' os' cs' cm' D F
    rw [pr, show 200 - (0 + 2 * N r - 1) = 199 - (0 + 2 * N r - 1) + 1 by omega]
    exact br_f (nI_ge (b := 100) (by omega) (by omega)) (br_t (by decide) (h _ mk' os' cs' cm' D))
end
section
/-! gaps, the order of places, compare, setStart, setEnd -/
theorem xx_gapOf {c : Nat} {kd pa sz it pn po : Nat → Nat} {sg eg : Int32} {rl rn oa ca il dm : Nat → Int32} {L op N : Nat → Nat} {post : Int32 → Prop} {r k : Nat} (Q : ly_Q c kd pa sz it L op N) (T : tr_T c kd pa sz it) (D : ∀ m, m < c → tr_w pa (m + 1) r → rw_D kd sz it L op rl rn oa ca m) (hk : k < 8) (V : pl_ok c sz (pn k) (po k)) (w : tr_w pa (pn k + 1) r) (h : post (nI (ly_g kd it L op (pn k) (po k)))) : wpX_gapOf post (nI c, sg, eg, ar_n kd, ar_p pa, ar_n sz, ar_n it, ar_n pn, ar_n po, rl, rn, oa, ca, il, dm) (nI k) := by
  have c24 := tr_c24 T
  have hv := V.1
  have ho := V.2
  have s24 := tr_s24 T hv
  have hki : vp_in (nI k) 8 := vp_in_nI hk (by omega)
  have hvi : vp_in (nI (pn k)) 24 := vp_in_nI (by omega) (by omega)
  have Dv := D _ hv w
  have g28 : (kd (pn k) = 1 ∨ po k = 0) → wX_gapOf_28 post (nI (pn k)) (nI (po k)) (nI c) sg eg (ar_n kd) (ar_p pa) (ar_n sz) (ar_n it) (ar_n pn) (ar_n po) rl rn oa ca il dm := by
    intro q
    refine in_c hvi ?_
    rw [nI_clamp (by omega), Dv.1, nI_1, nI_add]
    unfold ly_g at h
    rcases q with q | q
    · rw [if_pos q] at h; exact h
    · rw [q] at h ⊢
      by_cases q2 : kd (pn k) = 1
      · rw [if_pos q2] at h; exact h
      · rw [if_neg q2] at h; exact h
  refine in_c hki (nm_r (ar_nc _ (by omega)) (in_c hki (nm_r (ar_nc _ (by omega)) (cb_i (d := po k = 0) ?_ (fun e => g28 (Or.inr e)) (fun e => in_c hvi ?_)))))
  · exact nI_eq (b := 0) (by omega) (by omega)
  · rw [ar_nc _ (by omega)]
    rcases tr_k1 T hv with k0 | k1
    · rw [k0]
      refine br_f (by decide) ?_
      rw [ix_x, show nI (24 * pn k + po k) - 1 = nI (24 * pn k + (po k - 1)) from by rw [show 24 * pn k + (po k - 1) = 24 * pn k + po k - 1 by omega]; exact pk_sub (b := 1) (by omega)]
      have ch := tr_ch T hv k0 (i := po k - 1) (by omega)
      have opc := ly_ch Q hv k0 (i := po k - 1) (by omega)
      have Dm := D _ ch.1 (tr_wp ch.2 w)
      have l2 := ly_L2 Q T ch.1
      refine in_c (vp_in_nI (by omega) (by omega)) (nm_r (ar_nc _ (by omega)) (in_c (vp_in_nI (by omega) (by omega)) ?_))
      rw [nI_clamp (by omega), Dm.2.1, nI_1]
      unfold ly_g at h
      rw [if_neg (by omega)] at h
      have e3 : ly_s (fun j => L (it (24 * pn k + j))) (po k - 1 + 1) = ly_s (fun j => L (it (24 * pn k + j))) (po k - 1) + L (it (24 * pn k + (po k - 1))) := rfl
      rw [show po k - 1 + 1 = po k by omega] at e3
      rw [show op (it (24 * pn k + (po k - 1))) + L (it (24 * pn k + (po k - 1))) - 1 + 1 = op (pn k) + 1 + ly_s (fun j => L (it (24 * pn k + j))) (po k) by omega]
      exact h
    · rw [k1]
      exact br_t rfl (g28 (Or.inl k1))
theorem yy_gap {c : Nat} {kd pa sz it pn po : Nat → Nat} {ln : Int32} {mk os cs cm : Nat → Int32} {L op N : Nat → Nat} {post : Int32 → Prop} {r k : Nat} (Q : ly_Q c kd pa sz it L op N) (T : tr_T c kd pa sz it) (D : ∀ m, m < c → tr_w pa (m + 1) r → rw_E kd sz it L op mk os cs m) (hk : k < 8) (V : pl_ok c sz (pn k) (po k)) (w : tr_w pa (pn k + 1) r) (h : post (nI (ly_g kd it L op (pn k) (po k)))) : wpY_gap post (nI c, ln, ar_n kd, ar_p pa, ar_n sz, ar_n it, ar_n pn, ar_n po, mk, os, cs, cm) (nI k) := by
  have c24 := tr_c24 T
  have hv := V.1
  have ho := V.2
  have s24 := tr_s24 T hv
  have hki : vp_in (nI k) 8 := vp_in_nI hk (by omega)
  have hvi : vp_in (nI (pn k)) 24 := vp_in_nI (by omega) (by omega)
  have Dv := D _ hv w
  have g28 : (kd (pn k) = 1 ∨ po k = 0) → wY_gap_27 post (nI (pn k)) (nI (po k)) (nI c) ln (ar_n kd) (ar_p pa) (ar_n sz) (ar_n it) (ar_n pn) (ar_n po) mk os cs cm := by
    intro q
    refine in_c hvi ?_
    rw [nI_clamp (by omega), Dv.1, nI_1, nI_add]
    unfold ly_g at h
    rcases q with q | q
    · rw [if_pos q] at h; exact h
    · rw [q] at h ⊢
      by_cases q2 : kd (pn k) = 1
      · rw [if_pos q2] at h; exact h
      · rw [if_neg q2] at h; exact h
  refine in_c hki (nm_r (ar_nc _ (by omega)) (in_c hki (nm_r (ar_nc _ (by omega)) (in_c hvi ?_))))
  rw [ar_nc _ (by omega)]
  rcases tr_k1 T hv with k0 | k1
  · rw [k0]
    refine br_t rfl (cb_i (d := po k = 0) (nI_eq (b := 0) (by omega) (by omega)) (fun e => g28 (Or.inr e)) (fun e => ?_))
    rw [ix_y, show nI (24 * pn k + po k) - 1 = nI (24 * pn k + (po k - 1)) from by rw [show 24 * pn k + (po k - 1) = 24 * pn k + po k - 1 by omega]; exact pk_sub (b := 1) (by omega)]
    have ch := tr_ch T hv k0 (i := po k - 1) (by omega)
    have opc := ly_ch Q hv k0 (i := po k - 1) (by omega)
    have Dm := D _ ch.1 (tr_wp ch.2 w)
    have l2 := ly_L2 Q T ch.1
    rw [ar_nc _ (by omega)]
    refine in_c (vp_in_nI (by omega) (by omega)) (in_c (vp_in_nI (by omega) (by omega)) ?_)
    rw [nI_clamp (by omega), Dm.2.1, nI_1]
    unfold ly_g at h
    rw [if_neg (by omega)] at h
    have e3 : ly_s (fun j => L (it (24 * pn k + j))) (po k - 1 + 1) = ly_s (fun j => L (it (24 * pn k + j))) (po k - 1) + L (it (24 * pn k + (po k - 1))) := rfl
    rw [show po k - 1 + 1 = po k by omega] at e3
    rw [show op (it (24 * pn k + (po k - 1))) + L (it (24 * pn k + (po k - 1))) - 1 + 1 = op (pn k) + 1 + ly_s (fun j => L (it (24 * pn k + j))) (po k) by omega]
    exact h
  · rw [k1]
    exact br_f (by decide) (g28 (Or.inl k1))
/-- gaps lie inside the row -/
theorem ly_gr {c : Nat} {kd pa sz it L op N : Nat → Nat} (Q : ly_Q c kd pa sz it L op N) (T : tr_T c kd pa sz it) {v o r : Nat} (V : pl_ok c sz v o) (hr : r < c) (pr : pa r = 0) (w : tr_w pa (v + 1) r) : 0 < ly_g kd it L op v o ∧ ly_g kd it L op v o < L r ∧ L r ≤ 336 := by
  have a := ly_gb Q T V
  have b := ly_in Q T V.1 w
  have o0 := Q.2.2.1 r hr pr
  have l := Q.2.2.2.2.1 r hr
  omega
def cp_c (a b : Nat) : Int32 := if a = b then 0 else if a < b then -1 else 1
theorem xx_order_ne {c : Nat} {kd pa sz it pn po : Nat → Nat} {sg eg : Int32} {rl rn oa ca il dm : Nat → Int32} {post : Int32 → SX → Prop} {a b r r' : Nat} (T : tr_T c kd pa sz it) (V : ∀ k, k < 8 → pl_ok c sz (pn k) (po k)) (ha : a < 8) (hb : b < 8) (pr : pa r = 0) (w : tr_w pa (pn a + 1) r) (pr' : pa r' = 0) (w' : tr_w pa (pn b + 1) r') (ne : r ≠ r') (h : post 2 (nI c, sg, eg, ar_n kd, ar_p pa, ar_n sz, ar_n it, ar_n pn, ar_n po, rl, rn, oa, ca, il, dm)) : wpX_placeOrder post (nI c, sg, eg, ar_n kd, ar_p pa, ar_n sz, ar_n it, ar_n pn, ar_n po, rl, rn, oa, ca, il, dm) (nI a) (nI b) := by
  have c24 := tr_c24 T
  have h1 := tr_lt T (V a ha).1 w
  have h2 := tr_lt T (V b hb).1 w'
  refine in_c (vp_in_nI ha (by omega)) ?_
  rw [ar_nc pn (i := a) (by omega)]
  refine xx_topOf T (V a ha).1 pr w (in_c (vp_in_nI hb (by omega)) ?_)
  rw [ar_nc pn (i := b) (by omega)]
  refine xx_topOf T (V b hb).1 pr' w' (br_f ?_ h)
  rw [nI_eq (by omega) (by omega)]; exact ne
theorem xx_order_eq {c : Nat} {kd pa sz it pn po : Nat → Nat} {sg eg : Int32} {rl rn oa ca il dm : Nat → Int32} {L op N : Nat → Nat} {post : Int32 → SX → Prop} {a b r : Nat} (Q : ly_Q c kd pa sz it L op N) (T : tr_T c kd pa sz it) (V : ∀ k, k < 8 → pl_ok c sz (pn k) (po k)) (ha : a < 8) (hb : b < 8) (pr : pa r = 0) (w : tr_w pa (pn a + 1) r) (w' : tr_w pa (pn b + 1) r) (h : ∀ rl rn oa ca il, post (cp_c (ly_g kd it L op (pn a) (po a)) (ly_g kd it L op (pn b) (po b))) (nI c, sg, eg, ar_n kd, ar_p pa, ar_n sz, ar_n it, ar_n pn, ar_n po, rl, rn, oa, ca, il, dm)) : wpX_placeOrder post (nI c, sg, eg, ar_n kd, ar_p pa, ar_n sz, ar_n it, ar_n pn, ar_n po, rl, rn, oa, ca, il, dm) (nI a) (nI b) := by
  have c24 := tr_c24 T
  have hr := tr_lt T (V a ha).1 w
  have ga := ly_gr Q T (V a ha) hr pr w
  have gb := ly_gr Q T (V b hb) hr pr w'
  refine in_c (vp_in_nI ha (by omega)) ?_
  rw [ar_nc pn (i := a) (by omega)]
  refine xx_topOf T (V a ha).1 pr w (in_c (vp_in_nI hb (by omega)) ?_)
  rw [ar_nc pn (i := b) (by omega)]
  refine xx_topOf T (V b hb).1 pr w' (br_t rfl (xx_layRow Q T hr pr ?_))
  intro rl rn oa ca il D
  refine xx_gapOf Q T D ha (V a ha) w (xx_gapOf Q T D hb (V b hb) w' ?_)
  have h := h rl rn oa ca il
  unfold cp_c at h
  refine cb_i (nI_eq (by omega) (by omega)) (fun e => ?_) (fun e => cb_i (nI_leI (by omega) (by omega)) (fun e2 => ?_) (fun e2 => ?_))
  · rw [if_pos e] at h; exact h
  · rw [if_neg e, if_neg (by omega)] at h; exact h
  · rw [if_neg e, if_pos (by omega)] at h; exact h
theorem yy_order_ne {c : Nat} {kd pa sz it pn po : Nat → Nat} {ln : Int32} {mk os cs cm : Nat → Int32} {post : Int32 → SY → Prop} {a b r r' : Nat} (T : tr_T c kd pa sz it) (V : ∀ k, k < 8 → pl_ok c sz (pn k) (po k)) (ha : a < 8) (hb : b < 8) (pr : pa r = 0) (w : tr_w pa (pn a + 1) r) (pr' : pa r' = 0) (w' : tr_w pa (pn b + 1) r') (ne : r ≠ r') (h : post 2 (nI c, ln, ar_n kd, ar_p pa, ar_n sz, ar_n it, ar_n pn, ar_n po, mk, os, cs, cm)) : wpY_order post (nI c, ln, ar_n kd, ar_p pa, ar_n sz, ar_n it, ar_n pn, ar_n po, mk, os, cs, cm) (nI a) (nI b) := by
  have c24 := tr_c24 T
  have h1 := tr_lt T (V a ha).1 w
  have h2 := tr_lt T (V b hb).1 w'
  refine in_c (vp_in_nI ha (by omega)) ?_
  rw [ar_nc pn (i := a) (by omega)]
  refine yy_treeOf T (V a ha).1 pr w (in_c (vp_in_nI hb (by omega)) ?_)
  rw [ar_nc pn (i := b) (by omega)]
  refine yy_treeOf T (V b hb).1 pr' w' (br_f ?_ h)
  rw [nI_eq (by omega) (by omega)]; exact Ne.symm ne
theorem yy_order_eq {c : Nat} {kd pa sz it pn po : Nat → Nat} {ln : Int32} {mk os cs cm : Nat → Int32} {L op N : Nat → Nat} {post : Int32 → SY → Prop} {a b r : Nat} (Q : ly_Q c kd pa sz it L op N) (T : tr_T c kd pa sz it) (V : ∀ k, k < 8 → pl_ok c sz (pn k) (po k)) (ha : a < 8) (hb : b < 8) (pr : pa r = 0) (w : tr_w pa (pn a + 1) r) (w' : tr_w pa (pn b + 1) r) (h : ∀ ln mk os cs cm, post (cp_c (ly_g kd it L op (pn a) (po a)) (ly_g kd it L op (pn b) (po b))) (nI c, ln, ar_n kd, ar_p pa, ar_n sz, ar_n it, ar_n pn, ar_n po, mk, os, cs, cm)) : wpY_order post (nI c, ln, ar_n kd, ar_p pa, ar_n sz, ar_n it, ar_n pn, ar_n po, mk, os, cs, cm) (nI a) (nI b) := by
  have c24 := tr_c24 T
  have hr := tr_lt T (V a ha).1 w
  have ga := ly_gr Q T (V a ha) hr pr w
  have gb := ly_gr Q T (V b hb) hr pr w'
  refine in_c (vp_in_nI ha (by omega)) ?_
  rw [ar_nc pn (i := a) (by omega)]
  refine yy_treeOf T (V a ha).1 pr w (in_c (vp_in_nI hb (by omega)) ?_)
  rw [ar_nc pn (i := b) (by omega)]
  refine yy_treeOf T (V b hb).1 pr w' (br_t rfl (yy_write Q T hr pr ?_))
  intro ln mk os cs cm D
  refine yy_gap Q T D ha (V a ha) w (yy_gap Q T D hb (V b hb) w' ?_)
  have h := h ln mk os cs cm
  unfold cp_c at h
  refine cb_i (nI_leI (by omega) (by omega)) (fun e => cb_i (nI_leI (by omega) (by omega)) (fun e2 => ?_) (fun e2 => ?_)) (fun e => ?_)
  · rw [if_pos (by omega)] at h; exact h
  · rw [if_neg (by omega), if_neg (by omega)] at h; exact h
  · rw [if_neg (by omega), if_pos (by omega)] at h; exact h
theorem i_vc_compare {k : Nat} {u : SX} {v : SY} (I : i_Rel k u v) (hk : k + 5 ≤ 2560) (v1 : Int32) (v2 : Int32) (v3 : Int32) (v4 : Int32) : wpX_compare (fun r u' => wpY_compare (fun r' v' => r' = r ∧ i_Rel (k + 5) u' v') v v1 v2 v3 v4) u v1 v2 v3 v4 := by
  have J := i_up I
  obtain ⟨c, kd, pa, sz, it, pn, po, sg, eg, rl, rn, oa, ca, il, dm, ln, mk, os, cs, cm, rfl, rfl, T, P⟩ := I
  unfold wpX_compare
  dsimp only
  rcases nd_cases 4 v1 with ⟨q1, h1, rfl⟩ | h1
  · refine xx_isRange_t h1 (br_f (by decide) ?_)
    rcases nd_cases 2 v2 with ⟨q2, h2, rfl⟩ | h2
    · refine xx_isWhich_t h2 (br_f (by decide) ?_)
      rcases nd_cases 4 v3 with ⟨q3, h3, rfl⟩ | h3
      · refine xx_isRange_t h3 (br_f (by decide) ?_)
        rcases nd_cases 2 v4 with ⟨q4, h4, rfl⟩ | h4
        · refine xx_isWhich_t h4 (br_f (by decide) ?_)
          have YW : ∀ post : Int32 → SY → Prop, wpY_order (fun r u => post r u) (nI c, ln, ar_n kd, ar_p pa, ar_n sz, ar_n it, ar_n pn, ar_n po, mk, os, cs, cm) (nI (2 * q1 + q2)) (nI (2 * q3 + q4)) → wpY_compare post (nI c, ln, ar_n kd, ar_p pa, ar_n sz, ar_n it, ar_n pn, ar_n po, mk, os, cs, cm) (nI q1) (nI q2) (nI q3) (nI q4) := by
            intro post h
            unfold wpY_compare
            dsimp only
            refine yy_isPlace_t h1 h2 (br_f (by decide) (yy_isPlace_t h3 h4 (br_f (by decide) ?_)))
            rw [ix_2y, ix_2y, nI_add, nI_add]
            exact h
          rw [ix_2x, ix_2x, nI_add, nI_add]
          have ha : 2 * q1 + q2 < 8 := by omega
          have hb : 2 * q3 + q4 < 8 := by omega
          obtain ⟨r, hr, pr, w⟩ := tr_top T (P.1 _ ha).1
          obtain ⟨r', hr', pr', w'⟩ := tr_top T (P.1 _ hb).1
          by_cases e : r = r'
          · subst e
            obtain ⟨L, op, N, Q⟩ := ly_ex T
            refine xx_order_eq Q T P.1 ha hb pr w w' ?_
            intro rl rn oa ca il
            refine YW _ (yy_order_eq Q T P.1 ha hb pr w w' ?_)
            intro ln mk os cs cm
            exact ⟨rfl, rel_mk T P⟩
          · exact xx_order_ne T P.1 ha hb pr w pr' w' e (YW _ (yy_order_ne T P.1 ha hb pr w pr' w' e ⟨rfl, J⟩))
        · refine xx_isWhich_f h4 (br_t rfl ?_)
          unfold wpY_compare
          dsimp only
          exact yy_isPlace_t h1 h2 (br_f (by decide) (yy_isPlace_f2 h3 h4 (br_t rfl ⟨rfl, J⟩)))
      · refine xx_isRange_f h3 (br_t rfl ?_)
        unfold wpY_compare
        dsimp only
        exact yy_isPlace_t h1 h2 (br_f (by decide) (yy_isPlace_f1 h3 (br_t rfl ⟨rfl, J⟩)))
    · refine xx_isWhich_f h2 (br_t rfl ?_)
      unfold wpY_compare
      dsimp only
      exact yy_isPlace_f2 h1 h2 (br_t rfl ⟨rfl, J⟩)
  · refine xx_isRange_f h1 (br_t rfl ?_)
    unfold wpY_compare
    dsimp only
    exact yy_isPlace_f1 h1 (br_t rfl ⟨rfl, J⟩)
/-! setStart, setEnd -/
theorem cp_1 {a b : Nat} : (cp_c a b = 2 → False) ∧ (cp_c a b = 1 ↔ b < a) ∧ (cp_c a b = -1 ↔ a < b) := by
  unfold cp_c
  by_cases e : a = b
  · rw [if_pos e]
    exact ⟨by decide, ⟨fun z => absurd z (by decide), fun z => by omega⟩, ⟨fun z => absurd z (by decide), fun z => by omega⟩⟩
  · rw [if_neg e]
    by_cases l : a < b
    · rw [if_pos l]
      exact ⟨by decide, ⟨fun z => absurd z (by decide), fun z => by omega⟩, ⟨fun _ => l, fun _ => rfl⟩⟩
    · rw [if_neg l]
      exact ⟨by decide, ⟨fun _ => by omega, fun _ => rfl⟩, ⟨fun z => absurd z (by decide), fun z => by omega⟩⟩
/-- two places of a range set anew -/
theorem pl_set {c : Nat} {kd pa sz it pn po pn' po' : Nat → Nat} (P : pl_P c kd pa sz it pn po) {q : Nat} (hq : q < 4) (same : ∀ k, k ≠ 2 * q → k ≠ 2 * q + 1 → pn' k = pn k ∧ po' k = po k) (v1 : pl_ok c sz (pn' (2 * q)) (po' (2 * q))) (v2 : pl_ok c sz (pn' (2 * q + 1)) (po' (2 * q + 1))) (R : pl_R c kd pa sz it (pn' (2 * q)) (po' (2 * q)) (pn' (2 * q + 1)) (po' (2 * q + 1))) : pl_P c kd pa sz it pn' po' := by
  refine ⟨fun k hk => ?_, fun r hr => ?_⟩
  · by_cases e1 : k = 2 * q
    · rw [e1]; exact v1
    · by_cases e2 : k = 2 * q + 1
      · rw [e2]; exact v2
      · have := same k e1 e2
        rw [this.1, this.2]
        exact P.1 k hk
  · by_cases e : r = q
    · rw [e]; exact R
    · have a := same (2 * r) (by omega) (by omega)
      have b := same (2 * r + 1) (by omega) (by omega)
      rw [a.1, a.2, b.1, b.2]
      exact P.2 r hr
theorem xx_isOffset {c : Nat} {kd pa sz it pn po : Nat → Nat} {sg eg : Int32} {rl rn oa ca il dm : Nat → Int32} {post : Int32 → Prop} {n : Nat} {x : Int32} (hn : n < 24) (hs : sz n < 24) (h1 : ∀ o, o ≤ sz n → x = nI o → post 1) (h0 : (∀ o, o ≤ sz n → x ≠ nI o) → post 0) : wpX_isOffset post (nI c, sg, eg, ar_n kd, ar_p pa, ar_n sz, ar_n it, ar_n pn, ar_n po, rl, rn, oa, ca, il, dm) (nI n) x := by
  by_cases z : x < 0
  · exact br_t z (h0 fun o ho e => by rw [e] at z; exact nI_pos (by omega) z)
  · obtain ⟨j, hj, rfl⟩ := nI_of z
    refine br_f z (in_c (vp_in_nI hn (by omega)) ?_)
    rw [ar_nc _ (by omega)]
    refine cb_i (nI_ltI (by omega) hj) (fun l => h0 fun o ho e => ?_) (fun l => h1 j (by omega) rfl)
    rw [nI_eq hj (by omega)] at e
    omega
theorem of_f {n : Nat} {x : Int32} (hn : n < 24) (h : ∀ o, o ≤ n → x ≠ nI o) : x < 0 ∨ (¬ x < 0 ∧ ¬ x ≤ nI n) := by
  by_cases z : x < 0
  · exact Or.inl z
  · obtain ⟨j, hj, rfl⟩ := nI_of z
    refine Or.inr ⟨z, fun l => ?_⟩
    rw [nI_leI hj (by omega)] at l
    exact h j l rfl
theorem yy_copyPlace {c : Nat} {kd pa sz it pn po : Nat → Nat} {ln : Int32} {mk os cs cm : Nat → Int32} {post : SY → Prop} {a b : Nat} (ha : a < 8) (hb : b < 8) (h : post (nI c, ln, ar_n kd, ar_p pa, ar_n sz, ar_n it, ar_n (st_u pn b (pn a)), ar_n (st_u po b (po a)), mk, os, cs, cm)) : wpY_copyPlace post (nI c, ln, ar_n kd, ar_p pa, ar_n sz, ar_n it, ar_n pn, ar_n po, mk, os, cs, cm) (nI a) (nI b) := by
  refine in_c (vp_in_nI ha (by omega)) (in_c (vp_in_nI hb (by omega)) (nm_r (e' := ar_n (st_u pn b (pn a))) ?_ (in_c (vp_in_nI ha (by omega)) (in_c (vp_in_nI hb (by omega)) (nm_r (e' := ar_n (st_u po b (po a))) ?_ h)))))
  · rw [ar_nc _ (by omega), nI_clamp (by omega), ar_nu]
  · rw [ar_nc _ (by omega), nI_clamp (by omega), ar_nu]
/-- Y's setPlace up to the order -/
theorem yy_sp0 {c : Nat} {kd pa sz it pn po : Nat → Nat} {ln : Int32} {mk os cs cm : Nat → Int32} {post : Int32 → SY → Prop} {a b n o : Nat} {x : Int32} (T : tr_T c kd pa sz it) (ha : a < 8) (hn : n < c) (ho : o ≤ sz n) (h : wpY_order (fun r_22 u => match u with | (f_count_23, f_length_24, a_isText_25, a_parents_26, a_sizes_27, a_items_28, a_placeNode_29, a_placeOffset_30, a_marks_31, a_opens_32, a_closes_33, a_coming_34) => (((r_22 = 2 → (wY_setPlace_67 post (nI a) (nI b) f_count_23 f_length_24 a_isText_25 a_parents_26 a_sizes_27 a_items_28 a_placeNode_29 a_placeOffset_30 a_marks_31 a_opens_32 a_closes_33 a_coming_34)) ∧ (¬ r_22 = 2 → (((r_22 = x → (wY_setPlace_67 post (nI a) (nI b) f_count_23 f_length_24 a_isText_25 a_parents_26 a_sizes_27 a_items_28 a_placeNode_29 a_placeOffset_30 a_marks_31 a_opens_32 a_closes_33 a_coming_34)) ∧ (¬ r_22 = x → (post 1 (f_count_23, f_length_24, a_isText_25, a_parents_26, a_sizes_27, a_items_28, a_placeNode_29, a_placeOffset_30, a_marks_31, a_opens_32, a_closes_33, a_coming_34))))))))) (nI c, ln, ar_n kd, ar_p pa, ar_n sz, ar_n it, ar_n (st_u pn a n), ar_n (st_u po a o), mk, os, cs, cm) (nI b) (nI a)) : wpY_setPlace post (nI c, ln, ar_n kd, ar_p pa, ar_n sz, ar_n it, ar_n pn, ar_n po, mk, os, cs, cm) (nI a) (nI b) x (nI n) (nI o) := by
  have c24 := tr_c24 T
  have s24 := tr_s24 T hn
  unfold wpY_setPlace
  dsimp only
  refine yy_isNode_t c24 hn (br_f (by decide) (br_f (nI_pos (by omega)) (in_c (vp_in_nI (by omega) (by omega)) (br_t (by rw [ar_nc _ (by omega), nI_leI (by omega) (by omega)]; exact ho) (in_c (vp_in_nI ha (by omega)) (nm_r (e' := ar_n (st_u pn a n)) ?_ (in_c (vp_in_nI ha (by omega)) (nm_r (e' := ar_n (st_u po a o)) ?_ h))))))))
  · rw [nI_clamp (by omega), ar_nu]
  · rw [nI_clamp (by omega), ar_nu]
end
section
/-! setStart, setEnd (one text, turned twice) -/
theorem i_vc_setStart {k : Nat} {u : SX} {v : SY} (I : i_Rel k u v) (hk : k + 5 ≤ 2560) (v1 : Int32) (v2 : Int32) (v3 : Int32) : wpX_setStart (fun r u' => wpY_setStart (fun r' v' => r' = r ∧ i_Rel (k + 5) u' v') v v1 v2 v3) u v1 v2 v3 := by
  have J := i_up I
  obtain ⟨c, kd, pa, sz, it, pn, po, sg, eg, rl, rn, oa, ca, il, dm, ln, mk, os, cs, cm, rfl, rfl, T, P⟩ := I
  have c24 := tr_c24 T
  unfold wpX_setStart
  dsimp only
  rcases nd_cases 4 v1 with ⟨q, hq, rfl⟩ | h
  · refine xx_isRange_t hq (br_f (by decide) ?_)
    have YW : ∀ post : Int32 → SY → Prop, wpY_setPlace (fun r u => post r u) (nI c, ln, ar_n kd, ar_p pa, ar_n sz, ar_n it, ar_n pn, ar_n po, mk, os, cs, cm) (nI (2 * q)) (nI (2 * q + 1)) (-1) v2 v3 → wpY_setStart post (nI c, ln, ar_n kd, ar_p pa, ar_n sz, ar_n it, ar_n pn, ar_n po, mk, os, cs, cm) (nI q) v2 v3 := by
      intro post h
      unfold wpY_setStart
      dsimp only
      refine yy_isRange_t hq (br_f (by decide) ?_)
      rw [ix_2y, nI_1]
      exact h
    rcases nd_cases c v2 with ⟨n, hn, rfl⟩ | h2
    · have s24 := tr_s24 T hn
      refine xx_isNode_t c24 hn (br_f (by decide) (xx_isOffset (by omega) s24 ?_ ?_))
      · intro o ho e
        subst e
        have V1 : ∀ j, j < 8 → pl_ok c sz (st_u pn (2 * q) n j) (st_u po (2 * q) o j) := by
          intro j hj
          by_cases e : j = 2 * q
          · subst e; rw [st_us, st_us]; exact ⟨hn, ho⟩
          · rw [st_un e, st_un e]; exact P.1 j hj
        have P2 : pl_P c kd pa sz it (st_u (st_u pn (2 * q) n) (2 * q + 1) n) (st_u (st_u po (2 * q) o) (2 * q + 1) o) := by
          have fa : ∀ (f : Nat → Nat) x, st_u (st_u f (2 * q) x) (2 * q + 1) x (2 * q) = x ∧ st_u (st_u f (2 * q) x) (2 * q + 1) x (2 * q + 1) = x := by
            intro f x
            unfold st_u
            constructor
            · split
              · rfl
              · split
                · rfl
                · omega
            · split
              · rfl
              · split
                · rfl
                · omega
          refine pl_set P hq (fun j h1 h2 => ?_) ?_ ?_ ?_
          · rw [st_un (by omega), st_un (by omega), st_un (by omega), st_un (by omega)]; exact ⟨rfl, rfl⟩
          · rw [(fa pn n).1, (fa po o).1]; exact ⟨hn, ho⟩
          · rw [(fa pn n).2, (fa po o).2]; exact ⟨hn, ho⟩
          · rw [(fa pn n).1, (fa po o).1, (fa pn n).2, (fa po o).2]; exact pl_Rr T hn
        refine br_f (by decide) (nm_r (ix_2x q) ?_)
        refine xx_setPlace (k := 2 * q) (by omega) rfl rfl ?_
        show wpX_placeOrder _ _ _ _
        rw [nI_1]
        obtain ⟨r, hr, pr, w⟩ := tr_top T (V1 (2 * q) (by omega)).1
        obtain ⟨r', hr', pr', w'⟩ := tr_top T (V1 (2 * q + 1) (by omega)).1
        by_cases e : r = r'
        · subst e
          obtain ⟨L, op, N, Q⟩ := ly_ex T
          refine xx_order_eq Q T V1 (by omega) (by omega) pr w w' ?_
          intro rl rn oa ca il
          by_cases l : ly_g kd it L op (st_u pn (2 * q) n (2 * q + 1)) (st_u po (2 * q) o (2 * q + 1)) < ly_g kd it L op (st_u pn (2 * q) n (2 * q)) (st_u po (2 * q) o (2 * q))
          · refine br_f (fun z => cp_1.1 z) (br_t (cp_1.2.1.mpr l) ?_)
            unfold wX_setStart_67
            rw [nI_1]
            refine xx_setPlace (k := 2 * q + 1) (by omega) rfl rfl ?_
            show wpY_setStart _ _ _ _ _
            refine YW _ (yy_sp0 T (by omega) hn ho (yy_order_eq Q T V1 (by omega) (by omega) pr w' w ?_))
            intro ln mk os cs cm
            refine br_f (fun z => cp_1.1 z) (br_t (cp_1.2.2.mpr l) ?_)
            unfold wY_setPlace_67
            refine yy_copyPlace (by omega) (by omega) ?_
            rw [st_us, st_us]
            exact ⟨rfl, rel_mk T P2⟩
          · refine br_f (fun z => cp_1.1 z) (br_f (fun z => l (cp_1.2.1.mp z)) ?_)
            show wpY_setStart _ _ _ _ _
            refine YW _ (yy_sp0 T (by omega) hn ho (yy_order_eq Q T V1 (by omega) (by omega) pr w' w ?_))
            intro ln mk os cs cm
            refine br_f (fun z => cp_1.1 z) (br_f (fun z => l (cp_1.2.2.mp z)) ?_)
            refine ⟨rfl, rel_mk T (pl_set P hq (fun j h1 h2 => ?_) (V1 _ (by omega)) (V1 _ (by omega)) ⟨⟨r, w, w'⟩, ly_ord Q T (V1 _ (by omega)) (V1 _ (by omega)) (by omega)⟩)⟩
            rw [st_un (by omega), st_un (by omega)]; exact ⟨rfl, rfl⟩
        · refine xx_order_ne T V1 (by omega) (by omega) pr w pr' w' e (br_t rfl ?_)
          unfold wX_setStart_67
          rw [nI_1]
          refine xx_setPlace (k := 2 * q + 1) (by omega) rfl rfl ?_
          show wpY_setStart _ _ _ _ _
          refine YW _ (yy_sp0 T (by omega) hn ho (yy_order_ne T V1 (by omega) (by omega) pr' w' pr w (Ne.symm e) (br_t rfl ?_)))
          unfold wY_setPlace_67
          refine yy_copyPlace (by omega) (by omega) ?_
          rw [st_us, st_us]
          exact ⟨rfl, rel_mk T P2⟩
      · intro h3
        refine br_t rfl (YW _ ?_)
        unfold wpY_setPlace
        dsimp only
        refine yy_isNode_t c24 hn (br_f (by decide) ?_)
        rcases of_f s24 h3 with z | ⟨z, z2⟩
        · exact br_t z ⟨rfl, J⟩
        · refine br_f z (in_c (vp_in_nI (by omega) (by omega)) (br_f ?_ ⟨rfl, J⟩))
          rw [ar_nc _ (by omega)]; exact z2
    · refine xx_isNode_f c24 h2 (br_t rfl (YW _ ?_))
      unfold wpY_setPlace
      dsimp only
      exact yy_isNode_f c24 h2 (br_t rfl ⟨rfl, J⟩)
  · refine xx_isRange_f h (br_t rfl ?_)
    unfold wpY_setStart
    dsimp only
    exact yy_isRange_f h (br_t rfl ⟨rfl, J⟩)
theorem i_vc_setEnd {k : Nat} {u : SX} {v : SY} (I : i_Rel k u v) (hk : k + 5 ≤ 2560) (v1 : Int32) (v2 : Int32) (v3 : Int32) : wpX_setEnd (fun r u' => wpY_setEnd (fun r' v' => r' = r ∧ i_Rel (k + 5) u' v') v v1 v2 v3) u v1 v2 v3 := by
  have J := i_up I
  obtain ⟨c, kd, pa, sz, it, pn, po, sg, eg, rl, rn, oa, ca, il, dm, ln, mk, os, cs, cm, rfl, rfl, T, P⟩ := I
  have c24 := tr_c24 T
  unfold wpX_setEnd
  dsimp only
  rcases nd_cases 4 v1 with ⟨q, hq, rfl⟩ | h
  · refine xx_isRange_t hq (br_f (by decide) ?_)
    have YW : ∀ post : Int32 → SY → Prop, wpY_setPlace (fun r u => post r u) (nI c, ln, ar_n kd, ar_p pa, ar_n sz, ar_n it, ar_n pn, ar_n po, mk, os, cs, cm) (nI (2 * q + 1)) (nI (2 * q)) (1) v2 v3 → wpY_setEnd post (nI c, ln, ar_n kd, ar_p pa, ar_n sz, ar_n it, ar_n pn, ar_n po, mk, os, cs, cm) (nI q) v2 v3 := by
      intro post h
      unfold wpY_setEnd
      dsimp only
      refine yy_isRange_t hq (br_f (by decide) ?_)
      rw [ix_2y, nI_1]
      exact h
    rcases nd_cases c v2 with ⟨n, hn, rfl⟩ | h2
    · have s24 := tr_s24 T hn
      refine xx_isNode_t c24 hn (br_f (by decide) (xx_isOffset (by omega) s24 ?_ ?_))
      · intro o ho e
        subst e
        have V1 : ∀ j, j < 8 → pl_ok c sz (st_u pn (2 * q + 1) n j) (st_u po (2 * q + 1) o j) := by
          intro j hj
          by_cases e : j = 2 * q + 1
          · subst e; rw [st_us, st_us]; exact ⟨hn, ho⟩
          · rw [st_un e, st_un e]; exact P.1 j hj
        have P2 : pl_P c kd pa sz it (st_u (st_u pn (2 * q + 1) n) (2 * q) n) (st_u (st_u po (2 * q + 1) o) (2 * q) o) := by
          have fa : ∀ (f : Nat → Nat) x, st_u (st_u f (2 * q + 1) x) (2 * q) x (2 * q) = x ∧ st_u (st_u f (2 * q + 1) x) (2 * q) x (2 * q + 1) = x := by
            intro f x
            unfold st_u
            constructor
            · split
              · rfl
              · split
                · rfl
                · omega
            · split
              · rfl
              · split
                · rfl
                · omega
          refine pl_set P hq (fun j h1 h2 => ?_) ?_ ?_ ?_
          · rw [st_un (by omega), st_un (by omega), st_un (by omega), st_un (by omega)]; exact ⟨rfl, rfl⟩
          · rw [(fa pn n).1, (fa po o).1]; exact ⟨hn, ho⟩
          · rw [(fa pn n).2, (fa po o).2]; exact ⟨hn, ho⟩
          · rw [(fa pn n).1, (fa po o).1, (fa pn n).2, (fa po o).2]; exact pl_Rr T hn
        refine br_f (by decide) (nm_r (ix_2x q) ?_)
        rw [nI_1]
        refine xx_setPlace (k := 2 * q + 1) (by omega) rfl rfl ?_
        show wpX_placeOrder _ _ _ _
        obtain ⟨r, hr, pr, w⟩ := tr_top T (V1 (2 * q) (by omega)).1
        obtain ⟨r', hr', pr', w'⟩ := tr_top T (V1 (2 * q + 1) (by omega)).1
        by_cases e : r = r'
        · subst e
          obtain ⟨L, op, N, Q⟩ := ly_ex T
          refine xx_order_eq Q T V1 (by omega) (by omega) pr w w' ?_
          intro rl rn oa ca il
          by_cases l : ly_g kd it L op (st_u pn (2 * q + 1) n (2 * q + 1)) (st_u po (2 * q + 1) o (2 * q + 1)) < ly_g kd it L op (st_u pn (2 * q + 1) n (2 * q)) (st_u po (2 * q + 1) o (2 * q))
          · refine br_f (fun z => cp_1.1 z) (br_t (cp_1.2.1.mpr l) ?_)
            unfold wX_setEnd_69
            refine xx_setPlace (k := 2 * q) (by omega) rfl rfl ?_
            show wpY_setEnd _ _ _ _ _
            refine YW _ (yy_sp0 T (by omega) hn ho (yy_order_eq Q T V1 (by omega) (by omega) pr w w' ?_))
            intro ln mk os cs cm
            refine br_f (fun z => cp_1.1 z) (br_t (cp_1.2.1.mpr l) ?_)
            unfold wY_setPlace_67
            refine yy_copyPlace (by omega) (by omega) ?_
            rw [st_us, st_us]
            exact ⟨rfl, rel_mk T P2⟩
          · refine br_f (fun z => cp_1.1 z) (br_f (fun z => l (cp_1.2.1.mp z)) ?_)
            show wpY_setEnd _ _ _ _ _
            refine YW _ (yy_sp0 T (by omega) hn ho (yy_order_eq Q T V1 (by omega) (by omega) pr w w' ?_))
            intro ln mk os cs cm
            refine br_f (fun z => cp_1.1 z) (br_f (fun z => l (cp_1.2.1.mp z)) ?_)
            refine ⟨rfl, rel_mk T (pl_set P hq (fun j h1 h2 => ?_) (V1 _ (by omega)) (V1 _ (by omega)) ⟨⟨r, w, w'⟩, ly_ord Q T (V1 _ (by omega)) (V1 _ (by omega)) (by omega)⟩)⟩
            rw [st_un (by omega), st_un (by omega)]; exact ⟨rfl, rfl⟩
        · refine xx_order_ne T V1 (by omega) (by omega) pr w pr' w' e (br_t rfl ?_)
          unfold wX_setEnd_69
          refine xx_setPlace (k := 2 * q) (by omega) rfl rfl ?_
          show wpY_setEnd _ _ _ _ _
          refine YW _ (yy_sp0 T (by omega) hn ho (yy_order_ne T V1 (by omega) (by omega) pr w pr' w' e (br_t rfl ?_)))
          unfold wY_setPlace_67
          refine yy_copyPlace (by omega) (by omega) ?_
          rw [st_us, st_us]
          exact ⟨rfl, rel_mk T P2⟩
      · intro h3
        refine br_t rfl (YW _ ?_)
        unfold wpY_setPlace
        dsimp only
        refine yy_isNode_t c24 hn (br_f (by decide) ?_)
        rcases of_f s24 h3 with z | ⟨z, z2⟩
        · exact br_t z ⟨rfl, J⟩
        · refine br_f z (in_c (vp_in_nI (by omega) (by omega)) (br_f ?_ ⟨rfl, J⟩))
          rw [ar_nc _ (by omega)]; exact z2
    · refine xx_isNode_f c24 h2 (br_t rfl (YW _ ?_))
      unfold wpY_setPlace
      dsimp only
      exact yy_isNode_f c24 h2 (br_t rfl ⟨rfl, J⟩)
  · refine xx_isRange_f h (br_t rfl ?_)
    unfold wpY_setEnd
    dsimp only
    exact yy_isRange_f h (br_t rfl ⟨rfl, J⟩)
end
section
/-! letters, letterIn, holds -/
theorem xx_layRange {c : Nat} {kd pa sz it pn po : Nat → Nat} {sg eg : Int32} {rl rn oa ca il dm : Nat → Int32} {L op N : Nat → Nat} {post : SX → Prop} {q r : Nat} (Q : ly_Q c kd pa sz it L op N) (T : tr_T c kd pa sz it) (V : ∀ k, k < 8 → pl_ok c sz (pn k) (po k)) (hq : q < 4) (pr : pa r = 0) (w : tr_w pa (pn (2 * q) + 1) r) (w' : tr_w pa (pn (2 * q + 1) + 1) r)
    (h : ∀ rl rn oa ca il, (∀ m, m < c → tr_w pa (m + 1) r → rw_D kd sz it L op rl rn oa ca m) → post (nI c, nI (ly_g kd it L op (pn (2 * q)) (po (2 * q))), nI (ly_g kd it L op (pn (2 * q + 1)) (po (2 * q + 1))), ar_n kd, ar_p pa, ar_n sz, ar_n it, ar_n pn, ar_n po, rl, rn, oa, ca, il, dm)) : wpX_layRange post (nI c, sg, eg, ar_n kd, ar_p pa, ar_n sz, ar_n it, ar_n pn, ar_n po, rl, rn, oa, ca, il, dm) (nI q) := by
  have va := V (2 * q) (by omega)
  have vb := V (2 * q + 1) (by omega)
  have hr := tr_lt T va.1 w
  refine nm_r (ix_2x q) (in_c (vp_in_nI (by omega) (by omega)) ?_)
  rw [ar_nc _ (by omega), nI_1]
  refine xx_topOf T va.1 pr w (xx_layRow Q T hr pr ?_)
  intro rl rn oa ca il D
  exact xx_gapOf Q T D (by omega) va w (xx_gapOf Q T D (by omega) vb w' (h rl rn oa ca il D))
theorem yy_writeOf {c : Nat} {kd pa sz it pn po : Nat → Nat} {ln : Int32} {mk os cs cm : Nat → Int32} {L op N : Nat → Nat} {post : SY → Prop} {a r : Nat} (Q : ly_Q c kd pa sz it L op N) (T : tr_T c kd pa sz it) (V : ∀ k, k < 8 → pl_ok c sz (pn k) (po k)) (ha : a < 8) (pr : pa r = 0) (w : tr_w pa (pn a + 1) r)
    (h : ∀ ln mk os cs cm, (∀ m, m < c → tr_w pa (m + 1) r → rw_E kd sz it L op mk os cs m) → post (nI c, ln, ar_n kd, ar_p pa, ar_n sz, ar_n it, ar_n pn, ar_n po, mk, os, cs, cm)) : wpY_writeOf post (nI c, ln, ar_n kd, ar_p pa, ar_n sz, ar_n it, ar_n pn, ar_n po, mk, os, cs, cm) (nI a) := by
  refine in_c (vp_in_nI ha (by omega)) ?_
  rw [ar_nc _ (by omega)]
  exact yy_treeOf T (V a ha).1 pr w (yy_write Q T (tr_lt T (V a ha).1 w) pr h)
/-- both rows hold the same marks and letters -/
theorem rw_eq {c : Nat} {kd pa sz it L op N : Nat → Nat} {rl rn oa ca mk os cs : Nat → Int32} {r : Nat} (Q : ly_Q c kd pa sz it L op N) (T : tr_T c kd pa sz it) (hr : r < c) (pr : pa r = 0) (D : ∀ m, m < c → tr_w pa (m + 1) r → rw_D kd sz it L op rl rn oa ca m) (E : ∀ m, m < c → tr_w pa (m + 1) r → rw_E kd sz it L op mk os cs m) :
    ∀ k, k < L r → (rl k = -1 ∧ mk k = -1) ∨ ∃ d, d ≤ 9 ∧ rl k = nI d ∧ mk k = nI d := by
  intro k hk
  have o0 := Q.2.2.1 r hr pr
  obtain ⟨m, hm, w, o⟩ := ly_cov Q T r hr k (by omega) (by omega)
  have d := D m hm w
  have e := E m hm w
  rcases o with o | o | ⟨k1, i, hi, o⟩
  · rw [o]; exact Or.inl ⟨d.2.2.1, e.2.2.1⟩
  · rw [show k = op m + L m - 1 by omega]; exact Or.inl ⟨d.2.2.2.2.1, e.2.2.2.1⟩
  · rw [o]
    exact Or.inr ⟨_, (T.2.2.1 m hm k1).2 i hi, (d.2.2.2.2.2.2 k1 i hi).1, e.2.2.2.2 k1 i hi⟩
theorem nj_m1 {d : Nat} (h : d < 2 ^ 31) : ¬ nI d = -1 := by
  intro z
  have := nI_pos h
  rw [z] at this
  exact this (by decide)
/-- the common top of a range -/
theorem pl_top {c : Nat} {kd pa sz it pn po : Nat → Nat} (T : tr_T c kd pa sz it) (P : pl_P c kd pa sz it pn po) {q : Nat} (hq : q < 4) : ∃ r, r < c ∧ pa r = 0 ∧ tr_w pa (pn (2 * q) + 1) r ∧ tr_w pa (pn (2 * q + 1) + 1) r := by
  obtain ⟨w, a, b⟩ := (P.2 q hq).1
  obtain ⟨r, hr, pr, g⟩ := tr_top T (tr_lt T (P.1 (2 * q) (by omega)).1 a)
  exact ⟨r, hr, pr, tr_wt a g, tr_wt b g⟩
def lt_n (rl : Nat → Int32) (ge : Nat) : Nat → Nat → Int32 → Int32
  | 0, _, n => n
  | d + 1, k, n => if ge ≤ k then n else if rl k = -1 then lt_n rl ge d (k + 1) n else lt_n rl ge d (k + 1) (n + 1)
def lt_i (rl : Nat → Int32) (ge : Nat) (x : Int32) : Nat → Nat → Nat → Int32
  | 0, _, _ => -2
  | d + 1, k, n => if ge ≤ k then -2 else if rl k = -1 then lt_i rl ge x d (k + 1) n else if nI n = x then rl k else lt_i rl ge x d (k + 1) (n + 1)
theorem xx_ltl {c : Nat} {kd pa sz it pn po : Nat → Nat} {sg eg : Int32} {rl rn oa ca il dm : Nat → Int32} {ge : Nat} {post : Int32 → SX → Prop} (hg : ge ≤ 336) : ∀ d k n, ge ≤ k + d → k ≤ 336 → post (lt_n rl ge d k n) (nI c, sg, nI ge, ar_n kd, ar_p pa, ar_n sz, ar_n it, ar_n pn, ar_n po, rl, rn, oa, ca, il, dm) → wX_letters_22 post (nI c) sg (nI ge) (ar_n kd) (ar_p pa) (ar_n sz) (ar_n it) (ar_n pn) (ar_n po) rl rn oa ca il dm (d + 1) n (nI k) := by
  intro d
  induction d with
  | zero => intro k n h1 h2 hp; exact br_t (nI_le (by omega) (by omega)) hp
  | succ d ih =>
    intro k n h1 h2 hp
    unfold lt_n at hp
    by_cases z : ge ≤ k
    · rw [if_pos z] at hp
      exact br_t (nI_le z (by omega)) hp
    · rw [if_neg z] at hp
      refine br_f (nI_ge (by omega) (by omega)) (in_c (vp_in_nI (by omega) (by omega)) (cb_i (d := rl k = -1) (by rw [nI_clamp (by omega)]) (fun e => nm_r (nI_1 k) (ih (k + 1) n (by omega) (by omega) ?_)) (fun e => nm_e (nm_r (nI_1 k) (ih (k + 1) (n + 1) (by omega) (by omega) ?_)))))
      · rw [if_pos e] at hp; exact hp
      · rw [if_neg e] at hp; exact hp
theorem yy_ltl {c : Nat} {kd pa sz it pn po : Nat → Nat} {ln : Int32} {mk os cs cm : Nat → Int32} {L op N : Nat → Nat} {rl : Nat → Int32} {r q : Nat} {post : Int32 → SY → Prop} (Q : ly_Q c kd pa sz it L op N) (T : tr_T c kd pa sz it) (V : ∀ k, k < 8 → pl_ok c sz (pn k) (po k)) (hq : q < 4) (pr : pa r = 0) (w' : tr_w pa (pn (2 * q + 1) + 1) r) (E : ∀ m, m < c → tr_w pa (m + 1) r → rw_E kd sz it L op mk os cs m) (ag : ∀ k, k < L r → (rl k = -1 ∧ mk k = -1) ∨ ∃ d, d ≤ 9 ∧ rl k = nI d ∧ mk k = nI d) :
    ∀ d k n, ly_g kd it L op (pn (2 * q + 1)) (po (2 * q + 1)) ≤ k + d → k ≤ 336 → post (lt_n rl (ly_g kd it L op (pn (2 * q + 1)) (po (2 * q + 1))) d k n) (nI c, ln, ar_n kd, ar_p pa, ar_n sz, ar_n it, ar_n pn, ar_n po, mk, os, cs, cm) → wY_letters_27 post (nI q) (nI c) ln (ar_n kd) (ar_p pa) (ar_n sz) (ar_n it) (ar_n pn) (ar_n po) mk os cs cm (d + 1) n (nI k) := by
  have vb := V (2 * q + 1) (by omega)
  have hr := tr_lt T vb.1 w'
  have g := ly_gr Q T vb hr pr w'
  intro d
  induction d with
  | zero =>
    intro k n h1 h2 hp
    unfold wY_letters_27
    rw [ix_2y, nI_1 (2 * q)]
    exact yy_gap Q T E (by omega) vb w' (br_t (nI_le (by omega) (by omega)) hp)
  | succ d ih =>
    intro k n h1 h2 hp
    unfold lt_n at hp
    unfold wY_letters_27
    rw [ix_2y, nI_1 (2 * q)]
    refine yy_gap Q T E (by omega) vb w' ?_
    by_cases z : ly_g kd it L op (pn (2 * q + 1)) (po (2 * q + 1)) ≤ k
    · rw [if_pos z] at hp
      exact br_t (nI_le z (by omega)) hp
    · rw [if_neg z] at hp
      refine br_f (nI_ge (by omega) (by omega)) (in_c (vp_in_nI (by omega) (by omega)) ?_)
      rw [nI_clamp (by omega)]
      rcases ag k (by omega) with ⟨e1, e2⟩ | ⟨b, hb, e1, e2⟩
      · rw [if_pos e1] at hp
        exact br_t (by rw [e2]; decide) (nm_r (nI_1 k) (ih (k + 1) n (by omega) (by omega) hp))
      · rw [if_neg (by rw [e1]; exact nj_m1 (by omega))] at hp
        exact br_f (by rw [e2]; exact nI_pos (by omega)) (nm_e (nm_r (nI_1 k) (ih (k + 1) (n + 1) (by omega) (by omega) hp)))
theorem i_vc_letters {k : Nat} {u : SX} {v : SY} (I : i_Rel k u v) (hk : k + 5 ≤ 2560) (v1 : Int32) : wpX_letters (fun r u' => wpY_letters (fun r' v' => r' = r ∧ i_Rel (k + 5) u' v') v v1) u v1 := by
  have J := i_up I
  obtain ⟨c, kd, pa, sz, it, pn, po, sg, eg, rl, rn, oa, ca, il, dm, ln, mk, os, cs, cm, rfl, rfl, T, P⟩ := I
  unfold wpX_letters
  dsimp only
  rcases nd_cases 4 v1 with ⟨q, hq, rfl⟩ | h
  · refine xx_isRange_t hq (br_f (by decide) ?_)
    obtain ⟨r, hr, pr, w, w'⟩ := pl_top T P hq
    obtain ⟨L, op, N, Q⟩ := ly_ex T
    have ga := ly_gr Q T (P.1 (2 * q) (by omega)) hr pr w
    have gb := ly_gr Q T (P.1 (2 * q + 1) (by omega)) hr pr w'
    refine xx_layRange Q T P.1 hq pr w w' ?_
    intro rl rn oa ca il D
    refine ⟨337, xx_ltl (eg := eg) (by omega) 336 (ly_g kd it L op (pn (2 * q)) (po (2 * q))) 0 (by omega) (by omega) ?_⟩
    show wpY_letters _ _ _
    unfold wpY_letters
    dsimp only
    refine yy_isRange_t hq (br_f (by decide) ?_)
    rw [ix_2y]
    refine yy_writeOf Q T P.1 (by omega) pr w ?_
    intro ln mk os cs cm E
    refine yy_gap Q T E (by omega) (P.1 _ (by omega)) w ⟨337, ?_⟩
    exact yy_ltl Q T P.1 hq pr w' E (rw_eq Q T hr pr D E) 336 _ 0 (by omega) (by omega) ⟨rfl, rel_mk T P⟩
  · refine xx_isRange_f h (br_t rfl ?_)
    unfold wpY_letters
    dsimp only
    exact yy_isRange_f h (br_t rfl ⟨rfl, J⟩)
theorem xx_lil {c : Nat} {kd pa sz it pn po : Nat → Nat} {sg eg : Int32} {rl rn oa ca il dm : Nat → Int32} {ge : Nat} {x : Int32} {post : Int32 → SX → Prop} (hg : ge ≤ 336) : ∀ d k n, ge ≤ k + d → k ≤ 336 → post (lt_i rl ge x d k n) (nI c, sg, nI ge, ar_n kd, ar_p pa, ar_n sz, ar_n it, ar_n pn, ar_n po, rl, rn, oa, ca, il, dm) → wX_letterIn_23 post x (nI c) sg (nI ge) (ar_n kd) (ar_p pa) (ar_n sz) (ar_n it) (ar_n pn) (ar_n po) rl rn oa ca il dm (d + 1) (nI n) (nI k) := by
  intro d
  induction d with
  | zero => intro k n h1 h2 hp; exact br_t (nI_le (by omega) (by omega)) hp
  | succ d ih =>
    intro k n h1 h2 hp
    unfold lt_i at hp
    by_cases z : ge ≤ k
    · rw [if_pos z] at hp
      exact br_t (nI_le z (by omega)) hp
    · rw [if_neg z] at hp
      refine br_f (nI_ge (by omega) (by omega)) (in_c (vp_in_nI (by omega) (by omega)) (cb_i (d := rl k = -1) (by rw [nI_clamp (by omega)]) (fun e => nm_r (nI_1 k) (ih (k + 1) n (by omega) (by omega) ?_)) (fun e => br_c (fun e2 => in_c (vp_in_nI (by omega) (by omega)) ?_) (fun e2 => nm_r (nI_1 n) (nm_r (nI_1 k) (ih (k + 1) (n + 1) (by omega) (by omega) ?_))))))
      · rw [if_pos e] at hp; exact hp
      · rw [if_neg e, if_pos e2] at hp
        rw [nI_clamp (by omega)]
        exact hp
      · rw [if_neg e, if_neg e2] at hp; exact hp
theorem sb_0 {x y : Int32} : x - y = 0 ↔ y = x := by
  constructor
  · intro h
    have : x - y + y = 0 + y := by rw [h]
    rw [Int32.sub_add_cancel, Int32.zero_add] at this
    exact this.symm
  · rintro rfl; exact Int32.sub_self _
theorem sb_1 (x : Int32) (n : Nat) : x - nI n + (-1) = x - nI (n + 1) := by
  rw [← nI_1]
  generalize nI n = y
  grind
theorem yy_lil {c : Nat} {kd pa sz it pn po : Nat → Nat} {ln : Int32} {mk os cs cm : Nat → Int32} {L op N : Nat → Nat} {rl : Nat → Int32} {r q : Nat} {x : Int32} {post : Int32 → SY → Prop} (Q : ly_Q c kd pa sz it L op N) (T : tr_T c kd pa sz it) (V : ∀ k, k < 8 → pl_ok c sz (pn k) (po k)) (hq : q < 4) (pr : pa r = 0) (w' : tr_w pa (pn (2 * q + 1) + 1) r) (E : ∀ m, m < c → tr_w pa (m + 1) r → rw_E kd sz it L op mk os cs m) (ag : ∀ k, k < L r → (rl k = -1 ∧ mk k = -1) ∨ ∃ d, d ≤ 9 ∧ rl k = nI d ∧ mk k = nI d) :
    ∀ d k n, ly_g kd it L op (pn (2 * q + 1)) (po (2 * q + 1)) ≤ k + d → k ≤ 336 → post (lt_i rl (ly_g kd it L op (pn (2 * q + 1)) (po (2 * q + 1))) x d k n) (nI c, ln, ar_n kd, ar_p pa, ar_n sz, ar_n it, ar_n pn, ar_n po, mk, os, cs, cm) → wY_letterIn_28 post (nI q) (nI c) ln (ar_n kd) (ar_p pa) (ar_n sz) (ar_n it) (ar_n pn) (ar_n po) mk os cs cm (d + 1) (x - nI n) (nI k) := by
  have vb := V (2 * q + 1) (by omega)
  have hr := tr_lt T vb.1 w'
  have g := ly_gr Q T vb hr pr w'
  intro d
  induction d with
  | zero =>
    intro k n h1 h2 hp
    unfold wY_letterIn_28
    rw [ix_2y, nI_1 (2 * q)]
    exact yy_gap Q T E (by omega) vb w' (br_t (nI_le (by omega) (by omega)) hp)
  | succ d ih =>
    intro k n h1 h2 hp
    unfold lt_i at hp
    unfold wY_letterIn_28
    rw [ix_2y, nI_1 (2 * q)]
    refine yy_gap Q T E (by omega) vb w' ?_
    by_cases z : ly_g kd it L op (pn (2 * q + 1)) (po (2 * q + 1)) ≤ k
    · rw [if_pos z] at hp
      exact br_t (nI_le z (by omega)) hp
    · rw [if_neg z] at hp
      have hi : vp_in (nI k) 400 := vp_in_nI (by omega) (by omega)
      refine br_f (nI_ge (by omega) (by omega)) (in_c hi ?_)
      rw [nI_clamp (by omega)]
      rcases ag k (by omega) with ⟨e1, e2⟩ | ⟨b, hb, e1, e2⟩
      · rw [if_pos e1] at hp
        exact br_t (by rw [e2]; decide) (nm_r (nI_1 k) (ih (k + 1) n (by omega) (by omega) hp))
      · rw [if_neg (by rw [e1]; exact nj_m1 (by omega))] at hp
        refine br_f (by rw [e2]; exact nI_pos (by omega)) (cb_i sb_0 (fun e => in_c hi ?_) (fun e => nm_r (sb_1 x n) (nm_r (nI_1 k) (ih (k + 1) (n + 1) (by omega) (by omega) ?_))))
        · rw [if_pos e, e1] at hp
          rw [e2]
          exact hp
        · rw [if_neg e] at hp
          exact hp
theorem i_vc_letterIn {k : Nat} {u : SX} {v : SY} (I : i_Rel k u v) (hk : k + 5 ≤ 2560) (v1 : Int32) (v2 : Int32) : wpX_letterIn (fun r u' => wpY_letterIn (fun r' v' => r' = r ∧ i_Rel (k + 5) u' v') v v1 v2) u v1 v2 := by
  have J := i_up I
  obtain ⟨c, kd, pa, sz, it, pn, po, sg, eg, rl, rn, oa, ca, il, dm, ln, mk, os, cs, cm, rfl, rfl, T, P⟩ := I
  unfold wpX_letterIn
  dsimp only
  rcases nd_cases 4 v1 with ⟨q, hq, rfl⟩ | h
  · refine xx_isRange_t hq (br_f (by decide) ?_)
    obtain ⟨r, hr, pr, w, w'⟩ := pl_top T P hq
    obtain ⟨L, op, N, Q⟩ := ly_ex T
    have ga := ly_gr Q T (P.1 (2 * q) (by omega)) hr pr w
    have gb := ly_gr Q T (P.1 (2 * q + 1) (by omega)) hr pr w'
    refine xx_layRange Q T P.1 hq pr w w' ?_
    intro rl rn oa ca il D
    refine ⟨337, xx_lil (eg := eg) (by omega) 336 (ly_g kd it L op (pn (2 * q)) (po (2 * q))) 0 (by omega) (by omega) ?_⟩
    show wpY_letterIn _ _ _ _
    unfold wpY_letterIn
    dsimp only
    refine yy_isRange_t hq (br_f (by decide) ?_)
    rw [ix_2y]
    refine yy_writeOf Q T P.1 (by omega) pr w ?_
    intro ln mk os cs cm E
    refine yy_gap Q T E (by omega) (P.1 _ (by omega)) w ⟨337, ?_⟩
    have := yy_lil (pn := pn) (po := po) (ln := ln) (cm := cm) (x := v2) (post := fun r' v' => r' = lt_i rl (ly_g kd it L op (pn (2 * q + 1)) (po (2 * q + 1))) v2 336 (ly_g kd it L op (pn (2 * q)) (po (2 * q))) 0 ∧ i_Rel (k + 5) (nI c, nI (ly_g kd it L op (pn (2 * q)) (po (2 * q))), nI (ly_g kd it L op (pn (2 * q + 1)) (po (2 * q + 1))), ar_n kd, ar_p pa, ar_n sz, ar_n it, ar_n pn, ar_n po, rl, rn, oa, ca, il, dm) v') Q T P.1 hq pr w' E (rw_eq Q T hr pr D E) 336 (ly_g kd it L op (pn (2 * q)) (po (2 * q))) 0 (by omega) (by omega) ⟨rfl, rel_mk T P⟩
    rw [show v2 - nI 0 = v2 from Int32.sub_zero v2] at this
    exact this
  · refine xx_isRange_f h (br_t rfl ?_)
    unfold wpY_letterIn
    dsimp only
    exact yy_isRange_f h (br_t rfl ⟨rfl, J⟩)
/-- a node wholly between the gaps of a range -/
def in_W (pa L op : Nat → Nat) (r gs ge n : Nat) : Prop := tr_w pa (n + 1) r ∧ gs ≤ op n ∧ op n + L n ≤ ge
theorem yy_isWithin {c : Nat} {kd pa sz it pn po : Nat → Nat} {ln : Int32} {mk os cs cm : Nat → Int32} {L op N : Nat → Nat} {r q n : Nat} {post : Int32 → Prop} (Q : ly_Q c kd pa sz it L op N) (T : tr_T c kd pa sz it) (V : ∀ k, k < 8 → pl_ok c sz (pn k) (po k)) (hq : q < 4) (hn : n < c) (pr : pa r = 0) (w : tr_w pa (pn (2 * q) + 1) r) (w' : tr_w pa (pn (2 * q + 1) + 1) r) (E : ∀ m, m < c → tr_w pa (m + 1) r → rw_E kd sz it L op mk os cs m)
    (h1 : in_W pa L op r (ly_g kd it L op (pn (2 * q)) (po (2 * q))) (ly_g kd it L op (pn (2 * q + 1)) (po (2 * q + 1))) n → post 1)
    (h0 : ¬ in_W pa L op r (ly_g kd it L op (pn (2 * q)) (po (2 * q))) (ly_g kd it L op (pn (2 * q + 1)) (po (2 * q + 1))) n → post 0) : wpY_isWithin post (nI c, ln, ar_n kd, ar_p pa, ar_n sz, ar_n it, ar_n pn, ar_n po, mk, os, cs, cm) (nI q) (nI n) := by
  have c24 := tr_c24 T
  have va := V (2 * q) (by omega)
  have vb := V (2 * q + 1) (by omega)
  have hr := tr_lt T va.1 w
  have ga := ly_gr Q T va hr pr w
  have gb := ly_gr Q T vb hr pr w'
  have hni : vp_in (nI n) 24 := vp_in_nI (by omega) (by omega)
  obtain ⟨r', hr', pr', wn⟩ := tr_top T hn
  have l2 := ly_L2 Q T hn
  unfold wpY_isWithin
  dsimp only
  rw [ix_2y, nI_1 (2 * q), ar_nc _ (by omega)]
  refine in_c (vp_in_nI (by omega) (by omega)) (yy_treeOf T va.1 pr w (yy_treeOf T hn pr' wn (cb_i (nI_eq (by omega) (by omega)) (fun e => in_c hni ?_) (fun e => h0 fun z => e (tr_t1 pr' pr wn z.1)))))
  subst e
  have En := E n hn wn
  have inn := ly_in Q T hn wn
  have o0 := Q.2.2.1 r' hr' pr'
  refine yy_gap Q T E (by omega) va w ?_
  rw [nI_clamp (by omega), En.1, En.2.1]
  refine cb_i (nI_ltI (by omega) (by omega)) (fun l => h0 fun z => by have := z.2.1; omega) (fun l => in_c hni (yy_gap Q T E (by omega) vb w' (cb_i (nI_leI (by omega) (by omega)) (fun l2 => h0 fun z => by have := z.2.2; omega) (fun l2 => h1 ⟨wn, by omega, by omega⟩))))
theorem i_vc_holds {k : Nat} {u : SX} {v : SY} (I : i_Rel k u v) (hk : k + 5 ≤ 2560) (v1 : Int32) (v2 : Int32) : wpX_holds (fun r u' => wpY_holds (fun r' v' => r' = r ∧ i_Rel (k + 5) u' v') v v1 v2) u v1 v2 := by
  have J := i_up I
  obtain ⟨c, kd, pa, sz, it, pn, po, sg, eg, rl, rn, oa, ca, il, dm, ln, mk, os, cs, cm, rfl, rfl, T, P⟩ := I
  have c24 := tr_c24 T
  unfold wpX_holds
  dsimp only
  rcases nd_cases 4 v1 with ⟨q, hq, rfl⟩ | h
  · refine xx_isRange_t hq (br_f (by decide) ?_)
    rcases nd_cases c v2 with ⟨n, hn, rfl⟩ | h2
    · refine xx_isNode_t c24 hn (br_f (by decide) ?_)
      have hni : vp_in (nI n) 24 := vp_in_nI (by omega) (by omega)
      obtain ⟨r, hr, pr, w, w'⟩ := pl_top T P hq
      obtain ⟨L, op, N, Q⟩ := ly_ex T
      have va := P.1 (2 * q) (by omega)
      have vb := P.1 (2 * q + 1) (by omega)
      have ga := ly_gr Q T va hr pr w
      have gb := ly_gr Q T vb hr pr w'
      obtain ⟨r', hr', pr', wn⟩ := tr_top T hn
      have l2 := ly_L2 Q T hn
      have YW : ∀ post : Int32 → SY → Prop, (∀ ln mk os cs cm, (in_W pa L op r (ly_g kd it L op (pn (2 * q)) (po (2 * q))) (ly_g kd it L op (pn (2 * q + 1)) (po (2 * q + 1))) n → post 1 (nI c, ln, ar_n kd, ar_p pa, ar_n sz, ar_n it, ar_n pn, ar_n po, mk, os, cs, cm)) ∧ (¬ in_W pa L op r (ly_g kd it L op (pn (2 * q)) (po (2 * q))) (ly_g kd it L op (pn (2 * q + 1)) (po (2 * q + 1))) n → post 0 (nI c, ln, ar_n kd, ar_p pa, ar_n sz, ar_n it, ar_n pn, ar_n po, mk, os, cs, cm))) → wpY_holds post (nI c, ln, ar_n kd, ar_p pa, ar_n sz, ar_n it, ar_n pn, ar_n po, mk, os, cs, cm) (nI q) (nI n) := by
        intro post h
        unfold wpY_holds
        dsimp only
        refine yy_isRange_t hq (br_f (by decide) (yy_isNode_t c24 hn (br_f (by decide) ?_)))
        rw [ix_2y]
        refine yy_writeOf Q T P.1 (by omega) pr w ?_
        intro ln mk os cs cm E
        exact yy_isWithin Q T P.1 hq hn pr w w' E (fun z => br_f (by decide) ((h ln mk os cs cm).1 z)) (fun z => br_t rfl ((h ln mk os cs cm).2 z))
      rw [ix_2x, ar_nc _ (by omega)]
      refine in_c (vp_in_nI (by omega) (by omega)) (xx_topOf T va.1 pr w (xx_topOf T hn pr' wn (cb_i (nI_eq (by omega) (by omega)) (fun e => ?_) (fun e => YW _ fun ln mk os cs cm => ⟨fun z => absurd (tr_t1 pr pr' z.1 wn) e, fun _ => ⟨rfl, rel_mk T P⟩⟩))))
      subst e
      have inn := ly_in Q T hn wn
      have o0 := Q.2.2.1 r hr pr
      refine xx_layRange Q T P.1 hq pr w w' ?_
      intro rl rn oa ca il D
      have Dn := D n hn wn
      refine in_c hni ?_
      show (oa (nI n).toNatClampNeg < nI (ly_g kd it L op (pn (2 * q)) (po (2 * q))) → _) ∧ (¬ oa (nI n).toNatClampNeg < nI (ly_g kd it L op (pn (2 * q)) (po (2 * q))) → vp_in (nI n) 24 ∧ (nI (ly_g kd it L op (pn (2 * q + 1)) (po (2 * q + 1))) ≤ ca (nI n).toNatClampNeg → _) ∧ (¬ nI (ly_g kd it L op (pn (2 * q + 1)) (po (2 * q + 1))) ≤ ca (nI n).toNatClampNeg → _))
      rw [nI_clamp (by omega), Dn.1, Dn.2.1]
      refine cb_i (nI_ltI (by omega) (by omega)) (fun l => YW _ fun ln mk os cs cm => ⟨fun z => by have := z.2.1; omega, fun _ => ⟨rfl, rel_mk T P⟩⟩) (fun l => in_c hni (cb_i (nI_leI (by omega) (by omega)) (fun l2 => YW _ fun ln mk os cs cm => ⟨fun z => by have := z.2.2; omega, fun _ => ⟨rfl, rel_mk T P⟩⟩) (fun l2 => YW _ fun ln mk os cs cm => ⟨fun _ => ⟨rfl, rel_mk T P⟩, fun z => absurd ⟨wn, by omega, by omega⟩ z⟩)))
    · refine xx_isNode_f c24 h2 (br_t rfl ?_)
      unfold wpY_holds
      dsimp only
      exact yy_isRange_t hq (br_f (by decide) (yy_isNode_f c24 h2 (br_t rfl ⟨rfl, J⟩)))
  · refine xx_isRange_f h (br_t rfl ?_)
    unfold wpY_holds
    dsimp only
    exact yy_isRange_f h (br_t rfl ⟨rfl, J⟩)
end
section
/-! rows of kit/rows/BITS, pasted (bt .. b_sshr); then my own: the doomed nodes -/
def bt (x : Int32) (i : Nat) : Bool := x.toBitVec.getLsbD i
theorem b_ext {x y : Int32} (h : ∀ i, i < 32 → bt x i = bt y i) : x = y := Int32.toBitVec_inj.mp (BitVec.eq_of_getLsbD_eq (fun i hi => h i hi))
theorem b_or (x y : Int32) (i : Nat) : bt (x ||| y) i = (bt x i || bt y i) := by unfold bt; rw [Int32.toBitVec_or, BitVec.getLsbD_or]
theorem b_and (x y : Int32) (i : Nat) : bt (x &&& y) i = (bt x i && bt y i) := by unfold bt; rw [Int32.toBitVec_and, BitVec.getLsbD_and]
theorem b_xor (x y : Int32) (i : Nat) : bt (x ^^^ y) i = (bt x i ^^ bt y i) := by unfold bt; rw [Int32.toBitVec_xor, BitVec.getLsbD_xor]
theorem b_m1 : ∀ i, i < 32 → bt (-1) i = true := by decide +kernel
theorem b_0 (i : Nat) : bt 0 i = false := BitVec.getLsbD_zero
theorem s_l : ∀ n, n < 32 → ((nI n &&& 31).toBitVec.smod 32).toNat = n := by decide +kernel
theorem b_shl (n : Nat) (hn : n < 32) (x : Int32) {i : Nat} (hi : i < 32) : bt (x <<< (nI n &&& 31)) i = (decide (n ≤ i) && bt x (i - n)) := by
  unfold bt
  rw [Int32.toBitVec_shiftLeft]
  show (x.toBitVec <<< ((nI n &&& 31).toBitVec.smod 32).toNat).getLsbD i = _
  rw [s_l n hn, BitVec.getLsbD_shiftLeft]
  rcases Nat.lt_or_ge i n with h | h
  · simp [h, Nat.not_le.mpr h]
  · simp [hi, h, Nat.not_lt.mpr h]
theorem b_sshr (n : Nat) (hn : n < 32) (x : Int32) {i : Nat} (hi : i < 32) : bt (x >>> (nI n &&& 31)) i = if n + i < 32 then bt x (n + i) else bt x 31 := by
  unfold bt
  rw [Int32.toBitVec_shiftRight]
  show (x.toBitVec.sshiftRight ((nI n &&& 31).toBitVec.smod 32).toNat).getLsbD i = _
  rw [s_l n hn, BitVec.getLsbD_sshiftRight, BitVec.msb_eq_getLsbD_last]
  simp [hi]
theorem bb_1 : ∀ j, j < 32 → bt 1 j = decide (j = 0) := by decide +kernel
theorem bb_one (n : Nat) (hn : n < 32) {i : Nat} (hi : i < 32) : bt ((1 : Int32) <<< (nI n &&& 31)) i = decide (i = n) := by
  rw [b_shl n hn 1 hi]
  by_cases h : n ≤ i
  · rw [bb_1 (i - n) (by omega), decide_eq_true h, Bool.true_and]
    by_cases e : i = n
    · rw [decide_eq_true e, decide_eq_true (by omega)]
    · rw [decide_eq_false e, decide_eq_false (by omega)]
  · rw [decide_eq_false h, Bool.false_and, decide_eq_false (by omega)]
theorem bb_set (x : Int32) (n : Nat) (hn : n < 32) {i : Nat} (hi : i < 32) : bt (x ||| ((1 : Int32) <<< (nI n &&& 31))) i = true ↔ (bt x i = true ∨ i = n) := by
  rw [b_or, bb_one n hn hi, Bool.or_eq_true, decide_eq_true_iff]
theorem bb_clr (x : Int32) (n : Nat) (hn : n < 32) {i : Nat} (hi : i < 32) : bt (x &&& (((1 : Int32) <<< (nI n &&& 31)) ^^^ (-1))) i = true ↔ (bt x i = true ∧ i ≠ n) := by
  rw [b_and, b_xor, bb_one n hn hi, b_m1 i hi, Bool.and_eq_true]
  by_cases e : i = n
  · rw [decide_eq_true e]
    exact ⟨fun h => absurd h.2 (by decide), fun h => absurd e h.2⟩
  · rw [decide_eq_false e]
    exact ⟨fun h => ⟨h.1, e⟩, fun h => ⟨h.1, rfl⟩⟩
theorem bb_tst (x : Int32) (n : Nat) (hn : n < 32) : ((x >>> (nI n &&& 31)) &&& 1) = 1 ↔ bt x n = true := by
  have e : ∀ i, i < 32 → bt ((x >>> (nI n &&& 31)) &&& 1) i = (if i = 0 then bt x n else false) := by
    intro i hi
    rw [b_and, b_sshr n hn x hi, bb_1 i hi]
    by_cases z : i = 0
    · subst z
      rw [if_pos rfl, if_pos (by omega), decide_eq_true rfl, Bool.and_true, Nat.add_zero]
    · rw [if_neg z, decide_eq_false z, Bool.and_false]
  constructor
  · intro h
    have := e 0 (by omega)
    rw [h, bb_1 0 (by omega), if_pos rfl] at this
    rw [← this]
    rfl
  · intro h
    apply b_ext
    intro i hi
    rw [e i hi, bb_1 i hi]
    by_cases z : i = 0
    · rw [if_pos z, decide_eq_true z]; exact h
    · rw [if_neg z, decide_eq_false z]
theorem bb_no {x : Int32} (h : ∀ i, i < 32 → ¬ bt x i = true) : x = 0 := by
  apply b_ext
  intro i hi
  rw [b_0]
  exact Bool.eq_false_iff.mpr (h i hi)
theorem bb_not0 {x : Int32} {i : Nat} (h : bt x i = true) : ¬ x = 0 := by
  rintro rfl
  rw [b_0] at h
  exact absurd h (by decide)
/-! the doomed: wholly between the gaps, their parents not -/
def er_D (c : Nat) (pa L op : Nat → Nat) (r gs ge n : Nat) : Prop := n < c ∧ in_W pa L op r gs ge n ∧ ∀ p, pa n = p + 1 → ¬ in_W pa L op r gs ge p
def er_L (c : Nat) (pa L op : Nat → Nat) (r gs ge m : Nat) (dl : Nat → Nat) : Prop := (∀ i, i < m → er_D c pa L op r gs ge (dl i)) ∧ (∀ i j, i < j → j < m → op (dl i) < op (dl j)) ∧ ∀ n, er_D c pa L op r gs ge n → ∃ i, i < m ∧ dl i = n
section
variable {c : Nat} {kd pa sz it L op N : Nat → Nat} {r gs ge : Nat}
theorem er_top (T : tr_T c kd pa sz it) : ∀ p, p < c → in_W pa L op r gs ge p → ∃ d, er_D c pa L op r gs ge d ∧ tr_w pa (p + 1) d := by
  refine tr_ri T ?_
  intro p hp ih W
  by_cases z : ∃ q, pa p = q + 1 ∧ in_W pa L op r gs ge q
  · obtain ⟨q, e, Wq⟩ := z
    obtain ⟨d, hd, w⟩ := ih q e Wq
    exact ⟨d, hd, tr_wp e w⟩
  · exact ⟨p, ⟨hp, W, fun q e Wq => z ⟨q, e, Wq⟩⟩, tr_wr _ _⟩
theorem er_in (T : tr_T c kd pa sz it) (Q : ly_Q c kd pa sz it L op N) {d n : Nat} (hd : d < c) (W : in_W pa L op r gs ge d) (hn : n < c) (w : tr_w pa (n + 1) d) (ne : n ≠ d) : ¬ er_D c pa L op r gs ge n := by
  intro D
  rcases tr_wc w with e | w2
  · exact ne e
  · cases e : pa n with
    | zero => rw [e] at w2; exact tr_w0 w2
    | succ p =>
      rw [e] at w2
      have hp := (tr_pe T hn e).1
      have i := ly_in Q T hp w2
      have := W.2.1
      have := W.2.2
      exact D.2.2 p e ⟨tr_wt w2 W.1, by omega, by omega⟩
theorem er_m {m : Nat} {dl : Nat → Nat} (h : er_L c pa L op r gs ge m dl) : m ≤ c := by
  refine pg_h c m dl (fun i hi => (h.1 i hi).1) (fun i j hi hj e => ?_)
  rcases Nat.lt_trichotomy i j with l | l | l
  · have := h.2.1 i j l hj; rw [e] at this; omega
  · exact l
  · have := h.2.1 j i l hi; rw [e] at this; omega
end
theorem xx_fd {c : Nat} {kd pa sz it pn po : Nat → Nat} {sg eg : Int32} {rl rn oa ca il dm : Nat → Int32} {L op N : Nat → Nat} {post : Int32 → SX → Prop} {r gs ge : Nat} (Q : ly_Q c kd pa sz it L op N) (T : tr_T c kd pa sz it) (hr : r < c) (pr : pa r = 0) (D : ∀ m, m < c → tr_w pa (m + 1) r → rw_D kd sz it L op rl rn oa ca m) (g0 : 0 < gs) (gl : ge < L r)
    (h : ∀ (m : Nat) (dl : Nat → Nat) (dm : Nat → Int32), er_L c pa L op r gs ge m dl → (∀ i, i < m → dm i = nI (dl i)) → post (nI m) (nI c, nI gs, nI ge, ar_n kd, ar_p pa, ar_n sz, ar_n it, ar_n pn, ar_n po, rl, rn, oa, ca, il, dm)) :
    ∀ (d a m last : Nat) (dl : Nat → Nat) (dm : Nat → Int32), ge ≤ a + d → gs ≤ a → a ≤ 336 → (∀ i, i < m → er_D c pa L op r gs ge (dl i) ∧ op (dl i) < a) → (∀ i j, i < j → j < m → op (dl i) < op (dl j)) → (∀ n, er_D c pa L op r gs ge n → op n < a → ∃ i, i < m ∧ dl i = n) → (∀ i, i < m → dm i = nI (dl i)) → ((m = 0 ∧ last = 0) ∨ ∃ m', m = m' + 1 ∧ last + 1 = op (dl m') + L (dl m')) →
      wX_findDoomed_9 post (nI c) (nI gs) (nI ge) (d + 1) (nI m) (nI last) (nI a) (ar_n kd) (ar_p pa) (ar_n sz) (ar_n it) (ar_n pn) (ar_n po) rl rn oa ca il dm := by
  have c24 := tr_c24 T
  have o0 := Q.2.2.1 r hr pr
  have l336 := Q.2.2.2.2.1 r hr
  have stop : ∀ (d a m : Nat) (last : Int32) (dl : Nat → Nat) (dm : Nat → Int32), ge ≤ a → a ≤ 336 → (∀ i, i < m → er_D c pa L op r gs ge (dl i) ∧ op (dl i) < a) → (∀ i j, i < j → j < m → op (dl i) < op (dl j)) → (∀ n, er_D c pa L op r gs ge n → op n < a → ∃ i, i < m ∧ dl i = n) → (∀ i, i < m → dm i = nI (dl i)) → wX_findDoomed_9 post (nI c) (nI gs) (nI ge) (d + 1) (nI m) last (nI a) (ar_n kd) (ar_p pa) (ar_n sz) (ar_n it) (ar_n pn) (ar_n po) rl rn oa ca il dm := by
    intro d a m last dl dm h1 h2 I1 I2 I3 I4
    refine br_t (nI_le h1 (by omega)) (h m dl dm ⟨fun i hi => (I1 i hi).1, I2, fun n hn => I3 n hn ?_⟩ I4)
    have l2 := ly_L2 Q T hn.1
    have := hn.2.1.2.2
    omega
  intro d
  induction d with
  | zero => intro a m last dl dm h1 h2 h3 I1 I2 I3 I4 I5; exact stop 0 a m _ dl dm (by omega) h3 I1 I2 I3 I4
  | succ d ih =>
    intro a m last dl dm h1 h2 h3 I1 I2 I3 I4 I5
    by_cases z : ge ≤ a
    · exact stop (d + 1) a m _ dl dm z h3 I1 I2 I3 I4
    · have fin : ∀ (m last : Nat) (dl : Nat → Nat) (dm : Nat → Int32), (∀ i, i < m → er_D c pa L op r gs ge (dl i) ∧ op (dl i) < a + 1) → (∀ i j, i < j → j < m → op (dl i) < op (dl j)) → (∀ n, er_D c pa L op r gs ge n → op n < a + 1 → ∃ i, i < m ∧ dl i = n) → (∀ i, i < m → dm i = nI (dl i)) → ((m = 0 ∧ last = 0) ∨ ∃ m', m = m' + 1 ∧ last + 1 = op (dl m') + L (dl m')) → wX_findDoomed_9 post (nI c) (nI gs) (nI ge) (d + 1) (nI m) (nI last) (nI (a + 1)) (ar_n kd) (ar_p pa) (ar_n sz) (ar_n it) (ar_n pn) (ar_n po) rl rn oa ca il dm :=
        fun m last dl dm J1 J2 J3 J4 J5 => ih (a + 1) m last dl dm (by omega) (by omega) (by omega) J1 J2 J3 J4 J5
      have skip : (∀ n, er_D c pa L op r gs ge n → op n ≠ a) → wX_findDoomed_9 post (nI c) (nI gs) (nI ge) (d + 1) (nI m) (nI last) (nI (a + 1)) (ar_n kd) (ar_p pa) (ar_n sz) (ar_n it) (ar_n pn) (ar_n po) rl rn oa ca il dm := by
        intro no
        refine fin m last dl dm (fun i hi => ⟨(I1 i hi).1, by have := (I1 i hi).2; omega⟩) I2 (fun n hn l => I3 n hn ?_) I4 I5
        have := no n hn
        omega
      refine br_f (nI_ge (by omega) (by omega)) (in_c (vp_in_nI (by omega) (by omega)) ?_)
      rw [nI_clamp (by omega)]
      obtain ⟨n0, hn0, w0, o⟩ := ly_cov Q T r hr a (by omega) (by omega)
      have D0 := D n0 hn0 w0
      have rnop : ∀ n, er_D c pa L op r gs ge n → op n = a → rn a = nI n := by
        intro n hn e
        rw [← e]
        exact (D n hn.1 hn.2.1.1).2.2.2.1
      by_cases o1 : a = op n0
      · have rn0 : rn a = nI n0 := by rw [o1]; exact D0.2.2.2.1
        have uniq : ∀ n, er_D c pa L op r gs ge n → op n = a → n = n0 := by
          intro n hn e
          have := rnop n hn e
          rw [rn0, nI_eq (by omega) (by have := hn.1; omega)] at this
          exact this.symm
        have l20 := ly_L2 Q T hn0
        have in0 := ly_in Q T hn0 w0
        refine nm_r rn0 (br_f (nj_m1 (by omega)) ?_)
        have ll : last < 400 := by
          rcases I5 with ⟨_, e⟩ | ⟨m', em, e⟩
          · omega
          · have d' := (I1 m' (by omega)).1
            have := ly_in Q T d'.1 d'.2.1.1
            omega
        refine cb_i (nI_leI (by omega) (by omega)) (fun l => nm_r (nI_1 a) (skip fun n hn e => ?_)) (fun l => in_c (vp_in_nI (by omega) (by omega)) ?_)
        · have en := uniq n hn e
          subst en
          rcases I5 with ⟨_, e5⟩ | ⟨m', em, e5⟩
          · omega
          · have d' := I1 m' (by omega)
            have l2 := ly_L2 Q T d'.1.1
            have w := ly_lam Q T r hr n (dl m') hn.1 d'.1.1 hn.2.1.1 d'.1.2.1.1 (by omega) (by omega)
            exact er_in T Q d'.1.1 d'.1.2.1 hn.1 w (by rintro rfl; omega) hn
        · rw [nI_clamp (by omega), D0.2.1]
          refine cb_i (nI_leI (by omega) (by omega)) (fun l2 => nm_r (nI_1 a) (skip fun n hn e => ?_)) (fun l2 => ?_)
          · have en := uniq n hn e
            subst en
            have := hn.2.1.2.2
            omega
          · have W0 : in_W pa L op r gs ge n0 := ⟨w0, by omega, by omega⟩
            have D1 : er_D c pa L op r gs ge n0 := by
              refine ⟨hn0, W0, fun p e Wp => ?_⟩
              have hp := (tr_pe T hn0 e).1
              obtain ⟨x, Dx, wx⟩ := er_top T p hp Wp
              have wnx : tr_w pa (n0 + 1) x := tr_wp e wx
              have inx := ly_in Q T hn0 wnx
              have nex : n0 ≠ x := by
                rintro rfl
                exact tr_ac T hn0 e wx
              have inx2 : op x < op n0 ∧ op n0 + L n0 < op x + L x := inx.2.2.resolve_left nex
              obtain ⟨i, hi, ei⟩ := I3 x Dx (by omega)
              rcases I5 with ⟨e5, _⟩ | ⟨m', em, e5⟩
              · omega
              · have d' := I1 m' (by omega)
                by_cases eq : dl m' = x
                · rw [eq] at e5; omega
                · have im : i < m' := by
                    have : i ≠ m' := by rintro rfl; exact eq ei
                    omega
                  have lt := I2 i m' im (by omega)
                  rw [ei] at lt
                  have w := ly_lam Q T r hr (dl m') x d'.1.1 Dx.1 d'.1.2.1.1 Dx.2.1.1 (by omega) (by omega)
                  exact er_in T Q Dx.1 Dx.2.1 d'.1.1 w eq d'.1
            have m24 : m + 1 ≤ c := by
              refine pg_h c (m + 1) (fun i => if i < m then dl i else n0) (fun i hi => ?_) (fun i j hi hj e => ?_)
              · try dsimp only
                split
                · rename_i q; exact (I1 i q).1.1
                · exact hn0
              · try dsimp only at e
                split at e
                · rename_i q
                  split at e
                  · rename_i q2
                    rcases Nat.lt_trichotomy i j with l | l | l
                    · have := I2 i j l q2; rw [e] at this; omega
                    · exact l
                    · have := I2 j i l q; rw [e] at this; omega
                  · have := (I1 i q).2; rw [e] at this; omega
                · split at e
                  · rename_i q2
                    have := (I1 j q2).2; rw [← e] at this; omega
                  · omega
            refine in_c (vp_in_nI (by omega) (by omega)) (nm_r (e' := upd dm m (nI n0)) (by rw [nI_clamp (by omega)]) (nm_r (nI_1 m) (in_c (vp_in_nI (by omega) (by omega)) (nm_r (e' := nI (op n0 + L n0 - 1)) (by first | rfl | rw [nI_clamp (by omega), D0.2.1]) (nm_r (nI_1 a) ?_)))))
            refine fin (m + 1) (op n0 + L n0 - 1) (st_u dl m n0) (upd dm m (nI n0)) ?_ ?_ ?_ ?_ ?_
            · intro i hi
              by_cases e : i = m
              · subst e; rw [st_us]; exact ⟨D1, by omega⟩
              · rw [st_un e]; exact ⟨(I1 i (by omega)).1, by have := (I1 i (by omega)).2; omega⟩
            · intro i j l hj
              rw [st_un (by omega)]
              by_cases e : j = m
              · subst e; rw [st_us]; have := (I1 i (by omega)).2; omega
              · rw [st_un e]; exact I2 i j l (by omega)
            · intro n hn l
              by_cases e : op n = a
              · exact ⟨m, by omega, by rw [st_us]; exact (uniq n hn e).symm⟩
              · obtain ⟨i, hi, ei⟩ := I3 n hn (by omega)
                exact ⟨i, by omega, by rw [st_un (by omega)]; exact ei⟩
            · intro i hi
              by_cases e : i = m
              · subst e; rw [pk_us, st_us]
              · rw [pk_un e, st_un e]; exact I4 i (by omega)
            · refine Or.inr ⟨m, rfl, ?_⟩
              rw [st_us]; omega
      · have rnm : rn a = -1 := by
          rcases o with o | o | ⟨k1, i, hi, o⟩
          · exact absurd o o1
          · rw [show a = op n0 + L n0 - 1 by omega]; exact D0.2.2.2.2.2.1
          · rw [o]; exact (D0.2.2.2.2.2.2 k1 i hi).2
        refine nm_r rnm (br_t rfl (nm_r (nI_1 a) (skip fun n hn e => ?_)))
        have := rnop n hn e
        rw [rnm] at this
        exact nj_m1 (by have := hn.1; omega) this.symm
theorem xx_findDoomed {c : Nat} {kd pa sz it pn po : Nat → Nat} {sg eg : Int32} {rl rn oa ca il dm : Nat → Int32} {L op N : Nat → Nat} {post : Int32 → SX → Prop} {r gs ge : Nat} (Q : ly_Q c kd pa sz it L op N) (T : tr_T c kd pa sz it) (hr : r < c) (pr : pa r = 0) (D : ∀ m, m < c → tr_w pa (m + 1) r → rw_D kd sz it L op rl rn oa ca m) (g0 : 0 < gs) (gs3 : gs < L r) (gl : ge < L r)
    (h : ∀ (m : Nat) (dl : Nat → Nat) (dm : Nat → Int32), er_L c pa L op r gs ge m dl → (∀ i, i < m → dm i = nI (dl i)) → post (nI m) (nI c, nI gs, nI ge, ar_n kd, ar_p pa, ar_n sz, ar_n it, ar_n pn, ar_n po, rl, rn, oa, ca, il, dm)) : wpX_findDoomed post (nI c, nI gs, nI ge, ar_n kd, ar_p pa, ar_n sz, ar_n it, ar_n pn, ar_n po, rl, rn, oa, ca, il, dm) := by
  have l336 := Q.2.2.2.2.1 r hr
  refine ⟨337, xx_fd (sg := sg) (eg := eg) (dm := dm) Q T hr pr D g0 gl h 336 gs 0 0 (fun _ => 0) dm (by omega) (Nat.le_refl _) (by omega) (fun i hi => by omega) (fun i j _ hj => by omega) (fun n hn l => ?_) (fun i hi => by omega) (Or.inl ⟨rfl, rfl⟩)⟩
  have := hn.2.1.2.1
  omega
/-! Y's set -/
theorem yy_in11 {c : Nat} {kd pa sz it pn po : Nat → Nat} {ln : Int32} {mk os cs cm : Nat → Int32} {L op N : Nat → Nat} {post : Int32 → SY → Prop} {r q : Nat} (Q : ly_Q c kd pa sz it L op N) (T : tr_T c kd pa sz it) (V : ∀ k, k < 8 → pl_ok c sz (pn k) (po k)) (hq : q < 4) (pr : pa r = 0) (w : tr_w pa (pn (2 * q) + 1) r) (w' : tr_w pa (pn (2 * q + 1) + 1) r) (E : ∀ m, m < c → tr_w pa (m + 1) r → rw_E kd sz it L op mk os cs m)
    (h : ∀ S : Int32, (∀ i, i < 32 → (bt S i = true ↔ er_D c pa L op r (ly_g kd it L op (pn (2 * q)) (po (2 * q))) (ly_g kd it L op (pn (2 * q + 1)) (po (2 * q + 1))) i)) → post S (nI c, ln, ar_n kd, ar_p pa, ar_n sz, ar_n it, ar_n pn, ar_n po, mk, os, cs, cm)) :
    ∀ d k S, k + d = c → (∀ i, i < 32 → (bt S i = true ↔ (i < k ∧ er_D c pa L op r (ly_g kd it L op (pn (2 * q)) (po (2 * q))) (ly_g kd it L op (pn (2 * q + 1)) (po (2 * q + 1))) i))) → wY_inside_11 post (nI q) (nI c) ln (ar_n kd) (ar_p pa) (ar_n sz) (ar_n it) (ar_n pn) (ar_n po) mk os cs cm (d + 1) S (nI k) := by
  have c24 := tr_c24 T
  intro d
  induction d with
  | zero =>
    intro k S hk hS
    obtain rfl : k = c := by omega
    refine br_t (nI_le (by omega) (by omega)) (h S fun i hi => ?_)
    rw [hS i hi]
    exact ⟨fun z => z.2, fun z => ⟨z.1, z⟩⟩
  | succ d ih =>
    intro k S hk hS
    have hkc : k < c := by omega
    have hki : vp_in (nI k) 24 := vp_in_nI (by omega) (by omega)
    have hl := tr_pl T hkc
    have no : ¬ er_D c pa L op r (ly_g kd it L op (pn (2 * q)) (po (2 * q))) (ly_g kd it L op (pn (2 * q + 1)) (po (2 * q + 1))) k → wY_inside_55 post (wY_inside_11 post (nI q) (nI c) ln (ar_n kd) (ar_p pa) (ar_n sz) (ar_n it) (ar_n pn) (ar_n po) mk os cs cm (d + 1)) (nI q) S (nI k) (nI c) ln (ar_n kd) (ar_p pa) (ar_n sz) (ar_n it) (ar_n pn) (ar_n po) mk os cs cm := by
      intro nd
      refine br_t rfl (nm_r (nI_1 k) (ih (k + 1) S (by omega) fun i hi => ?_))
      rw [hS i hi]
      constructor
      · exact fun z => ⟨by omega, z.2⟩
      · intro z
        have : i ≠ k := by rintro rfl; exact nd z.2
        exact ⟨by omega, z.2⟩
    have yes : er_D c pa L op r (ly_g kd it L op (pn (2 * q)) (po (2 * q))) (ly_g kd it L op (pn (2 * q + 1)) (po (2 * q + 1))) k → wY_inside_51 post (wY_inside_11 post (nI q) (nI c) ln (ar_n kd) (ar_p pa) (ar_n sz) (ar_n it) (ar_n pn) (ar_n po) mk os cs cm (d + 1)) (nI q) S (nI k) (nI c) ln (ar_n kd) (ar_p pa) (ar_n sz) (ar_n it) (ar_n pn) (ar_n po) mk os cs cm := by
      intro yd
      refine br_f (by decide) (nm_e (nm_r (nI_1 k) (ih (k + 1) _ (by omega) fun i hi => ?_)))
      rw [bb_set S k (by omega) hi, hS i hi]
      constructor
      · rintro (z | z)
        · exact ⟨by omega, z.2⟩
        · subst z; exact ⟨by omega, yd⟩
      · intro z
        by_cases e : i = k
        · exact Or.inr e
        · exact Or.inl ⟨by omega, z.2⟩
    refine br_f (nI_ge (by omega) (by omega)) (yy_isWithin Q T V hq hkc pr w w' E (fun W => br_f (by decide) (in_c hki ?_)) (fun W => br_t rfl (no fun z => W z.2.1)))
    rw [ar_pc _ (by omega)]
    cases e : pa k with
    | zero => exact br_t (by decide) (yes ⟨hkc, W, fun p ep => by omega⟩)
    | succ p =>
      have hp := (tr_pe T hkc e).1
      refine br_f (by rw [ar_neg (by omega)]; omega) (in_c hki ?_)
      rw [nI_pred]
      refine yy_isWithin Q T V hq hp pr w w' E (fun Wp => br_f (by decide) (no fun z => z.2.2 p e Wp)) (fun Wp => br_t rfl (yes ⟨hkc, W, fun p' ep => ?_⟩))
      have : p' = p := by omega
      subst this
      exact Wp
theorem yy_inside {c : Nat} {kd pa sz it pn po : Nat → Nat} {ln : Int32} {mk os cs cm : Nat → Int32} {L op N : Nat → Nat} {post : Int32 → SY → Prop} {r q : Nat} (Q : ly_Q c kd pa sz it L op N) (T : tr_T c kd pa sz it) (V : ∀ k, k < 8 → pl_ok c sz (pn k) (po k)) (hq : q < 4) (pr : pa r = 0) (w : tr_w pa (pn (2 * q) + 1) r) (w' : tr_w pa (pn (2 * q + 1) + 1) r)
    (h : ∀ ln mk os cs cm S, (∀ m, m < c → tr_w pa (m + 1) r → rw_E kd sz it L op mk os cs m) → (∀ i, i < 32 → (bt S i = true ↔ er_D c pa L op r (ly_g kd it L op (pn (2 * q)) (po (2 * q))) (ly_g kd it L op (pn (2 * q + 1)) (po (2 * q + 1))) i)) → post S (nI c, ln, ar_n kd, ar_p pa, ar_n sz, ar_n it, ar_n pn, ar_n po, mk, os, cs, cm)) : wpY_inside post (nI c, ln, ar_n kd, ar_p pa, ar_n sz, ar_n it, ar_n pn, ar_n po, mk, os, cs, cm) (nI q) := by
  unfold wpY_inside
  dsimp only
  rw [ix_2y]
  refine yy_writeOf Q T V (by omega) pr w ?_
  intro ln mk os cs cm E
  refine ⟨c + 1, yy_in11 Q T V hq pr w w' E (fun S hS => h ln mk os cs cm S E hS) c 0 0 (by omega) fun i hi => ?_⟩
  rw [b_0]
  exact ⟨fun z => absurd z (by decide), fun z => absurd z.1 (by omega)⟩
theorem yy_fo {c : Nat} {kd pa sz it pn po : Nat → Nat} {ln : Int32} {mk os cs cm : Nat → Int32} {op : Nat → Nat} {post : Int32 → Prop} {X : Int32} {S : Nat → Prop} {b0 : Nat} (c24 : c ≤ 24) (hX : ∀ i, i < 32 → (bt X i = true ↔ S i)) (hS : ∀ i, S i → i < c ∧ os i = nI (op i) ∧ op i < 1000) (h0 : S b0) (mn : ∀ s, S s → op b0 ≤ op s) (inj : ∀ s, S s → op s = op b0 → s = b0) (h : post (nI b0)) :
    ∀ d k best, k + d = c → ((best = -1 ∧ ∀ s, S s → k ≤ s) ∨ ∃ b, best = nI b ∧ S b ∧ b < k ∧ ∀ s, S s → s < k → op b ≤ op s) → wY_firstOf_4 post X (nI c) ln (ar_n kd) (ar_p pa) (ar_n sz) (ar_n it) (ar_n pn) (ar_n po) mk os cs cm (d + 1) best (nI k) := by
  intro d
  induction d with
  | zero =>
    intro k best hk I
    obtain rfl : k = c := by omega
    refine br_t (nI_le (by omega) (by omega)) ?_
    have c0 := (hS b0 h0).1
    rcases I with ⟨_, e⟩ | ⟨b, e, Sb, hb, m⟩
    · have := e b0 h0; omega
    · have e1 := m b0 h0 c0
      have e2 := mn b Sb
      rw [e, inj b Sb (by omega)]
      exact h
  | succ d ih =>
    intro k best hk I
    have hki : vp_in (nI k) 24 := vp_in_nI (by omega) (by omega)
    refine br_f (nI_ge (by omega) (by omega)) (cb_i ((bb_tst X k (by omega)).trans (hX k (by omega))) (fun Sk => ?_) (fun Sk => nm_r (nI_1 k) (ih (k + 1) best (by omega) ?_)))
    · have fk := hS k Sk
      rcases I with ⟨e, m⟩ | ⟨b, e, Sb, hb, m⟩
      · subst e
        refine br_t (by decide) (nm_r (nI_1 k) (ih (k + 1) _ (by omega) (Or.inr ⟨k, rfl, Sk, by omega, fun s hs l => ?_⟩)))
        have := m s hs
        have : s = k := by omega
        subst this
        exact Nat.le_refl _
      · subst e
        have fb := hS b Sb
        refine br_f (nI_pos (by omega)) (in_c hki (in_c (vp_in_nI (by omega) (by omega)) ?_))
        rw [nI_clamp (by omega), nI_clamp (by omega), fk.2.1, fb.2.1]
        refine cb_i (nI_leI (by omega) (by omega)) (fun l => nm_r (nI_1 k) (ih (k + 1) _ (by omega) (Or.inr ⟨b, rfl, Sb, by omega, fun s hs l2 => ?_⟩))) (fun l => nm_r (nI_1 k) (ih (k + 1) _ (by omega) (Or.inr ⟨k, rfl, Sk, by omega, fun s hs l2 => ?_⟩)))
        · by_cases e : s = k
          · subst e; exact l
          · exact m s hs (by omega)
        · by_cases e : s = k
          · subst e; exact Nat.le_refl _
          · have := m s hs (by omega); omega
    · rcases I with ⟨e, m⟩ | ⟨b, e, Sb, hb, m⟩
      · refine Or.inl ⟨e, fun s hs => ?_⟩
        have := m s hs
        have : s ≠ k := by rintro rfl; exact Sk hs
        omega
      · refine Or.inr ⟨b, e, Sb, by omega, fun s hs l => m s hs ?_⟩
        have : s ≠ k := by rintro rfl; exact Sk hs
        omega
theorem yy_firstOf {c : Nat} {kd pa sz it pn po : Nat → Nat} {ln : Int32} {mk os cs cm : Nat → Int32} {op : Nat → Nat} {post : Int32 → Prop} {X : Int32} {S : Nat → Prop} {b0 : Nat} (c24 : c ≤ 24) (hX : ∀ i, i < 32 → (bt X i = true ↔ S i)) (hS : ∀ i, S i → i < c ∧ os i = nI (op i) ∧ op i < 1000) (h0 : S b0) (mn : ∀ s, S s → op b0 ≤ op s) (inj : ∀ s, S s → op s = op b0 → s = b0) (h : post (nI b0)) : wpY_firstOf post (nI c, ln, ar_n kd, ar_p pa, ar_n sz, ar_n it, ar_n pn, ar_n po, mk, os, cs, cm) X :=
  ⟨c + 1, yy_fo c24 hX hS h0 mn inj h c 0 (-1) (by omega) (Or.inl ⟨rfl, fun s _ => Nat.zero_le s⟩)⟩
end
section
/-! erase: the branch, the takeOuts in step, the end -/
theorem cb_j {c : Nat} {kd pa sz it : Nat → Nat} (T : tr_T c kd pa sz it) {s e r : Nat} (he : e < c) (pr : pa r = 0) (ws : tr_w pa (s + 1) r) (we : tr_w pa (e + 1) r) :
    ∀ d k v, k + d = 24 → v < c → tr_c pa d (v + 1) = 0 → tr_w pa (s + 1) v → ¬ tr_w pa (e + 1) v →
    ∃ b p, b < c ∧ pa b = p + 1 ∧ tr_w pa (s + 1) b ∧
      (∀ (pn po : Nat → Nat) (sg eg : Int32) (rl rn oa ca il dm : Nat → Int32) (post : Int32 → Prop), post (nI b) → wX_branchOf_5 post (nI e) (nI c) sg eg (ar_n kd) (ar_p pa) (ar_n sz) (ar_n it) (ar_n pn) (ar_n po) rl rn oa ca il dm (d + 1) (nI v) (nI k)) ∧
      (∀ (pn po : Nat → Nat) (ln : Int32) (mk os cs cm : Nat → Int32) (post : Int32 → SY → Prop) (x1 x2 x3 x5 x6 : Int32), wY_erase_176 post x1 x2 x3 (nI e) x5 x6 (nI b) (nI c) ln (ar_n kd) (ar_p pa) (ar_n sz) (ar_n it) (ar_n pn) (ar_n po) mk os cs cm → wY_erase_126 post x1 x2 x3 (nI e) x5 x6 (nI c) ln (ar_n kd) (ar_p pa) (ar_n sz) (ar_n it) (ar_n pn) (ar_n po) mk os cs cm (d + 1) (nI v)) := by
  have c24 := tr_c24 T
  intro d
  induction d with
  | zero => intro k v _ _ h0 _ _; exact absurd h0 (by show v + 1 ≠ 0; omega)
  | succ d ih =>
    intro k v hk hv h0 w nw
    have hvi : vp_in (nI v) 24 := vp_in_nI (by omega) (by omega)
    cases ep : pa v with
    | zero =>
      have := tr_t1 ep pr w ws
      subst this
      exact absurd we nw
    | succ p =>
      have hp := (tr_pe T hv ep).1
      have e1 : ar_p pa (nI v).toNatClampNeg = nI p := by rw [ar_pc _ (by omega), ep, nI_pred]
      have e2 : ¬ nI p = -1 := nj_m1 (by omega)
      have e3 : ¬ nI p < 0 := nI_pos (by omega)
      by_cases z : tr_w pa (e + 1) p
      · refine ⟨v, p, hv, ep, w, ?_, ?_⟩
        · intro pn po sg eg rl rn oa ca il dm post hpost
          refine br_f (nI_ge (b := 24) (by omega) (by omega)) (in_c hvi ?_)
          rw [e1]
          exact br_f e2 (in_c hvi (xx_isWithin T he hp (fun _ => br_f (by decide) hpost) (fun q => absurd z q)))
        · intro pn po ln mk os cs cm post x1 x2 x3 x5 x6 h
          refine in_c hvi ?_
          rw [e1]
          refine br_f e3 (in_c hvi (cb_i (nI_eq (by omega) (by omega)) (fun _ => h) (fun q => in_c hvi (yy_isBelow T he hp (fun _ => br_f (by decide) h) (fun q2 => ?_)))))
          rcases tr_wc z with y | y
          · exact absurd y.symm q
          · exact absurd y q2
      · obtain ⟨b, pb, hb, epb, wb, ax, ay⟩ := ih (k + 1) p (by omega) hp (by rw [← ep]; exact h0) (tr_wt w (tr_wp ep (tr_wr _ _))) z
        refine ⟨b, pb, hb, epb, wb, ?_, ?_⟩
        · intro pn po sg eg rl rn oa ca il dm post hpost
          refine br_f (nI_ge (b := 24) (by omega) (by omega)) (in_c hvi ?_)
          rw [e1]
          exact br_f e2 (in_c hvi (xx_isWithin T he hp (fun q => absurd q z) (fun _ => br_t rfl (in_c hvi (nm_e (nm_r (nI_1 k) (ax pn po sg eg rl rn oa ca il dm post hpost)))))))
        · intro pn po ln mk os cs cm post x1 x2 x3 x5 x6 h
          refine in_c hvi ?_
          rw [e1]
          refine br_f e3 (in_c hvi (cb_i (nI_eq (by omega) (by omega)) (fun q => ?_) (fun q => in_c hvi (yy_isBelow T he hp (fun q2 => absurd (tr_ws q2) z) (fun _ => br_t rfl (in_c hvi (nm_e (ay pn po ln mk os cs cm post x1 x2 x3 x5 x6 h))))))))
          subst q
          exact absurd (tr_wr _ _) z
/-- where both places go, x and y, on both sides -/
theorem er_xy {c : Nat} {kd pa sz it pn po L op N : Nat → Nat} (T : tr_T c kd pa sz it) (P : pl_P c kd pa sz it pn po) (Q : ly_Q c kd pa sz it L op N) {q r : Nat} (hq : q < 4) (pr : pa r = 0) (ws : tr_w pa (pn (2 * q) + 1) r) (we : tr_w pa (pn (2 * q + 1) + 1) r) (nt : ¬ (pn (2 * q) = pn (2 * q + 1) ∧ kd (pn (2 * q)) = 1)) :
    ∃ x y, x < c ∧ kd x = 0 ∧ y ≤ sz x ∧ (∀ j, j < y → op (it (24 * x + j)) < ly_g kd it L op (pn (2 * q)) (po (2 * q))) ∧
      (∀ (sg eg : Int32) (rl rn oa ca il dm : Nat → Int32) (post : Int32 → SX → Prop), wX_eraseAcross_84 post (nI q) (nI (2 * q)) (nI (pn (2 * q))) (nI (po (2 * q))) (nI (pn (2 * q + 1))) (nI (po (2 * q + 1))) (nI x) (nI y) (nI c) sg eg (ar_n kd) (ar_p pa) (ar_n sz) (ar_n it) (ar_n pn) (ar_n po) rl rn oa ca il dm → wpX_eraseAcross post (nI c, sg, eg, ar_n kd, ar_p pa, ar_n sz, ar_n it, ar_n pn, ar_n po, rl, rn, oa, ca, il, dm) (nI q)) ∧
      (∀ (ln : Int32) (mk os cs cm : Nat → Int32) (post : Int32 → SY → Prop) (S : Int32), wY_erase_195 post (nI q) (nI (pn (2 * q))) (nI (po (2 * q))) (nI (pn (2 * q + 1))) (nI (po (2 * q + 1))) S (nI x) (nI y) (nI c) ln (ar_n kd) (ar_p pa) (ar_n sz) (ar_n it) (ar_n pn) (ar_n po) mk os cs cm →
        ((nI (pn (2 * q + 1)) = nI (pn (2 * q)) → wY_erase_195 post (nI q) (nI (pn (2 * q))) (nI (po (2 * q))) (nI (pn (2 * q + 1))) (nI (po (2 * q + 1))) S (nI (pn (2 * q))) (nI (po (2 * q))) (nI c) ln (ar_n kd) (ar_p pa) (ar_n sz) (ar_n it) (ar_n pn) (ar_n po) mk os cs cm) ∧ (¬ nI (pn (2 * q + 1)) = nI (pn (2 * q)) → wpY_isBelow (fun r_100 => ((r_100 = 0 → (∃ n126 : Nat, wY_erase_126 post (nI q) (nI (pn (2 * q))) (nI (po (2 * q))) (nI (pn (2 * q + 1))) (nI (po (2 * q + 1))) S (nI c) ln (ar_n kd) (ar_p pa) (ar_n sz) (ar_n it) (ar_n pn) (ar_n po) mk os cs cm n126 (nI (pn (2 * q))))) ∧ (¬ r_100 = 0 → wY_erase_195 post (nI q) (nI (pn (2 * q))) (nI (po (2 * q))) (nI (pn (2 * q + 1))) (nI (po (2 * q + 1))) S (nI (pn (2 * q))) (nI (po (2 * q))) (nI c) ln (ar_n kd) (ar_p pa) (ar_n sz) (ar_n it) (ar_n pn) (ar_n po) mk os cs cm))) (nI c, ln, ar_n kd, ar_p pa, ar_n sz, ar_n it, ar_n pn, ar_n po, mk, os, cs, cm) (nI (pn (2 * q + 1))) (nI (pn (2 * q)))))) := by
  have c24 := tr_c24 T
  have va := P.1 (2 * q) (by omega)
  have vb := P.1 (2 * q + 1) (by omega)
  have hs := va.1
  have he := vb.1
  have hi0 : vp_in (nI (2 * q)) 8 := vp_in_nI (by omega) (by omega)
  have hi1 : vp_in (nI (2 * q + 1)) 8 := vp_in_nI (by omega) (by omega)
  have XW : ∀ (sg eg : Int32) (rl rn oa ca il dm : Nat → Int32) (post : Int32 → SX → Prop), wpX_isWithin (fun r_10 => (((r_10 = 0 → (wpX_branchOf (fun r_147 => (vp_in r_147 24 ∧ (∀ x7_164 : Int32, x7_164 = (ar_p pa) r_147.toNatClampNeg → (wpX_indexOf (fun r_165 => (∀ x8_181 : Int32, x8_181 = r_165 + 1 → (wX_eraseAcross_84 post (nI q) (nI (2 * q)) (nI (pn (2 * q))) (nI (po (2 * q))) (nI (pn (2 * q + 1))) (nI (po (2 * q + 1))) x7_164 x8_181 (nI c) sg eg (ar_n kd) (ar_p pa) (ar_n sz) (ar_n it) (ar_n pn) (ar_n po) rl rn oa ca il dm))) (nI c, sg, eg, ar_n kd, ar_p pa, ar_n sz, ar_n it, ar_n pn, ar_n po, rl, rn, oa, ca, il, dm) r_147)))) (nI c, sg, eg, ar_n kd, ar_p pa, ar_n sz, ar_n it, ar_n pn, ar_n po, rl, rn, oa, ca, il, dm) (nI (pn (2 * q))) (nI (pn (2 * q + 1))))) ∧ (¬ r_10 = 0 → (wX_eraseAcross_84 post (nI q) (nI (2 * q)) (nI (pn (2 * q))) (nI (po (2 * q))) (nI (pn (2 * q + 1))) (nI (po (2 * q + 1))) (nI (pn (2 * q))) (nI (po (2 * q))) (nI c) sg eg (ar_n kd) (ar_p pa) (ar_n sz) (ar_n it) (ar_n pn) (ar_n po) rl rn oa ca il dm))))) (nI c, sg, eg, ar_n kd, ar_p pa, ar_n sz, ar_n it, ar_n pn, ar_n po, rl, rn, oa, ca, il, dm) (nI (pn (2 * q + 1))) (nI (pn (2 * q))) → wpX_eraseAcross post (nI c, sg, eg, ar_n kd, ar_p pa, ar_n sz, ar_n it, ar_n pn, ar_n po, rl, rn, oa, ca, il, dm) (nI q) := by
    intro sg eg rl rn oa ca il dm post h
    refine nm_r (ix_2x q) ?_
    rw [nI_1 (2 * q)]
    exact in_c hi0 (nm_r (ar_nc _ (by omega)) (in_c hi0 (nm_r (ar_nc _ (by omega)) (in_c hi1 (nm_r (ar_nc _ (by omega)) (in_c hi1 (nm_r (ar_nc _ (by omega)) h)))))))
  by_cases z : tr_w pa (pn (2 * q + 1) + 1) (pn (2 * q))
  · have k0 : kd (pn (2 * q)) = 0 := by
      rcases tr_k1 T hs with k | k
      · exact k
      · exact absurd ⟨(pl_wtx T he k z).symm, k⟩ nt
    refine ⟨pn (2 * q), po (2 * q), hs, k0, va.2, ?_, ?_, ?_⟩
    · intro j hj
      have ho := va.2
      have opc := ly_ch Q hs k0 (i := j) (by omega)
      have l2 := ly_L2 Q T (tr_ch T hs k0 (i := j) (by omega)).1
      have sm := ly_sm (fun j => L (it (24 * pn (2 * q) + j))) (i := j + 1) (j := po (2 * q)) (by omega)
      have e3 : ly_s (fun j => L (it (24 * pn (2 * q) + j))) (j + 1) = ly_s (fun j => L (it (24 * pn (2 * q) + j))) j + L (it (24 * pn (2 * q) + j)) := rfl
      unfold ly_g
      rw [if_neg (by omega)]
      omega
    · intro sg eg rl rn oa ca il dm post h
      exact XW sg eg rl rn oa ca il dm post (xx_isWithin T he hs (fun _ => br_f (by decide) h) (fun q => absurd z q))
    · intro ln mk os cs cm post S h
      refine cb_i (nI_eq (by omega) (by omega)) (fun _ => h) (fun ne => yy_isBelow T he hs (fun _ => br_f (by decide) h) (fun q2 => ?_))
      rcases tr_wc z with y | y
      · exact absurd y ne
      · exact absurd y q2
  · obtain ⟨b, p, hb, epb, wb, ax, ay⟩ := cb_j T he pr ws we 24 0 (pn (2 * q)) rfl hs (tr_dp T hs) (tr_wr _ _) z
    obtain ⟨hp, kp, i, hi, hbi⟩ := tr_pe T hb epb
    refine ⟨p, i + 1, hp, kp, hi, ?_, ?_, ?_⟩
    · intro j hj
      have opi := ly_ch Q hp kp hi
      have opj := ly_ch Q hp kp (i := j) (by omega)
      have sm := ly_sm (fun j => L (it (24 * p + j))) (i := j) (j := i) (by omega)
      have inn := ly_in Q T hs wb
      have gb := ly_gb Q T va
      rw [hbi] at opi
      omega
    · intro sg eg rl rn oa ca il dm post h
      refine XW sg eg rl rn oa ca il dm post (xx_isWithin T he hs (fun q => absurd q z) (fun _ => br_t rfl ⟨25, ax pn po sg eg rl rn oa ca il dm _ ?_⟩))
      exact in_c (vp_in_nI (by omega) (by omega)) (nm_r ((ar_pc _ (by omega)).trans (by rw [epb, nI_pred])) (xx_indexOf T hb epb hi hbi (nm_r (nI_1 i) h)))
    · intro ln mk os cs cm post S h
      refine br_f (fun y => ?_) (yy_isBelow T he hs (fun q2 => absurd (tr_ws q2) z) (fun _ => br_t rfl ⟨25, ay pn po ln mk os cs cm post _ _ _ _ _ ?_⟩))
      · rw [nI_eq (by omega) (by omega)] at y
        exact z (by rw [y]; exact tr_wr _ _)
      · exact in_c (vp_in_nI (by omega) (by omega)) (nm_r ((ar_pc _ (by omega)).trans (by rw [epb, nI_pred])) (yy_indexOf T hb epb hi hbi (nm_r (nI_1 i) h)))
/-- the doomed are taken out, one after the other, on both sides -/
theorem er_take {c : Nat} {kd op : Nat → Nat} {m : Nat} {dl : Nat → Nat} (hd : ∀ i, i < m → dl i < c ∧ op (dl i) < 1000) (inc : ∀ i j, i < j → j < m → op (dl i) < op (dl j)) (m24 : m ≤ 24) {x y e se : Nat} (hx : x < c) (kx : kd x = 0) {ch : Nat → Nat} (hch : ∀ i j, i < m → j < y → dl i ≠ ch j) :
    ∀ d j (pa sz it pn po : Nat → Nat), j + d = m → tr_T c kd pa sz it → pl_P c kd pa sz it pn po → (∀ i, j ≤ i → i < m → pa (dl i) ≠ 0) → y ≤ sz x → (∀ i, i < y → it (24 * x + i) = ch i) → (kd e = 1 → sz e = se) →
    ∃ pa' sz' it' pn' po' : Nat → Nat, tr_T c kd pa' sz' it' ∧ pl_P c kd pa' sz' it' pn' po' ∧ y ≤ sz' x ∧ (kd e = 1 → sz' e = se) ∧
      (∀ (sg eg : Int32) (rl rn oa ca il dm : Nat → Int32) (post : Int32 → SX → Prop) (x2 x5 x6 x7 x8 : Int32), (∀ i, i < m → dm i = nI (dl i)) → wX_eraseAcross_125 post x2 x5 x6 x7 x8 (nI m) 1 (nI m) (nI c) sg eg (ar_n kd) (ar_p pa') (ar_n sz') (ar_n it') (ar_n pn') (ar_n po') rl rn oa ca il dm → wX_eraseAcross_125 post x2 x5 x6 x7 x8 (nI m) (d + 1) (nI j) (nI c) sg eg (ar_n kd) (ar_p pa) (ar_n sz) (ar_n it) (ar_n pn) (ar_n po) rl rn oa ca il dm) ∧
      (∀ (ln : Int32) (mk os cs cm : Nat → Int32) (post : Int32 → SY → Prop) (X : Int32), (∀ i, i < m → os (dl i) = nI (op (dl i))) → (∀ i, i < 32 → (bt X i = true ↔ ∃ i', j ≤ i' ∧ i' < m ∧ dl i' = i)) → post (nI m) (nI c, ln, ar_n kd, ar_p pa', ar_n sz', ar_n it', ar_n pn', ar_n po', mk, os, cs, cm) → wY_takeAll_7 post (d + 1) X (nI j) (nI j) (nI c) ln (ar_n kd) (ar_p pa) (ar_n sz) (ar_n it) (ar_n pn) (ar_n po) mk os cs cm) := by
  intro d
  induction d with
  | zero =>
    intro j pa sz it pn po hj T P hpa hy hit hse
    obtain rfl : j = m := by omega
    refine ⟨pa, sz, it, pn, po, T, P, hy, hse, fun _ _ _ _ _ _ _ _ _ _ _ _ _ _ _ h => h, ?_⟩
    intro ln mk os cs cm post X _ hX hp
    refine br_c (fun _ => hp) (fun _ => br_t (bb_no fun i hi z => ?_) hp)
    obtain ⟨i', h1, h2, _⟩ := (hX i hi).mp z
    omega
  | succ d ih =>
    intro j pa sz it pn po hj T P hpa hy hit hse
    have c24 := tr_c24 T
    have hjm : j < m := by omega
    have hn := (hd j hjm).1
    obtain ⟨p, ep⟩ : ∃ p, pa (dl j) = p + 1 := by
      cases e : pa (dl j) with
      | zero => exact absurd e (hpa j (Nat.le_refl _) hjm)
      | succ p => exact ⟨p, rfl⟩
    obtain ⟨hp, kp, i, hi, he⟩ := tr_pe T hn ep
    have T1 := tr_Ttake T hn ep hi he
    have P1 := pl_Ptk T hn ep hi he P
    have s24 := tr_s24 T hp
    have sx24 := tr_s24 T hx
    have iy : p = x → y ≤ i := by
      intro e
      subst e
      apply Classical.byContradiction
      intro q
      exact hch j i hjm (by omega) (by rw [← hit i (by omega), he])
    have ndl : ∀ a b, a < m → b < m → dl a = dl b → a = b := by
      intro a b ha hb e
      rcases Nat.lt_trichotomy a b with l | l | l
      · have := inc a b l hb; rw [e] at this; omega
      · exact l
      · have := inc b a l ha; rw [e] at this; omega
    obtain ⟨pa', sz', it', pn', po', T', P', hy', hse', ax, ay⟩ := ih (j + 1) _ _ _ _ _ (by omega) T1 P1 (by
      intro i' h1 h2
      rw [st_un (fun q => by have := ndl i' j h2 hjm q; omega)]
      exact hpa i' (by omega) h2) (by
      by_cases e : x = p
      · have := iy e.symm
        subst e; rw [st_us]; omega
      · rw [st_un e]; exact hy) (by
      intro i' hi'
      by_cases e : x = p
      · have := iy e.symm
        subst e; rw [mv_lb it (by omega)]; exact hit i' hi'
      · rw [mv_lo it e (by omega) (by omega) (by omega)]; exact hit i' hi') (by
      intro ke
      rw [st_un (by rintro rfl; omega)]
      exact hse ke)
    refine ⟨pa', sz', it', pn', po', T', P', hy', hse', ?_, ?_⟩
    · intro sg eg rl rn oa ca il dm post x2 x5 x6 x7 x8 hdm H
      refine br_f (nI_ge hjm (by omega)) (in_c (vp_in_nI (by omega) (by omega)) ?_)
      rw [nI_clamp (by omega), hdm j hjm]
      exact xx_takeOut T P.1 hn ep hi he (nm_r (nI_1 j) (ax sg eg rl rn oa ca il dm post x2 x5 x6 x7 x8 hdm H))
    · intro ln mk os cs cm post X hos hX hpost
      have bj : bt X (dl j) = true := (hX (dl j) (by omega)).mpr ⟨j, Nat.le_refl _, hjm, rfl⟩
      refine br_f (nI_ge (b := 24) (by omega) (by omega)) (br_f (bb_not0 bj) (yy_firstOf (op := op) (S := fun i => ∃ i', j ≤ i' ∧ i' < m ∧ dl i' = i) (b0 := dl j) c24 hX ?_ ⟨j, Nat.le_refl _, hjm, rfl⟩ ?_ ?_ ?_))
      · rintro _ ⟨i', h1, h2, rfl⟩
        exact ⟨(hd i' h2).1, hos i' h2, (hd i' h2).2⟩
      · rintro _ ⟨i', h1, h2, rfl⟩
        by_cases e : i' = j
        · rw [e]; exact Nat.le_refl _
        · have := inc j i' (by omega) h2; omega
      · rintro _ ⟨i', h1, h2, rfl⟩ e
        by_cases e2 : i' = j
        · rw [e2]
        · have := inc j i' (by omega) h2; omega
      · refine yy_takeOut T P.1 hn ep hi he (nm_e (nm_r (nI_1 j) (nm_r (nI_1 j) (ay ln mk os cs cm post _ hos ?_ hpost))))
        intro i' hi'
        rw [bb_clr X (dl j) (by omega) hi', hX i' hi']
        constructor
        · rintro ⟨⟨a, h1, h2, h3⟩, ne⟩
          refine ⟨a, ?_, h2, h3⟩
          have : a ≠ j := by rintro rfl; exact ne h3.symm
          omega
        · rintro ⟨a, h1, h2, h3⟩
          refine ⟨⟨a, by omega, h2, h3⟩, fun q => ?_⟩
          have := ndl a j h2 hjm (by rw [h3, q])
          omega
/-- and the end of erase -/
theorem er_all {c : Nat} {kd op : Nat → Nat} {m : Nat} {dl : Nat → Nat} (hd : ∀ i, i < m → dl i < c ∧ op (dl i) < 1000) (inc : ∀ i j, i < j → j < m → op (dl i) < op (dl j)) (m24 : m ≤ 24) {x y e b q : Nat} (hx : x < c) (kx : kd x = 0) (he : e < c) (hq : q < 4) {pa sz it pn po : Nat → Nat} (T : tr_T c kd pa sz it) (P : pl_P c kd pa sz it pn po)
    (hch : ∀ i j, i < m → j < y → dl i ≠ it (24 * x + j)) (hpa : ∀ i, i < m → pa (dl i) ≠ 0) (hy : y ≤ sz x) (hb : kd e = 1 → b ≤ sz e) (b24 : b < 100) :
    ∃ pa' sz' it' pn' po' : Nat → Nat, tr_T c kd pa' sz' it' ∧ pl_P c kd pa' sz' it' pn' po' ∧
      (∀ (sg eg : Int32) (rl rn oa ca il dm : Nat → Int32) (post : Int32 → SX → Prop), (∀ i, i < m → dm i = nI (dl i)) → post (nI m) (nI c, sg, eg, ar_n kd, ar_p pa', ar_n sz', ar_n it', ar_n pn', ar_n po', rl, rn, oa, ca, il, dm) → ∃ n125 : Nat, wX_eraseAcross_125 post (nI (2 * q)) (nI e) (nI b) (nI x) (nI y) (nI m) n125 0 (nI c) sg eg (ar_n kd) (ar_p pa) (ar_n sz) (ar_n it) (ar_n pn) (ar_n po) rl rn oa ca il dm) ∧
      (∀ (ln : Int32) (mk os cs cm : Nat → Int32) (post : Int32 → SY → Prop) (X : Int32), (∀ i, i < m → os (dl i) = nI (op (dl i))) → (∀ i, i < 32 → (bt X i = true ↔ ∃ i', i' < m ∧ dl i' = i)) → post (nI m) (nI c, ln, ar_n kd, ar_p pa', ar_n sz', ar_n it', ar_n pn', ar_n po', mk, os, cs, cm) → wY_erase_219 post (nI q) (nI e) (nI b) X (nI x) (nI y) (nI c) ln (ar_n kd) (ar_p pa) (ar_n sz) (ar_n it) (ar_n pn) (ar_n po) mk os cs cm) := by
  have c24 := tr_c24 T
  obtain ⟨pa', sz', it', pn', po', T', P', hy', hse', ax, ay⟩ := er_take (kd := kd) (e := e) (se := sz e) hd inc m24 hx kx (ch := fun j => it (24 * x + j)) hch m 0 pa sz it pn po (by omega) T P (fun i _ h => hpa i h) hy (fun _ _ => rfl) (fun _ => rfl)
  have hei : vp_in (nI e) 24 := vp_in_nI (by omega) (by omega)
  have tail : ∀ (sz1 it1 pn1 po1 : Nat → Nat), tr_T c kd pa' sz1 it1 → pl_P c kd pa' sz1 it1 pn1 po1 → y ≤ sz1 x →
      pl_P c kd pa' sz1 it1 (st_u (st_u pn1 (2 * q) x) (2 * q + 1) x) (st_u (st_u po1 (2 * q) y) (2 * q + 1) y) ∧
      (∀ (sg eg : Int32) (rl rn oa ca il dm : Nat → Int32) (post : Int32 → SX → Prop), post (nI m) (nI c, sg, eg, ar_n kd, ar_p pa', ar_n sz1, ar_n it1, ar_n (st_u (st_u pn1 (2 * q) x) (2 * q + 1) x), ar_n (st_u (st_u po1 (2 * q) y) (2 * q + 1) y), rl, rn, oa, ca, il, dm) → wX_eraseAcross_170 post (nI (2 * q)) (nI x) (nI y) (nI m) (nI c) sg eg (ar_n kd) (ar_p pa') (ar_n sz1) (ar_n it1) (ar_n pn1) (ar_n po1) rl rn oa ca il dm) ∧
      (∀ (ln : Int32) (mk os cs cm : Nat → Int32) (post : Int32 → SY → Prop), post (nI m) (nI c, ln, ar_n kd, ar_p pa', ar_n sz1, ar_n it1, ar_n (st_u (st_u pn1 (2 * q) x) (2 * q + 1) x), ar_n (st_u (st_u po1 (2 * q) y) (2 * q + 1) y), mk, os, cs, cm) → wY_erase_247 post (nI q) (nI x) (nI y) (nI m) (nI c) ln (ar_n kd) (ar_p pa') (ar_n sz1) (ar_n it1) (ar_n pn1) (ar_n po1) mk os cs cm) := by
    intro sz1 it1 pn1 po1 T1 P1 hy1
    refine ⟨?_, ?_, ?_⟩
    · have fa : ∀ (f : Nat → Nat) z, st_u (st_u f (2 * q) z) (2 * q + 1) z (2 * q) = z ∧ st_u (st_u f (2 * q) z) (2 * q + 1) z (2 * q + 1) = z := by
        intro f z
        exact ⟨by rw [st_un (by omega), st_us], st_us _ _ _⟩
      refine pl_set P1 hq (fun j h1 h2 => ?_) ?_ ?_ ?_
      · rw [st_un h2, st_un h1, st_un h2, st_un h1]; exact ⟨rfl, rfl⟩
      · rw [(fa pn1 x).1, (fa po1 y).1]; exact ⟨hx, hy1⟩
      · rw [(fa pn1 x).2, (fa po1 y).2]; exact ⟨hx, hy1⟩
      · rw [(fa pn1 x).1, (fa po1 y).1, (fa pn1 x).2, (fa po1 y).2]; exact pl_Rr T1 hx
    · intro sg eg rl rn oa ca il dm post h
      unfold wX_eraseAcross_170
      rw [nI_1]
      exact xx_setPlace (by omega) rfl rfl (xx_setPlace (by omega) rfl rfl h)
    · intro ln mk os cs cm post h
      unfold wY_erase_247
      rw [ix_2y, nI_1]
      refine in_c (vp_in_nI (by omega) (by omega)) (nm_r (e' := ar_n (st_u pn1 (2 * q) x)) (by rw [nI_clamp (by omega), ar_nu]) (in_c (vp_in_nI (by omega) (by omega)) (nm_r (e' := ar_n (st_u po1 (2 * q) y)) (by rw [nI_clamp (by omega), ar_nu]) (yy_copyPlace (by omega) (by omega) ?_))))
      rw [st_us, st_us]
      exact h
  have bits : ∀ X : Int32, (∀ i, i < 32 → (bt X i = true ↔ ∃ i', i' < m ∧ dl i' = i)) → ∀ i, i < 32 → (bt X i = true ↔ ∃ i', 0 ≤ i' ∧ i' < m ∧ dl i' = i) := by
    intro X h i hi
    rw [h i hi]
    exact ⟨fun ⟨a, b, c⟩ => ⟨a, by omega, b, c⟩, fun ⟨a, _, b, c⟩ => ⟨a, b, c⟩⟩
  by_cases ke : kd e = 1
  · have s12 := (T'.2.2.1 e he ke).1
    have hb' : 0 + b ≤ sz' e := by rw [hse' ke]; have := hb ke; omega
    obtain ⟨T2, P2⟩ := ex_TP T' P' (t := e) (a := 0) (g := b) (k := 0) (d := 0) he ke hb' (by omega)
    have hy2 : y ≤ st_u sz' e (sz' e + 0 - b) x := by rw [st_un (by rintro rfl; omega)]; exact hy'
    obtain ⟨P3, tx, ty⟩ := tail _ _ _ _ T2 P2 hy2
    refine ⟨_, _, _, _, _, T2, P3, ?_, ?_⟩
    · intro sg eg rl rn oa ca il dm post hdm h
      refine ⟨m + 1, ax sg eg rl rn oa ca il dm post _ _ _ _ _ hdm (br_t (nI_le (Nat.le_refl _) (by omega)) (in_c hei (br_t (by rw [ar_nc _ (by omega), ke]; rfl) ?_)))⟩
      exact xx_replaceLetters (a := 0) (k := 0) (d := 0) T' P'.1 he hb' (by omega) s12 (Or.inl ⟨rfl, rfl, rfl⟩) (tx sg eg rl rn oa ca il dm post h)
    · intro ln mk os cs cm post X hos hX h
      refine ⟨m + 1, ay ln mk os cs cm _ X hos (bits X hX) (in_c hei (br_f (by rw [ar_nc _ (by omega), ke]; decide) ?_))⟩
      exact yy_exchange (a := 0) (k := 0) T' P'.1 he hb' (by omega) s12 (by omega) (ty ln mk os cs cm post h)
  · have ke0 : kd e = 0 := (tr_k1 T he).resolve_right ke
    obtain ⟨P3, tx, ty⟩ := tail _ _ _ _ T' P' hy'
    refine ⟨_, _, _, _, _, T', P3, ?_, ?_⟩
    · intro sg eg rl rn oa ca il dm post hdm h
      exact ⟨m + 1, ax sg eg rl rn oa ca il dm post _ _ _ _ _ hdm (br_t (nI_le (Nat.le_refl _) (by omega)) (in_c hei (br_f (by rw [ar_nc _ (by omega), ke0]; decide) (tx sg eg rl rn oa ca il dm post h))))⟩
    · intro ln mk os cs cm post X hos hX h
      exact ⟨m + 1, ay ln mk os cs cm _ X hos (bits X hX) (in_c hei (br_t (by rw [ar_nc _ (by omega), ke0]; rfl) (ty ln mk os cs cm post h)))⟩
end
section
/-! erase -/
theorem i_vc_erase {k : Nat} {u : SX} {v : SY} (I : i_Rel k u v) (hk : k + 5 ≤ 2560) (v1 : Int32) : wpX_erase (fun r u' => wpY_erase (fun r' v' => r' = r ∧ i_Rel (k + 5) u' v') v v1) u v1 := by
  have J := i_up I
  obtain ⟨c, kd, pa, sz, it, pn, po, sg, eg, rl, rn, oa, ca, il, dm, ln, mk, os, cs, cm, rfl, rfl, T, P⟩ := I
  have c24 := tr_c24 T
  rcases nd_cases 4 v1 with ⟨q, hq, rfl⟩ | h
  · have va := P.1 (2 * q) (by omega)
    have vb := P.1 (2 * q + 1) (by omega)
    have hs := va.1
    have he := vb.1
    have sa := va.2
    have sb := vb.2
    have ss24 := tr_s24 T hs
    have se24 := tr_s24 T he
    have hi0 : vp_in (nI (2 * q)) 8 := vp_in_nI (by omega) (by omega)
    have hi1 : vp_in (nI (2 * q + 1)) 8 := vp_in_nI (by omega) (by omega)
    have hsi : vp_in (nI (pn (2 * q))) 24 := vp_in_nI (by omega) (by omega)
    have XW : ∀ (post : Int32 → SX → Prop), ((nI (pn (2 * q)) = nI (pn (2 * q + 1)) → ((nI (po (2 * q)) = nI (po (2 * q + 1)) → post 0 (nI c, sg, eg, ar_n kd, ar_p pa, ar_n sz, ar_n it, ar_n pn, ar_n po, rl, rn, oa, ca, il, dm)) ∧ (¬ nI (po (2 * q)) = nI (po (2 * q + 1)) → wX_erase_64 post (nI q) (nI (pn (2 * q))) (nI (po (2 * q))) (nI (pn (2 * q + 1))) (nI (po (2 * q + 1))) (nI c) sg eg (ar_n kd) (ar_p pa) (ar_n sz) (ar_n it) (ar_n pn) (ar_n po) rl rn oa ca il dm))) ∧ (¬ nI (pn (2 * q)) = nI (pn (2 * q + 1)) → wX_erase_64 post (nI q) (nI (pn (2 * q))) (nI (po (2 * q))) (nI (pn (2 * q + 1))) (nI (po (2 * q + 1))) (nI c) sg eg (ar_n kd) (ar_p pa) (ar_n sz) (ar_n it) (ar_n pn) (ar_n po) rl rn oa ca il dm)) → wpX_erase post (nI c, sg, eg, ar_n kd, ar_p pa, ar_n sz, ar_n it, ar_n pn, ar_n po, rl, rn, oa, ca, il, dm) (nI q) := by
      intro post h
      unfold wpX_erase
      dsimp only
      refine xx_isRange_t hq (br_f (by decide) (nm_r (ix_2x q) ?_))
      rw [nI_1 (2 * q)]
      exact in_c hi0 (nm_r (ar_nc _ (by omega)) (in_c hi0 (nm_r (ar_nc _ (by omega)) (in_c hi1 (nm_r (ar_nc _ (by omega)) (in_c hi1 (nm_r (ar_nc _ (by omega)) h)))))))
    have YW : ∀ (post : Int32 → SY → Prop), ((nI (pn (2 * q)) = nI (pn (2 * q + 1)) → ((nI (po (2 * q)) = nI (po (2 * q + 1)) → post 0 (nI c, ln, ar_n kd, ar_p pa, ar_n sz, ar_n it, ar_n pn, ar_n po, mk, os, cs, cm)) ∧ (¬ nI (po (2 * q)) = nI (po (2 * q + 1)) → wY_erase_66 post (nI q) (nI (pn (2 * q))) (nI (po (2 * q))) (nI (pn (2 * q + 1))) (nI (po (2 * q + 1))) (nI c) ln (ar_n kd) (ar_p pa) (ar_n sz) (ar_n it) (ar_n pn) (ar_n po) mk os cs cm))) ∧ (¬ nI (pn (2 * q)) = nI (pn (2 * q + 1)) → wY_erase_66 post (nI q) (nI (pn (2 * q))) (nI (po (2 * q))) (nI (pn (2 * q + 1))) (nI (po (2 * q + 1))) (nI c) ln (ar_n kd) (ar_p pa) (ar_n sz) (ar_n it) (ar_n pn) (ar_n po) mk os cs cm)) → wpY_erase post (nI c, ln, ar_n kd, ar_p pa, ar_n sz, ar_n it, ar_n pn, ar_n po, mk, os, cs, cm) (nI q) := by
      intro post h
      unfold wpY_erase
      dsimp only
      refine yy_isRange_t hq (br_f (by decide) ?_)
      rw [ix_2y, nI_1 (2 * q)]
      exact in_c hi0 (nm_r (ar_nc _ (by omega)) (in_c hi0 (nm_r (ar_nc _ (by omega)) (in_c hi1 (nm_r (ar_nc _ (by omega)) (in_c hi1 (nm_r (ar_nc _ (by omega)) h)))))))
    have esn : nI (pn (2 * q)) = nI (pn (2 * q + 1)) ↔ pn (2 * q) = pn (2 * q + 1) := nI_eq (by omega) (by omega)
    have eon : nI (po (2 * q)) = nI (po (2 * q + 1)) ↔ po (2 * q) = po (2 * q + 1) := nI_eq (by omega) (by omega)
    by_cases A : pn (2 * q) = pn (2 * q + 1) ∧ po (2 * q) = po (2 * q + 1)
    · exact XW _ (br_t (esn.mpr A.1) (br_t (eon.mpr A.2) (YW _ (br_t (esn.mpr A.1) (br_t (eon.mpr A.2) ⟨rfl, J⟩)))))
    · have X64 : ∀ (post : Int32 → SX → Prop), wX_erase_64 post (nI q) (nI (pn (2 * q))) (nI (po (2 * q))) (nI (pn (2 * q + 1))) (nI (po (2 * q + 1))) (nI c) sg eg (ar_n kd) (ar_p pa) (ar_n sz) (ar_n it) (ar_n pn) (ar_n po) rl rn oa ca il dm → wpX_erase post (nI c, sg, eg, ar_n kd, ar_p pa, ar_n sz, ar_n it, ar_n pn, ar_n po, rl, rn, oa, ca, il, dm) (nI q) := by
        intro post h
        refine XW post (cb_i esn (fun e => br_f (fun z => A ⟨e, eon.mp z⟩) h) (fun _ => h))
      have Y66 : ∀ (post : Int32 → SY → Prop), wY_erase_66 post (nI q) (nI (pn (2 * q))) (nI (po (2 * q))) (nI (pn (2 * q + 1))) (nI (po (2 * q + 1))) (nI c) ln (ar_n kd) (ar_p pa) (ar_n sz) (ar_n it) (ar_n pn) (ar_n po) mk os cs cm → wpY_erase post (nI c, ln, ar_n kd, ar_p pa, ar_n sz, ar_n it, ar_n pn, ar_n po, mk, os, cs, cm) (nI q) := by
        intro post h
        refine YW post (cb_i esn (fun e => br_f (fun z => A ⟨e, eon.mp z⟩) h) (fun _ => h))
      by_cases B : pn (2 * q) = pn (2 * q + 1) ∧ kd (pn (2 * q)) = 1
      · -- within one text
        have le := (P.2 q hq).2 (pn (2 * q)) (2 * po (2 * q)) (2 * po (2 * q + 1)) hs (Or.inl ⟨rfl, rfl⟩) (Or.inl ⟨B.1.symm, rfl⟩)
        have s12 := (T.2.2.1 _ hs B.2).1
        rw [← B.1] at sb
        obtain ⟨T2, P2⟩ := ex_TP T P (t := pn (2 * q)) (a := po (2 * q)) (g := po (2 * q + 1) - po (2 * q)) (k := 0) (d := 0) hs B.2 (by omega) (by omega)
        refine X64 _ (br_t (esn.mpr B.1) (in_c hsi (br_t (by rw [ar_nc _ (by omega), B.2]; rfl) ?_)))
        rw [pk_sub (by omega)]
        refine xx_replaceLetters (k := 0) (d := 0) T P.1 hs (by omega) (by omega) s12 (Or.inl ⟨rfl, rfl, rfl⟩) ?_
        refine Y66 _ (br_t (esn.mpr B.1) (in_c hsi (br_f (by rw [ar_nc _ (by omega), B.2]; decide) ?_)))
        rw [pk_sub (by omega)]
        exact yy_exchange (k := 0) T P.1 hs (by omega) (by omega) s12 (by omega) ⟨rfl, rel_mk T2 P2⟩
      · -- across
        have X95 : ∀ (post : Int32 → SX → Prop), wpX_eraseAcross (fun r u => post r u) (nI c, sg, eg, ar_n kd, ar_p pa, ar_n sz, ar_n it, ar_n pn, ar_n po, rl, rn, oa, ca, il, dm) (nI q) → wpX_erase post (nI c, sg, eg, ar_n kd, ar_p pa, ar_n sz, ar_n it, ar_n pn, ar_n po, rl, rn, oa, ca, il, dm) (nI q) := by
          intro post h
          refine X64 post (cb_i esn (fun e => in_c hsi (br_f ?_ h)) (fun _ => h))
          rw [ar_nc _ (by omega), (tr_k1 T hs).resolve_right (fun z => B ⟨e, z⟩)]
          decide
        have Y94 : ∀ (post : Int32 → SY → Prop), wY_erase_94 post (nI q) (nI (pn (2 * q))) (nI (po (2 * q))) (nI (pn (2 * q + 1))) (nI (po (2 * q + 1))) (nI c) ln (ar_n kd) (ar_p pa) (ar_n sz) (ar_n it) (ar_n pn) (ar_n po) mk os cs cm → wpY_erase post (nI c, ln, ar_n kd, ar_p pa, ar_n sz, ar_n it, ar_n pn, ar_n po, mk, os, cs, cm) (nI q) := by
          intro post h
          refine Y66 post (cb_i esn (fun e => in_c hsi (br_t ?_ h)) (fun _ => h))
          rw [ar_nc _ (by omega), (tr_k1 T hs).resolve_right (fun z => B ⟨e, z⟩)]
          rfl
        obtain ⟨r, hr, pr, ws, we⟩ := pl_top T P hq
        obtain ⟨L, op, N, Q⟩ := ly_ex T
        have ga := ly_gr Q T va hr pr ws
        have gb := ly_gr Q T vb hr pr we
        have o0 := Q.2.2.1 r hr pr
        obtain ⟨x, y, hx, kx, hy, hop, ax, ay⟩ := er_xy T P Q hq pr ws we B
        refine X95 _ (ax sg eg rl rn oa ca il dm _ ?_)
        unfold wX_eraseAcross_84
        refine xx_layRange Q T P.1 hq pr ws we ?_
        intro rl rn oa ca il D
        refine xx_findDoomed (sg := sg) (eg := eg) Q T hr pr D ga.1 ga.2.1 gb.2.1 ?_
        intro m dl dm LD hdm
        have m24 : m ≤ 24 := Nat.le_trans (er_m LD) c24
        have hd : ∀ i, i < m → dl i < c ∧ op (dl i) < 1000 := by
          intro i hi
          have d := LD.1 i hi
          have inn := ly_in Q T d.1 d.2.1.1
          exact ⟨d.1, by omega⟩
        have hpa : ∀ i, i < m → pa (dl i) ≠ 0 := by
          intro i hi z
          have d := LD.1 i hi
          have e := tr_t1 z pr (tr_wr _ _) d.2.1.1
          have := d.2.1.2.1
          rw [e, o0] at this
          omega
        have hch : ∀ i j, i < m → j < y → dl i ≠ it (24 * x + j) := by
          intro i j hi hj z
          have d := (LD.1 i hi).2.1.2.1
          have := hop j hj
          rw [z] at d
          omega
        have fin : ∀ (S : Int32) (os : Nat → Int32), (∀ i, i < 32 → (bt S i = true ↔ er_D c pa L op r (ly_g kd it L op (pn (2 * q)) (po (2 * q))) (ly_g kd it L op (pn (2 * q + 1)) (po (2 * q + 1))) i)) → ∀ i, i < 32 → (bt S i = true ↔ ∃ i', i' < m ∧ dl i' = i) := by
          intro S _ h i hi
          rw [h i hi]
          constructor
          · exact LD.2.2 i
          · rintro ⟨i', h1, rfl⟩; exact LD.1 i' h1
        have YF : ∀ (post : Int32 → SY → Prop), (∀ ln mk os cs cm S, (∀ m, m < c → tr_w pa (m + 1) r → rw_E kd sz it L op mk os cs m) → (∀ i, i < 32 → (bt S i = true ↔ ∃ i', i' < m ∧ dl i' = i)) → wY_erase_195 post (nI q) (nI (pn (2 * q))) (nI (po (2 * q))) (nI (pn (2 * q + 1))) (nI (po (2 * q + 1))) S (nI x) (nI y) (nI c) ln (ar_n kd) (ar_p pa) (ar_n sz) (ar_n it) (ar_n pn) (ar_n po) mk os cs cm) → wpY_erase post (nI c, ln, ar_n kd, ar_p pa, ar_n sz, ar_n it, ar_n pn, ar_n po, mk, os, cs, cm) (nI q) := by
          intro post h
          refine Y94 post ?_
          unfold wY_erase_94
          refine yy_inside Q T P.1 hq pr ws we ?_
          intro ln mk os cs cm S E hS
          exact ay ln mk os cs cm post S (h ln mk os cs cm S E (fin S os hS))
        refine in_c hsi ?_
        by_cases ks : kd (pn (2 * q)) = 1
        · have s12 := (T.2.2.1 _ hs ks).1
          have nse : pn (2 * q + 1) ≠ pn (2 * q) := fun z => B ⟨z.symm, ks⟩
          obtain ⟨h0, _⟩ := ex_T T (t := pn (2 * q)) (a := po (2 * q)) (g := sz (pn (2 * q)) - po (2 * q)) (k := 0) (d := 0) hs ks (by omega) (by omega)
          obtain ⟨T2, P2⟩ := ex_TP T P (t := pn (2 * q)) (a := po (2 * q)) (g := sz (pn (2 * q)) - po (2 * q)) (k := 0) (d := 0) hs ks (by omega) (by omega)
          have hx0 := h0 x hx kx
          have sx24 := tr_s24 T hx
          obtain ⟨pa', sz', it', pn', po', T3, P3, bx, by'⟩ := er_all (e := pn (2 * q + 1)) (b := po (2 * q + 1)) (y := y) hd LD.2.1 m24 hx kx he hq T2 P2 (fun i j hi hj => by rw [hx0.2 j (by omega)]; exact hch i j hi hj) hpa (by rw [hx0.1]; exact hy) (fun _ => by rw [st_un nse]; exact sb) (by omega)
          refine br_t (by show ar_n kd (nI (pn (2 * q))).toNatClampNeg = 1; rw [ar_nc _ (by omega), ks]; rfl) (in_c hsi ?_)
          show wpX_replaceLetters _ _ _ _ (ar_n sz (nI (pn (2 * q))).toNatClampNeg - nI (po (2 * q))) _
          rw [ar_nc _ (by omega), pk_sub (by omega)]
          refine xx_replaceLetters (k := 0) (d := 0) T P.1 hs (by omega) (by omega) s12 (Or.inl ⟨rfl, rfl, rfl⟩) ?_
          refine bx _ _ rl rn oa ca il dm _ hdm ?_
          refine YF _ ?_
          intro ln mk os cs cm S E hS
          refine in_c hsi (br_f (by rw [ar_nc _ (by omega), ks]; decide) (in_c hsi ?_))
          rw [ar_nc _ (by omega), pk_sub (by omega)]
          refine yy_exchange (k := 0) T P.1 hs (by omega) (by omega) s12 (by omega) ?_
          refine by' ln mk os cs cm _ S (fun i hi => (E _ (hd i hi).1 (LD.1 i hi).2.1.1).1) hS ?_
          exact ⟨rfl, rel_mk T3 P3⟩
        · have k0 := (tr_k1 T hs).resolve_right ks
          obtain ⟨pa', sz', it', pn', po', T3, P3, bx, by'⟩ := er_all (e := pn (2 * q + 1)) (b := po (2 * q + 1)) (y := y) hd LD.2.1 m24 hx kx he hq T P hch hpa hy (fun _ => sb) (by omega)
          refine br_f (by show ¬ ar_n kd (nI (pn (2 * q))).toNatClampNeg = 1; rw [ar_nc _ (by omega), k0]; decide) ?_
          refine bx _ _ rl rn oa ca il dm _ hdm ?_
          refine YF _ ?_
          intro ln mk os cs cm S E hS
          refine in_c hsi (br_t (by rw [ar_nc _ (by omega), k0]; rfl) ?_)
          refine by' ln mk os cs cm _ S (fun i hi => (E _ (hd i hi).1 (LD.1 i hi).2.1.1).1) hS ?_
          exact ⟨rfl, rel_mk T3 P3⟩
  · unfold wpX_erase
    dsimp only
    refine xx_isRange_f h (br_t rfl ?_)
    unfold wpY_erase
    dsimp only
    exact yy_isRange_f h (br_t rfl ⟨rfl, J⟩)
end
