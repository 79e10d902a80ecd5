/-! rows of kit/rows/PURE-ROWS, pasted, then my own on numbers and arrays -/
theorem pk_us {f : Nat → Int32} {k : Nat} {x : Int32} : upd f k x k = x := if_pos rfl
theorem pk_un {f : Nat → Int32} {k j : Nat} {x : Int32} (h : j ≠ k) : upd f k x j = f j := if_neg h
theorem pk_sub {a b : Nat} (h : b ≤ a) : nI a - nI b = nI (a - b) := by
  obtain ⟨c, rfl⟩ : ∃ c, a = c + b := ⟨a - b, by omega⟩
  rw [← nI_add, Int32.add_sub_cancel, Nat.add_sub_cancel]
theorem pk_m1 (n : Nat) : nI (n + 1) + (-1) = nI n := by
  rw [← nI_1, Int32.add_assoc, show (1 : Int32) + (-1) = 0 from rfl, Int32.add_zero]
theorem pk_mul (a b : Nat) : nI a * nI b = nI (a * b) := (Int32.ofNat_mul a b).symm
theorem pk_div {a d : Nat} (ha : a < 2 ^ 31) (h0 : 0 < d) (hd : d < 2 ^ 31) : nI a / nI d = nI (a / d) := by
  apply Int32.toInt_inj.mp
  rw [lg_idiv_nonneg (by rw [nI_toInt ha]; omega) (by rw [nI_toInt hd]; omega), nI_toInt ha, nI_toInt hd, nI_toInt (Nat.lt_of_le_of_lt (Nat.div_le_self a d) ha)]
  first | rfl | exact (Int.natCast_ediv _ _).symm
theorem pk_rem {a d : Nat} (ha : a < 2 ^ 31) (h0 : 0 < d) (hd : d < 2 ^ 31) : nI a - nI a / nI d * nI d = nI (a % d) := by
  rw [pk_div ha h0 hd, pk_mul, pk_sub (Nat.div_mul_le_self a d)]
  exact congrArg nI (by have := Nat.div_add_mod' a d; omega)
theorem pk_sub_toInt {a b : Nat} (ha : a < 2 ^ 30) (hb : b < 2 ^ 30) : (nI a - nI b).toInt = (a : Int) - b := by
  rw [Int32.toInt_sub, nI_toInt (by omega), nI_toInt (by omega)]
  exact Int.bmod_eq_of_le (by omega) (by omega)
theorem pk_sneg {a b : Nat} (hb : b < 2 ^ 30) (h : a < b) : nI a - nI b < 0 := by
  rw [Int32.lt_iff_toInt_lt, pk_sub_toInt (by omega) hb, show (0 : Int32).toInt = 0 from by decide]
  omega
theorem pk_ix (x : Int32) {n : Nat} (hn : n < 2 ^ 31) : x < 0 ∨ nI n ≤ x ∨ ∃ j : Nat, j < n ∧ x = nI j := by
  by_cases h : x < 0
  · exact Or.inl h
  · obtain ⟨j, hj, rfl⟩ := nI_of h
    by_cases h2 : j < n
    · exact Or.inr (Or.inr ⟨j, h2, rfl⟩)
    · exact Or.inr (Or.inl (nI_le (by omega) hj))
theorem pk_le {x y : Int32} {A B : Prop} (a b : Nat) (f : a ≤ b → A) (g : b < a → B) (hx : x = nI a := by rfl) (hy : y = nI b := by rfl) (ha : a < 2 ^ 31 := by omega) (hb : b < 2 ^ 31 := by omega) : (x ≤ y → A) ∧ (¬ x ≤ y → B) := by
  subst hx hy
  rw [nI_leI ha hb]
  exact ⟨f, fun z => g (by omega)⟩
theorem pk_lt {x y : Int32} {A B : Prop} (a b : Nat) (f : a < b → A) (g : b ≤ a → B) (hx : x = nI a := by rfl) (hy : y = nI b := by rfl) (ha : a < 2 ^ 31 := by omega) (hb : b < 2 ^ 31 := by omega) : (x < y → A) ∧ (¬ x < y → B) := by
  subst hx hy
  rw [nI_ltI ha hb]
  exact ⟨f, fun z => g (by omega)⟩
theorem pk_eq {x y : Int32} {A B : Prop} (a b : Nat) (f : a = b → A) (g : a ≠ b → B) (hx : x = nI a := by rfl) (hy : y = nI b := by rfl) (ha : a < 2 ^ 31 := by omega) (hb : b < 2 ^ 31 := by omega) : (x = y → A) ∧ (¬ x = y → B) := by
  subst hx hy
  rw [nI_eq ha hb]
  exact ⟨f, g⟩
theorem pk_in {x : Int32} (n N : Nat) (h : n < N) (hx : x = nI n := by rfl) (hN : N < 2 ^ 31 := by omega) : vp_in x N := by
  subst hx
  exact vp_in_nI h hN
theorem pk_cl {x : Int32} (n : Nat) (hx : x = nI n := by rfl) (h : n < 2 ^ 31 := by omega) : x.toNatClampNeg = n := by
  subst hx
  exact nI_clamp h
theorem pk_least (P : Nat → Prop) (h : ∃ k, P k) : ∃ k, P k ∧ ∀ j, j < k → ¬ P j := by
  obtain ⟨k, hk⟩ := h
  induction k using Nat.strongRecOn with
  | ind k ih =>
    by_cases e : ∃ j, j < k ∧ P j
    · obtain ⟨j, hj, pj⟩ := e
      exact ih j hj pj
    · exact ⟨k, hk, fun j hj pj => e ⟨j, hj, pj⟩⟩
/-- an array of naturals, an array of 'number or none' -/
def ar_n (f : Nat → Nat) : Nat → Int32 := fun j => nI (f j)
def ar_p (f : Nat → Nat) : Nat → Int32 := fun j => nI (f j) - 1
def st_u (f : Nat → Nat) (i x : Nat) : Nat → Nat := fun j => if j = i then x else f j
theorem st_us (f : Nat → Nat) (i x : Nat) : st_u f i x i = x := if_pos rfl
theorem st_un {f : Nat → Nat} {i x j : Nat} (h : j ≠ i) : st_u f i x j = f j := if_neg h
theorem ar_nu (f : Nat → Nat) (i x : Nat) : upd (ar_n f) i (nI x) = ar_n (st_u f i x) := by
  funext j; unfold upd ar_n st_u; split <;> rfl
theorem ar_pu (f : Nat → Nat) (i x : Nat) : upd (ar_p f) i (nI x - 1) = ar_p (st_u f i x) := by
  funext j; unfold upd ar_p st_u; split <;> rfl
theorem ar_m1 : (-1 : Int32) = nI 0 - 1 := by decide
theorem ar_pm (f : Nat → Nat) (i : Nat) : upd (ar_p f) i (-1) = ar_p (st_u f i 0) := by
  rw [ar_m1]; exact ar_pu f i 0
theorem ar_pq (f : Nat → Nat) (i p : Nat) : upd (ar_p f) i (nI p) = ar_p (st_u f i (p + 1)) := by
  rw [← nI_pred p]; exact ar_pu f i (p + 1)
theorem ar_nc (f : Nat → Nat) {i : Nat} (h : i < 2 ^ 31) : ar_n f (nI i).toNatClampNeg = nI (f i) := by
  rw [nI_clamp h]; rfl
theorem ar_pc (f : Nat → Nat) {i : Nat} (h : i < 2 ^ 31) : ar_p f (nI i).toNatClampNeg = nI (f i) - 1 := by
  rw [nI_clamp h]; rfl
theorem ar_toI {a : Nat} (h : a < 2 ^ 30) : (nI a - 1).toInt = (a : Int) - 1 := pk_sub_toInt (b := 1) h (by omega)
theorem ar_neg {a : Nat} (h : a < 2 ^ 30) : nI a - 1 < 0 ↔ a = 0 := by
  rw [Int32.lt_iff_toInt_lt, ar_toI h, show (0 : Int32).toInt = 0 from by decide]; omega
theorem ar_pos {a : Nat} (h : a < 2 ^ 30) : 0 ≤ nI a - 1 ↔ a ≠ 0 := by
  rw [Int32.le_iff_toInt_le, ar_toI h, show (0 : Int32).toInt = 0 from by decide]; omega
theorem ar_no {a : Nat} (h : a < 2 ^ 30) : nI a - 1 = -1 ↔ a = 0 := by
  rw [← Int32.toInt_inj, ar_toI h, show (-1 : Int32).toInt = -1 from by decide]; omega
theorem ar_is {a b : Nat} (h : a < 2 ^ 30) (hb : b < 2 ^ 30) : nI a - 1 = nI b ↔ a = b + 1 := by
  rw [← Int32.toInt_inj, ar_toI h, nI_toInt (by omega)]; omega
theorem ar_si {a b : Nat} (h : a < 2 ^ 30) (hb : b < 2 ^ 30) : nI b = nI a - 1 ↔ a = b + 1 := by
  rw [eq_comm]; exact ar_is h hb
theorem ix_x (n i : Nat) : nI n * 24 + nI i = nI (24 * n + i) := by
  rw [show (24 : Int32) = nI 24 from rfl, pk_mul, nI_add, Nat.mul_comm]
theorem ix_y (n i : Nat) : 24 * nI n + nI i = nI (24 * n + i) := by
  rw [show (24 : Int32) = nI 24 from rfl, pk_mul, nI_add]
theorem ix_2x (n : Nat) : nI n * 2 = nI (2 * n) := by
  rw [show (2 : Int32) = nI 2 from rfl, pk_mul, Nat.mul_comm]
theorem ix_2y (n : Nat) : 2 * nI n = nI (2 * n) := by
  rw [show (2 : Int32) = nI 2 from rfl, pk_mul]
theorem in_c {i : Int32} {n : Nat} {P : Prop} (h : vp_in i n) (p : P) : vp_in i n ∧ P := ⟨h, p⟩
/-- pigeons -/
theorem pg_h : ∀ (c k : Nat) (f : Nat → Nat), (∀ i, i < k → f i < c) → (∀ i j, i < k → j < k → f i = f j → i = j) → k ≤ c := by
  intro c
  induction c with
  | zero => intro k f h _; cases k with
    | zero => exact Nat.le_refl 0
    | succ k => exact absurd (h 0 (by omega)) (by omega)
  | succ c ih =>
    intro k f h inj
    cases k with
    | zero => omega
    | succ k =>
      refine Nat.succ_le_succ (ih k (fun j => if f j = c then f k else f j) ?_ ?_)
      · intro i hi
        try dsimp only
        have h1 := h i (by omega)
        have h2 := h k (by omega)
        have h3 := inj i k (by omega) (by omega)
        split <;> omega
      · intro i j hi hj e
        try dsimp only at e
        have a1 := inj i k (by omega) (by omega)
        have a2 := inj j k (by omega) (by omega)
        have a3 := inj i j (by omega) (by omega)
        apply a3
        split at e <;> split at e <;> omega
