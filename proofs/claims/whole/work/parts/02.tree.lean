/-! the forest: who is within whom -/
/-- one step up: 0 is none, v + 1 is the node v -/
def tr_s (pa : Nat → Nat) (x : Nat) : Nat := if x = 0 then 0 else pa (x - 1)
def tr_c (pa : Nat → Nat) : Nat → Nat → Nat
  | 0, x => x
  | k + 1, x => tr_c pa k (tr_s pa x)
/-- x leads up to the node m -/
def tr_w (pa : Nat → Nat) (x m : Nat) : Prop := ∃ k, tr_c pa k x = m + 1
theorem tr_s0 (pa : Nat → Nat) : tr_s pa 0 = 0 := rfl
theorem tr_s1 (pa : Nat → Nat) (v : Nat) : tr_s pa (v + 1) = pa v := rfl
theorem tr_c0 (pa : Nat → Nat) : ∀ k, tr_c pa k 0 = 0 := by
  intro k
  induction k with
  | zero => rfl
  | succ k ih => exact ih
theorem tr_cs (pa : Nat → Nat) : ∀ k x, tr_c pa (k + 1) x = tr_s pa (tr_c pa k x) := by
  intro k
  induction k with
  | zero => intro x; rfl
  | succ k ih => intro x; exact ih (tr_s pa x)
theorem tr_w0 {pa : Nat → Nat} {m : Nat} : ¬ tr_w pa 0 m := by
  rintro ⟨k, h⟩
  rw [tr_c0] at h
  omega
theorem tr_wr (pa : Nat → Nat) (m : Nat) : tr_w pa (m + 1) m := ⟨0, rfl⟩
theorem tr_ws {pa : Nat → Nat} {n m : Nat} (h : tr_w pa (pa n) m) : tr_w pa (n + 1) m := by
  obtain ⟨k, h⟩ := h
  exact ⟨k + 1, h⟩
theorem tr_wp {pa : Nat → Nat} {n p m : Nat} (e : pa n = p + 1) (h : tr_w pa (p + 1) m) : tr_w pa (n + 1) m := tr_ws (e ▸ h)
theorem tr_wc {pa : Nat → Nat} {n m : Nat} (h : tr_w pa (n + 1) m) : n = m ∨ tr_w pa (pa n) m := by
  obtain ⟨k, h⟩ := h
  cases k with
  | zero => exact Or.inl (by have : n + 1 = m + 1 := h; omega)
  | succ k => exact Or.inr ⟨k, h⟩
theorem tr_ind {pa : Nat → Nat} {m : Nat} {Q : Nat → Prop} (h0 : Q (m + 1)) (hs : ∀ n, tr_w pa (pa n) m → Q (pa n) → Q (n + 1)) : ∀ x, tr_w pa x m → Q x := by
  intro x h
  obtain ⟨k, hk⟩ := h
  induction k generalizing x with
  | zero => have e : x = m + 1 := hk; rw [e]; exact h0
  | succ k ih =>
    cases x with
    | zero => rw [tr_c0] at hk; omega
    | succ v => exact hs v ⟨k, hk⟩ (ih (pa v) hk)
theorem tr_wt {pa : Nat → Nat} {x a b : Nat} (h : tr_w pa x a) (g : tr_w pa (a + 1) b) : tr_w pa x b :=
  tr_ind (Q := fun x => tr_w pa x b) g (fun _ _ q => tr_ws q) x h
theorem tr_wcmp {pa : Nat → Nat} {x a b : Nat} (h : tr_w pa x a) (g : tr_w pa x b) : tr_w pa (a + 1) b ∨ tr_w pa (b + 1) a := by
  refine tr_ind (Q := fun x => tr_w pa x b → tr_w pa (a + 1) b ∨ tr_w pa (b + 1) a) (fun g => Or.inl g) ?_ x h g
  intro n hn q g
  rcases tr_wc g with rfl | g
  · exact Or.inr (tr_ws hn)
  · exact q g
theorem tr_wl {pa : Nat → Nat} {x m : Nat} (h : tr_w pa x m) : x = m + 1 ∨ ∃ q, pa q = m + 1 ∧ tr_w pa x q := by
  refine tr_ind (Q := fun x => x = m + 1 ∨ ∃ q, pa q = m + 1 ∧ tr_w pa x q) (Or.inl rfl) ?_ x h
  intro n hn q
  rcases q with e | ⟨q, e, g⟩
  · exact Or.inr ⟨n, e, tr_wr pa n⟩
  · exact Or.inr ⟨q, e, tr_ws g⟩
/-- the forest holds together -/
def tr_T (c : Nat) (kd pa sz it : Nat → Nat) : Prop :=
  (1 ≤ c ∧ c ≤ 24) ∧
  (∀ n, n < c → kd n ≤ 1) ∧
  (∀ n, n < c → kd n = 1 → sz n ≤ 12 ∧ ∀ i, i < sz n → it (24 * n + i) ≤ 9) ∧
  (∀ n, n < c → kd n = 0 → ∀ i, i < sz n → it (24 * n + i) < c ∧ pa (it (24 * n + i)) = n + 1) ∧
  (∀ n, n < c → kd n = 0 → ∀ i j, i < sz n → j < sz n → it (24 * n + i) = it (24 * n + j) → i = j) ∧
  (∀ n p, n < c → pa n = p + 1 → p < c ∧ kd p = 0 ∧ ∃ i, i < sz p ∧ it (24 * p + i) = n) ∧
  (∃ rk : Nat → Nat, ∀ n p, n < c → pa n = p + 1 → rk p < rk n)
section
variable {c : Nat} {kd pa sz it : Nat → Nat}
theorem tr_c24 (T : tr_T c kd pa sz it) : c ≤ 24 := T.1.2
theorem tr_k1 (T : tr_T c kd pa sz it) {n : Nat} (h : n < c) : kd n = 0 ∨ kd n = 1 := by
  have := T.2.1 n h; omega
theorem tr_pl (T : tr_T c kd pa sz it) {n : Nat} (h : n < c) : pa n ≤ c := by
  cases e : pa n with
  | zero => omega
  | succ p => have := (T.2.2.2.2.2.1 n p h e).1; omega
theorem tr_pe (T : tr_T c kd pa sz it) {n p : Nat} (h : n < c) (e : pa n = p + 1) : p < c ∧ kd p = 0 ∧ ∃ i, i < sz p ∧ it (24 * p + i) = n := T.2.2.2.2.2.1 n p h e
theorem tr_ch (T : tr_T c kd pa sz it) {n i : Nat} (h : n < c) (k : kd n = 0) (hi : i < sz n) : it (24 * n + i) < c ∧ pa (it (24 * n + i)) = n + 1 := T.2.2.2.1 n h k i hi
theorem tr_in (T : tr_T c kd pa sz it) {n i j : Nat} (h : n < c) (k : kd n = 0) (hi : i < sz n) (hj : j < sz n) (e : it (24 * n + i) = it (24 * n + j)) : i = j := T.2.2.2.2.1 n h k i j hi hj e
theorem tr_lt (T : tr_T c kd pa sz it) {n m : Nat} (h : n < c) (w : tr_w pa (n + 1) m) : m < c := by
  refine tr_ind (Q := fun x => ∀ n, x = n + 1 → n < c → m < c) (fun n e h => by omega) ?_ (n + 1) w n rfl h
  intro v hv q n e h
  have e : v = n := by omega
  subst e
  cases e2 : pa v with
  | zero => rw [e2] at hv; exact absurd hv tr_w0
  | succ p => exact q p e2 (tr_pe T h e2).1
theorem tr_rk (T : tr_T c kd pa sz it) : ∃ rk : Nat → Nat, (∀ n p, n < c → pa n = p + 1 → rk p < rk n) ∧ ∀ n m, n < c → tr_w pa (n + 1) m → n = m ∨ rk m < rk n := by
  obtain ⟨rk, hr⟩ := T.2.2.2.2.2.2
  refine ⟨rk, hr, fun n m h w => ?_⟩
  refine tr_ind (Q := fun x => ∀ n, x = n + 1 → n < c → n = m ∨ rk m < rk n) (fun n e h => Or.inl (by omega)) ?_ (n + 1) w n rfl h
  intro v hv q n e h
  have e : v = n := by omega
  subst e
  cases e2 : pa v with
  | zero => rw [e2] at hv; exact absurd hv tr_w0
  | succ p =>
    have h1 := hr v p h e2
    rcases q p e2 (tr_pe T h e2).1 with rfl | h2
    · exact Or.inr h1
    · exact Or.inr (by omega)
theorem tr_an (T : tr_T c kd pa sz it) {n m : Nat} (h : n < c) (w : tr_w pa (n + 1) m) (g : tr_w pa (m + 1) n) : n = m := by
  obtain ⟨rk, _, hr⟩ := tr_rk T
  rcases hr n m h w with e | h1
  · exact e
  · rcases hr m n (tr_lt T h w) g with e | h2
    · exact e.symm
    · omega
theorem tr_ac (T : tr_T c kd pa sz it) {n p : Nat} (h : n < c) (e : pa n = p + 1) : ¬ tr_w pa (p + 1) n := by
  intro w
  obtain ⟨rk, h1, hr⟩ := tr_rk T
  have h2 := h1 n p h e
  rcases hr p n (tr_pe T h e).1 w with rfl | h3 <;> omega
theorem tr_nc (T : tr_T c kd pa sz it) {n p : Nat} (h : n < c) (e : pa n = p + 1) : p ≠ n := by
  rintro rfl
  exact tr_ac T h e (tr_wr pa p)
/-- no way up is longer than the nodes are many -/
theorem tr_dp (T : tr_T c kd pa sz it) {n : Nat} (h : n < c) : tr_c pa 24 (n + 1) = 0 := by
  obtain ⟨rk, h1, _⟩ := tr_rk T
  apply Classical.byContradiction
  intro hne
  have z : ∀ d k, k + d = 24 → tr_c pa k (n + 1) ≠ 0 := by
    intro d
    induction d with
    | zero => intro k hk; rw [show k = 24 by omega]; exact hne
    | succ d ih =>
      intro k hk e
      exact ih (k + 1) (by omega) (by rw [tr_cs, e]; rfl)
  have b : ∀ k, k ≤ 24 → tr_c pa k (n + 1) - 1 < c := by
    intro k
    induction k with
    | zero => intro _; exact h
    | succ k ih =>
      intro hk
      have h3 := ih (by omega)
      have h4 := z (24 - k) k (by omega)
      have h5 := z (24 - (k + 1)) (k + 1) (by omega)
      rw [tr_cs] at h5 ⊢
      unfold tr_s at h5 ⊢
      rw [if_neg h4] at h5 ⊢
      have := tr_pl T h3
      omega
  have st : ∀ k, k < 24 → rk (tr_c pa (k + 1) (n + 1) - 1) < rk (tr_c pa k (n + 1) - 1) := by
    intro k hk
    have h3 := b k (by omega)
    have h4 := z (24 - k) k (by omega)
    have h5 := z (24 - (k + 1)) (k + 1) (by omega)
    apply h1 _ _ h3
    have e : tr_c pa (k + 1) (n + 1) = pa (tr_c pa k (n + 1) - 1) := by
      rw [tr_cs]; unfold tr_s; rw [if_neg h4]
    rw [← e]; omega
  have mo : ∀ d k, k + d + 1 ≤ 24 → rk (tr_c pa (k + d + 1) (n + 1) - 1) < rk (tr_c pa k (n + 1) - 1) := by
    intro d
    induction d with
    | zero => intro k hk; exact st k (by omega)
    | succ d ih =>
      intro k hk
      have a1 := ih k (by omega)
      have a2 := st (k + d + 1) (by omega)
      rw [show k + (d + 1) + 1 = k + d + 1 + 1 by omega]
      omega
  have := pg_h c 25 (fun k => tr_c pa k (n + 1) - 1) (fun i hi => b i (by omega)) (by
    intro i j hi hj e
    try dsimp only at e
    rcases Nat.lt_trichotomy i j with hl | hl | hl
    · have := mo (j - i - 1) i (by omega)
      rw [show i + (j - i - 1) + 1 = j by omega, e] at this
      omega
    · exact hl
    · have := mo (i - j - 1) j (by omega)
      rw [show j + (i - j - 1) + 1 = i by omega, e] at this
      omega)
  have := tr_c24 T
  omega
theorem tr_cle (T : tr_T c kd pa sz it) {n : Nat} (h : n < c) : ∀ k, tr_c pa k (n + 1) ≤ c := by
  intro k
  induction k with
  | zero => exact h
  | succ k ih =>
    rw [tr_cs]
    unfold tr_s
    split
    · omega
    · exact tr_pl T (by omega)
/-- an element has fewer children than there are nodes -/
theorem tr_sz (T : tr_T c kd pa sz it) {n : Nat} (h : n < c) (k : kd n = 0) : sz n < c := by
  have := pg_h c (sz n + 1) (fun i => if i < sz n then it (24 * n + i) else n) (by
    intro i hi
    try dsimp only
    split
    · exact (tr_ch T h k (by omega)).1
    · exact h) (by
    intro i j hi hj e
    try dsimp only at e
    split at e <;> split at e
    · exact tr_in T h k (by omega) (by omega) e
    · have h2 := tr_ch T h k (i := i) (by omega)
      rw [e] at h2
      exact absurd rfl (tr_nc T h h2.2)
    · have h2 := tr_ch T h k (i := j) (by omega)
      rw [← e] at h2
      exact absurd rfl (tr_nc T h h2.2)
    · omega)
  omega
/-- and fewer still if another node isn't among them -/
theorem tr_sz2 (T : tr_T c kd pa sz it) {n m : Nat} (h : n < c) (k : kd n = 0) (hm : m < c) (e1 : m ≠ n) (e2 : pa m ≠ n + 1) : sz n + 1 < c := by
  have := pg_h c (sz n + 2) (fun i => if i < sz n then it (24 * n + i) else if i = sz n then n else m) (by
    intro i hi
    try dsimp only
    split
    · exact (tr_ch T h k (by omega)).1
    · split
      · exact h
      · exact hm) (by
    intro i j hi hj e
    have ne : ∀ i, i < sz n → it (24 * n + i) ≠ n ∧ it (24 * n + i) ≠ m := by
      intro i hi
      have h2 := tr_ch T h k (i := i) (by omega)
      refine ⟨fun q => ?_, fun q => ?_⟩
      · rw [q] at h2; exact absurd rfl (tr_nc T h h2.2)
      · rw [q] at h2; exact absurd h2.2 e2
    try dsimp only at e
    split at e
    · rename_i a
      split at e
      · exact tr_in T h k (by omega) (by omega) e
      · split at e
        · exact absurd e (ne i a).1
        · exact absurd e (ne i a).2
    · split at e
      · split at e
        · rename_i a; exact absurd e.symm (ne j a).1
        · split at e
          · omega
          · exact absurd e.symm e1
      · split at e
        · rename_i a; exact absurd e.symm (ne j a).2
        · split at e
          · exact absurd e e1
          · omega)
  omega
theorem tr_s24 (T : tr_T c kd pa sz it) {n : Nat} (h : n < c) : sz n < 24 := by
  have := tr_c24 T
  rcases tr_k1 T h with k | k
  · have := tr_sz T h k; omega
  · have := (T.2.2.1 n h k).1; omega
/-- every node has one top -/
theorem tr_top (T : tr_T c kd pa sz it) {n : Nat} (h : n < c) : ∃ r, r < c ∧ pa r = 0 ∧ tr_w pa (n + 1) r := by
  obtain ⟨rk, h1, _⟩ := tr_rk T
  have : ∀ d n, rk n ≤ d → n < c → ∃ r, r < c ∧ pa r = 0 ∧ tr_w pa (n + 1) r := by
    intro d
    induction d with
    | zero =>
      intro n hd h
      cases e : pa n with
      | zero => exact ⟨n, h, e, tr_wr pa n⟩
      | succ p => have := h1 n p h e; omega
    | succ d ih =>
      intro n hd h
      cases e : pa n with
      | zero => exact ⟨n, h, e, tr_wr pa n⟩
      | succ p =>
        have := h1 n p h e
        obtain ⟨r, a, b, g⟩ := ih p (by omega) (tr_pe T h e).1
        exact ⟨r, a, b, tr_wp e g⟩
  exact this (rk n) n (Nat.le_refl _) h
theorem tr_t1 {n r q : Nat} (hr : pa r = 0) (hq : pa q = 0) (a : tr_w pa (n + 1) r) (b : tr_w pa (n + 1) q) : r = q := by
  rcases tr_wcmp a b with g | g
  · rcases tr_wc g with e | g
    · exact e
    · rw [hr] at g; exact absurd g tr_w0
  · rcases tr_wc g with e | g
    · exact e.symm
    · rw [hq] at g; exact absurd g tr_w0
/-- what is within something is within its top -/
theorem tr_wtop {n m r : Nat} (hr : pa r = 0) (a : tr_w pa (n + 1) m) (b : tr_w pa (n + 1) r) : tr_w pa (m + 1) r := by
  rcases tr_wcmp a b with g | g
  · exact g
  · rcases tr_wc g with e | g
    · subst e; exact tr_wr pa r
    · rw [hr] at g; exact absurd g tr_w0
end
/-! an edge more, an edge less: pa has the edge from n0, st_u pa n0 0 has not -/
section
variable {pa : Nat → Nat} {n0 : Nat}
theorem tr_e1 {x b : Nat} (h : tr_w (st_u pa n0 0) x b) : tr_w pa x b := by
  refine tr_ind (Q := fun x => tr_w pa x b) (tr_wr pa b) ?_ x h
  intro n hn q
  by_cases e : n = n0
  · subst e; rw [st_us] at hn; exact absurd hn tr_w0
  · rw [st_un e] at q; exact tr_ws q
theorem tr_e3 {x b : Nat} (h : tr_w pa x b) (g : ¬ tr_w pa x n0) : tr_w (st_u pa n0 0) x b := by
  refine tr_ind (Q := fun x => ¬ tr_w pa x n0 → tr_w (st_u pa n0 0) x b) (fun _ => tr_wr _ b) ?_ x h g
  intro n hn q g
  by_cases e : n = n0
  · subst e; exact absurd (tr_wr pa n) g
  · apply tr_ws
    rw [st_un e]
    exact q (fun z => g (tr_ws z))
theorem tr_e4 {x : Nat} (h : tr_w pa x n0) : tr_w (st_u pa n0 0) x n0 := by
  refine tr_ind (Q := fun x => tr_w (st_u pa n0 0) x n0) (tr_wr _ n0) ?_ x h
  intro n hn q
  by_cases e : n = n0
  · subst e; exact tr_wr _ n
  · apply tr_ws
    rw [st_un e]
    exact q
theorem tr_e5 {x b : Nat} (ac : ¬ tr_w pa (pa n0) n0) (h : tr_w pa x b) (g : tr_w pa (b + 1) n0) : tr_w (st_u pa n0 0) x b := by
  refine tr_ind (Q := fun x => tr_w (st_u pa n0 0) x b) (tr_wr _ b) ?_ x h
  intro n hn q
  by_cases e : n = n0
  · subst e; exact absurd (tr_wt hn g) ac
  · apply tr_ws
    rw [st_un e]
    exact q
theorem tr_e2 {x b : Nat} (ac : ¬ tr_w pa (pa n0) n0) (h : tr_w pa x b) : tr_w (st_u pa n0 0) x b ∨ (tr_w (st_u pa n0 0) x n0 ∧ tr_w (st_u pa n0 0) (pa n0) b) := by
  by_cases z : tr_w pa x n0
  · rcases tr_wcmp z h with g | g
    · rcases tr_wc g with e | g
      · subst e; exact Or.inl (tr_e4 z)
      · exact Or.inr ⟨tr_e4 z, tr_e3 g ac⟩
    · exact Or.inl (tr_e5 ac h g)
  · exact Or.inl (tr_e3 h z)
theorem tr_e6 {p0 x : Nat} (h : tr_w (st_u pa n0 p0) x n0) : tr_w pa x n0 := by
  refine tr_ind (Q := fun x => tr_w pa x n0) (tr_wr _ n0) ?_ x h
  intro n hn q
  by_cases e : n = n0
  · subst e; exact tr_wr _ n
  · rw [st_un e] at q; exact tr_ws q
theorem tr_uu (p0 : Nat) (h : pa n0 = 0) : st_u (st_u pa n0 p0) n0 0 = pa := by
  funext j
  unfold st_u
  split
  · rename_i e; rw [e, h]
  · rfl
end
