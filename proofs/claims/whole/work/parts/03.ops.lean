/-! the forest after a node is made, taken out, put in, or a text's letters are changed -/
noncomputable def cl_if {α : Type} (P : Prop) (a b : α) : α := @ite α P (Classical.propDecidable P) a b
theorem cl_t {α : Type} {P : Prop} (h : P) (a b : α) : cl_if P a b = a := by unfold cl_if; exact if_pos h
theorem cl_f {α : Type} {P : Prop} (h : ¬ P) (a b : α) : cl_if P a b = b := by unfold cl_if; exact if_neg h
def mv_l (it : Nat → Nat) (b f s e : Nat) : Nat → Nat := fun k => if b + f ≤ k + e ∧ k + e < b + s then it (k + e) else it k
def mv_r (it : Nat → Nat) (b f s e : Nat) : Nat → Nat := fun k => if b + f + e ≤ k ∧ k < b + s + e then it (k - e) else it k
theorem mv_lo (it : Nat → Nat) {p n i f s e : Nat} (hn : n ≠ p) (hi : i < 24) (he : e ≤ f) (hs : s ≤ 24) : mv_l it (24 * p) f s e (24 * n + i) = it (24 * n + i) := by
  unfold mv_l; exact if_neg (by omega)
theorem mv_lb (it : Nat → Nat) {p i f s e : Nat} (hi : i + e < f) : mv_l it (24 * p) f s e (24 * p + i) = it (24 * p + i) := by
  unfold mv_l; exact if_neg (by omega)
theorem mv_li (it : Nat → Nat) {p i f s e : Nat} (h1 : f ≤ i + e) (h2 : i + e < s) : mv_l it (24 * p) f s e (24 * p + i) = it (24 * p + (i + e)) := by
  unfold mv_l; rw [if_pos (by omega)]; exact congrArg it (by omega)
theorem mv_ro (it : Nat → Nat) {p n i f s e : Nat} (hn : n ≠ p) (hi : i < 24) (hs : s + e ≤ 24) : mv_r it (24 * p) f s e (24 * n + i) = it (24 * n + i) := by
  unfold mv_r; exact if_neg (by omega)
theorem mv_rb (it : Nat → Nat) {p i f s e : Nat} (hi : i < f + e) : mv_r it (24 * p) f s e (24 * p + i) = it (24 * p + i) := by
  unfold mv_r; exact if_neg (by omega)
theorem mv_ri (it : Nat → Nat) {p i f s e : Nat} (h1 : f + e ≤ i) (h2 : i < s + e) : mv_r it (24 * p) f s e (24 * p + i) = it (24 * p + (i - e)) := by
  unfold mv_r; rw [if_pos (by omega)]; exact congrArg it (by omega)
section
variable {c : Nat} {kd pa sz it : Nat → Nat}
theorem tr_Tmake (T : tr_T c kd pa sz it) (hc : c < 24) {k : Nat} (hk : k ≤ 1) : tr_T (c + 1) (st_u kd c k) (st_u pa c 0) (st_u sz c 0) it := by
  refine ⟨⟨by omega, by omega⟩, ?_, ?_, ?_, ?_, ?_, ?_⟩
  · intro n hn
    by_cases e : n = c
    · subst e; rw [st_us]; exact hk
    · rw [st_un e]; exact T.2.1 n (by omega)
  · intro n hn h
    by_cases e : n = c
    · subst e; rw [st_us]; exact ⟨by omega, fun i hi => by omega⟩
    · rw [st_un e] at h ⊢; exact T.2.2.1 n (by omega) h
  · intro n hn h i hi
    by_cases e : n = c
    · subst e; rw [st_us] at hi; omega
    · rw [st_un e] at h hi
      have := tr_ch T (by omega) h hi
      refine ⟨by omega, ?_⟩
      rw [st_un (by omega)]; exact this.2
  · intro n hn h i j hi hj
    by_cases e : n = c
    · subst e; rw [st_us] at hi; omega
    · rw [st_un e] at h hi hj
      exact tr_in T (by omega) h hi hj
  · intro n p hn h
    by_cases e : n = c
    · subst e; rw [st_us] at h; omega
    · rw [st_un e] at h
      obtain ⟨a, b, i, hi, g⟩ := tr_pe T (by omega) h
      refine ⟨by omega, by rw [st_un (by omega)]; exact b, i, by rw [st_un (by omega)]; exact hi, g⟩
  · obtain ⟨rk, hr⟩ := T.2.2.2.2.2.2
    refine ⟨rk, fun n p hn h => ?_⟩
    by_cases e : n = c
    · subst e; rw [st_us] at h; omega
    · rw [st_un e] at h; exact hr n p (by omega) h
theorem tr_Ttake (T : tr_T c kd pa sz it) {n0 p0 i0 : Nat} (hn : n0 < c) (hp : pa n0 = p0 + 1) (hi : i0 < sz p0) (he : it (24 * p0 + i0) = n0) :
    tr_T c kd (st_u pa n0 0) (st_u sz p0 (sz p0 - 1)) (mv_l it (24 * p0) (i0 + 1) (sz p0) 1) := by
  obtain ⟨hp0, hk0, _⟩ := tr_pe T hn hp
  have s0 := tr_s24 T hp0
  have row : ∀ i, i + 1 < sz p0 → ∃ j, j < sz p0 ∧ j ≠ i0 ∧ mv_l it (24 * p0) (i0 + 1) (sz p0) 1 (24 * p0 + i) = it (24 * p0 + j) ∧ ((i < i0 ∧ j = i) ∨ (i0 ≤ i ∧ j = i + 1)) := by
    intro i h
    by_cases l : i < i0
    · exact ⟨i, by omega, by omega, mv_lb it (by omega), Or.inl ⟨l, rfl⟩⟩
    · exact ⟨i + 1, by omega, by omega, mv_li it (by omega) (by omega), Or.inr ⟨by omega, rfl⟩⟩
  refine ⟨T.1, T.2.1, ?_, ?_, ?_, ?_, ?_⟩
  · intro n h k
    have e : n ≠ p0 := by rintro rfl; omega
    have a := T.2.2.1 n h k
    rw [st_un e]
    refine ⟨a.1, fun i hi => ?_⟩
    rw [mv_lo it e (by omega) (by omega) (by omega)]
    exact a.2 i hi
  · intro n h k i hi
    by_cases e : n = p0
    · subst e
      rw [st_us] at hi
      obtain ⟨j, h1, h2, h3, _⟩ := row i (by omega)
      have a := tr_ch T h k h1
      rw [h3, st_un (fun q => h2 (tr_in T h k h1 (by assumption) (by rw [q, he])))]
      exact a
    · rw [st_un e] at hi
      have := tr_s24 T h
      have a := tr_ch T h k hi
      rw [mv_lo it e (by omega) (by omega) (by omega), st_un (fun q => e (by rw [q, hp] at a; omega))]
      exact a
  · intro n h k i j hi hj e2
    by_cases e : n = p0
    · subst e
      rw [st_us] at hi hj
      obtain ⟨i', h1, h2, h3, h4⟩ := row i (by omega)
      obtain ⟨j', g1, g2, g3, g4⟩ := row j (by omega)
      rw [h3, g3] at e2
      have := tr_in T h k h1 g1 e2
      omega
    · rw [st_un e] at hi hj
      have := tr_s24 T h
      rw [mv_lo it e (by omega) (by omega) (by omega), mv_lo it e (by omega) (by omega) (by omega)] at e2
      exact tr_in T h k hi hj e2
  · intro n p h e2
    by_cases e : n = n0
    · subst e; rw [st_us] at e2; omega
    · rw [st_un e] at e2
      obtain ⟨a, b, i, h1, h2⟩ := tr_pe T h e2
      refine ⟨a, b, ?_⟩
      by_cases z : p = p0
      · subst z
        have ne : i ≠ i0 := by rintro rfl; exact e (by rw [← h2, he])
        rw [st_us]
        by_cases l : i < i0
        · exact ⟨i, by omega, by rw [mv_lb it (by omega)]; exact h2⟩
        · refine ⟨i - 1, by omega, ?_⟩
          rw [mv_li it (by omega) (by omega), show i - 1 + 1 = i by omega]; exact h2
      · rw [st_un z]
        have := tr_s24 T a
        exact ⟨i, h1, by rw [mv_lo it z (by omega) (by omega) (by omega)]; exact h2⟩
  · obtain ⟨rk, hr⟩ := T.2.2.2.2.2.2
    refine ⟨rk, fun n p h e2 => ?_⟩
    by_cases e : n = n0
    · subst e; rw [st_us] at e2; omega
    · rw [st_un e] at e2; exact hr n p h e2
theorem tr_Tput (T : tr_T c kd pa sz it) {n0 p0 i0 : Nat} (hp0 : p0 < c) (hk0 : kd p0 = 0) (hn : n0 < c) (hr : pa n0 = 0) (hw : ¬ tr_w pa (p0 + 1) n0) (hi : i0 ≤ sz p0) :
    tr_T c kd (st_u pa n0 (p0 + 1)) (st_u sz p0 (sz p0 + 1)) (st_u (mv_r it (24 * p0) i0 (sz p0) 1) (24 * p0 + i0) n0) := by
  have c24 := tr_c24 T
  have ne0 : n0 ≠ p0 := by rintro rfl; exact hw (tr_wr pa _)
  have s2 := tr_sz2 T hp0 hk0 hn ne0 (by omega)
  have row : ∀ i, i ≤ sz p0 → (i = i0 ∧ st_u (mv_r it (24 * p0) i0 (sz p0) 1) (24 * p0 + i0) n0 (24 * p0 + i) = n0) ∨ ∃ j, j < sz p0 ∧ st_u (mv_r it (24 * p0) i0 (sz p0) 1) (24 * p0 + i0) n0 (24 * p0 + i) = it (24 * p0 + j) ∧ ((i < i0 ∧ j = i) ∨ (i0 < i ∧ i = j + 1)) := by
    intro i h
    by_cases l : i = i0
    · subst l; exact Or.inl ⟨rfl, st_us _ _ _⟩
    · refine Or.inr ?_
      rw [st_un (by omega)]
      by_cases l2 : i < i0
      · exact ⟨i, by omega, mv_rb it (by omega), Or.inl ⟨l2, rfl⟩⟩
      · exact ⟨i - 1, by omega, mv_ri it (by omega) (by omega), Or.inr ⟨by omega, by omega⟩⟩
  have oth : ∀ n i, n ≠ p0 → i < 24 → st_u (mv_r it (24 * p0) i0 (sz p0) 1) (24 * p0 + i0) n0 (24 * n + i) = it (24 * n + i) := by
    intro n i e h
    rw [st_un (by omega), mv_ro it e h (by omega)]
  have nc : ∀ j, j < sz p0 → it (24 * p0 + j) ≠ n0 := by
    intro j hj q
    have := tr_ch T hp0 hk0 hj
    rw [q, hr] at this
    omega
  refine ⟨T.1, T.2.1, ?_, ?_, ?_, ?_, ?_⟩
  · intro n h k
    have e : n ≠ p0 := by rintro rfl; omega
    have a := T.2.2.1 n h k
    rw [st_un e]
    refine ⟨a.1, fun i hi => ?_⟩
    rw [oth n i e (by omega)]
    exact a.2 i hi
  · intro n h k i hi
    by_cases e : n = p0
    · subst e
      rw [st_us] at hi
      rcases row i (by omega) with ⟨_, h3⟩ | ⟨j, h1, h3, _⟩
      · rw [h3, st_us]; exact ⟨hn, rfl⟩
      · have a := tr_ch T h k h1
        rw [h3, st_un (nc j h1)]
        exact a
    · rw [st_un e] at hi
      have := tr_s24 T h
      have a := tr_ch T h k hi
      rw [oth n i e (by omega), st_un (fun q => by rw [q, hr] at a; omega)]
      exact a
  · intro n h k i j hi hj e2
    by_cases e : n = p0
    · subst e
      rw [st_us] at hi hj
      rcases row i (by omega) with ⟨h1, h3⟩ | ⟨i', h1, h3, h4⟩
      · rcases row j (by omega) with ⟨g1, g3⟩ | ⟨j', g1, g3, g4⟩
        · omega
        · rw [h3, g3] at e2; exact absurd e2.symm (nc j' g1)
      · rcases row j (by omega) with ⟨g1, g3⟩ | ⟨j', g1, g3, g4⟩
        · rw [h3, g3] at e2; exact absurd e2 (nc i' h1)
        · rw [h3, g3] at e2
          have := tr_in T h k h1 g1 e2
          omega
    · rw [st_un e] at hi hj
      have := tr_s24 T h
      rw [oth n i e (by omega), oth n j e (by omega)] at e2
      exact tr_in T h k hi hj e2
  · intro n p h e2
    by_cases e : n = n0
    · subst e
      rw [st_us] at e2
      have e3 : p = p0 := by omega
      subst e3
      refine ⟨hp0, hk0, i0, by rw [st_us]; omega, st_us _ _ _⟩
    · rw [st_un e] at e2
      obtain ⟨a, b, i, h1, h2⟩ := tr_pe T h e2
      refine ⟨a, b, ?_⟩
      by_cases z : p = p0
      · subst z
        rw [st_us]
        by_cases l : i < i0
        · exact ⟨i, by omega, by rw [st_un (by omega), mv_rb it (by omega)]; exact h2⟩
        · refine ⟨i + 1, by omega, ?_⟩
          rw [st_un (by omega), mv_ri it (by omega) (by omega), show i + 1 - 1 = i by omega]; exact h2
      · rw [st_un z]
        have := tr_s24 T a
        exact ⟨i, h1, by rw [oth p i z (by omega)]; exact h2⟩
  · obtain ⟨rk, hr2⟩ := T.2.2.2.2.2.2
    refine ⟨fun m => cl_if (tr_w pa (m + 1) n0) (rk m + 1 + rk p0) (rk m), fun n p h e2 => ?_⟩
    dsimp only
    by_cases e : n = n0
    · subst e
      rw [st_us] at e2
      have e3 : p = p0 := by omega
      subst e3
      rw [cl_f hw, cl_t (tr_wr pa n)]
      omega
    · rw [st_un e] at e2
      have r := hr2 n p h e2
      by_cases w : tr_w pa (p + 1) n0
      · rw [cl_t w, cl_t (tr_wp e2 w)]; omega
      · rw [cl_f w, cl_f]
        · exact r
        · intro z
          rcases tr_wc z with z | z
          · exact e z
          · rw [e2] at z; exact w z
/-- letters alone are changed -/
theorem tr_Ttx (T : tr_T c kd pa sz it) {sz' it' : Nat → Nat} (h0 : ∀ n, n < c → kd n = 0 → sz' n = sz n ∧ ∀ i, i < 24 → it' (24 * n + i) = it (24 * n + i)) (h1 : ∀ n, n < c → kd n = 1 → sz' n ≤ 12 ∧ ∀ i, i < sz' n → it' (24 * n + i) ≤ 9) :
    tr_T c kd pa sz' it' := by
  refine ⟨T.1, T.2.1, h1, ?_, ?_, ?_, T.2.2.2.2.2.2⟩
  · intro n h k i hi
    have := tr_s24 T h
    rw [(h0 n h k).1] at hi
    rw [(h0 n h k).2 i (by omega)]
    exact tr_ch T h k hi
  · intro n h k i j hi hj e
    have := tr_s24 T h
    rw [(h0 n h k).1] at hi hj
    rw [(h0 n h k).2 i (by omega), (h0 n h k).2 j (by omega)] at e
    exact tr_in T h k hi hj e
  · intro n p h e
    obtain ⟨a, b, i, hi, g⟩ := tr_pe T h e
    have := tr_s24 T a
    exact ⟨a, b, i, by rw [(h0 p a b).1]; exact hi, by rw [(h0 p a b).2 i (by omega)]; exact g⟩
end
