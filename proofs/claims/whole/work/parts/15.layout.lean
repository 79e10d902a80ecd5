/-! the row of a tree: lengths and positions -/
def ly_s (f : Nat → Nat) : Nat → Nat
  | 0 => 0
  | k + 1 => ly_s f k + f k
theorem ly_sc {f g : Nat → Nat} : ∀ k, (∀ i, i < k → f i = g i) → ly_s f k = ly_s g k := by
  intro k
  induction k with
  | zero => intro _; rfl
  | succ k ih => intro h; show ly_s f k + f k = ly_s g k + g k; rw [ih (fun i hi => h i (by omega)), h k (by omega)]
theorem ly_sl {f g : Nat → Nat} : ∀ k, (∀ i, i < k → f i ≤ g i) → ly_s f k ≤ ly_s g k := by
  intro k
  induction k with
  | zero => intro _; exact Nat.le_refl _
  | succ k ih =>
    intro h
    have a := ih (fun i hi => h i (by omega))
    have b := h k (by omega)
    show ly_s f k + f k ≤ ly_s g k + g k
    omega
theorem ly_sa (f g : Nat → Nat) : ∀ k, ly_s (fun i => f i + g i) k = ly_s f k + ly_s g k := by
  intro k
  induction k with
  | zero => rfl
  | succ k ih => show ly_s (fun i => f i + g i) k + (f k + g k) = ly_s f k + f k + (ly_s g k + g k); omega
theorem ly_sz : ∀ k, ly_s (fun _ => 0) k = 0 := by
  intro k
  induction k with
  | zero => rfl
  | succ k ih => show ly_s (fun _ => 0) k + 0 = 0; omega
theorem ly_sw (f : Nat → Nat → Nat) (k : Nat) : ∀ l, ly_s (fun i => ly_s (fun j => f i j) k) l = ly_s (fun j => ly_s (fun i => f i j) l) k := by
  intro l
  induction l with
  | zero => exact (ly_sz k).symm
  | succ l ih =>
    show ly_s (fun i => ly_s (fun j => f i j) k) l + ly_s (fun j => f l j) k = ly_s (fun j => ly_s (fun i => f i j) l + f l j) k
    rw [ly_sa, ih]
theorem ly_sm (f : Nat → Nat) {i j : Nat} (h : i ≤ j) : ly_s f i ≤ ly_s f j := by
  induction j with
  | zero => rw [show i = 0 by omega]; exact Nat.le_refl _
  | succ j ih =>
    by_cases e : i = j + 1
    · subst e; exact Nat.le_refl _
    · have := ih (by omega)
      show ly_s f i ≤ ly_s f j + f j
      omega
theorem ly_sf (f : Nat → Nat) : ∀ k r, r < ly_s f k → ∃ i, i < k ∧ ly_s f i ≤ r ∧ r < ly_s f (i + 1) := by
  intro k
  induction k with
  | zero => intro r h; exact absurd h (by show ¬ r < 0; omega)
  | succ k ih =>
    intro r h
    by_cases z : r < ly_s f k
    · obtain ⟨i, a, b⟩ := ih r z
      exact ⟨i, by omega, b⟩
    · exact ⟨k, by omega, by omega, h⟩
theorem ly_s1 {f : Nat → Nat} {x : Nat} : ∀ k, (∀ i, i < k → f i = 0 ∨ f i = x) → (∀ i j, i < k → j < k → f i ≠ 0 → f j ≠ 0 → i = j) → ly_s f k ≤ x := by
  intro k
  induction k with
  | zero => intro _ _; exact Nat.zero_le x
  | succ k ih =>
    intro h inj
    have a := ih (fun i hi => h i (by omega)) (fun i j hi hj => inj i j (by omega) (by omega))
    show ly_s f k + f k ≤ x
    by_cases z : f k = 0
    · omega
    · have : ly_s f k = 0 := by
        rw [ly_sc (g := fun _ => 0) k, ly_sz]
        intro i hi
        apply Classical.byContradiction
        intro q
        have := inj i k (by omega) (by omega) q z
        omega
      rcases h k (by omega) with q | q <;> omega
theorem ly_se {n c x : Nat} (h : n < c) : ly_s (fun m => if m = n then x else 0) c = x := by
  have : ∀ k, ly_s (fun m => if m = n then x else 0) k = if n < k then x else 0 := by
    intro k
    induction k with
    | zero => rfl
    | succ k ih =>
      show ly_s (fun m => if m = n then x else 0) k + (if k = n then x else 0) = _
      rw [ih]
      by_cases a : n < k
      · rw [if_pos a, if_neg (by omega), if_pos (by omega)]; omega
      · by_cases b : k = n
        · rw [if_neg a, if_pos b, if_pos (by omega)]; omega
        · rw [if_neg a, if_neg b, if_neg (by omega)]
  rw [this, if_pos h]
section
variable {c : Nat} {kd pa sz it : Nat → Nat}
theorem tr_B (rk : Nat → Nat) : ∀ c, ∃ B, ∀ n, n < c → rk n < B := by
  intro c
  induction c with
  | zero => exact ⟨0, fun n h => by omega⟩
  | succ c ih =>
    obtain ⟨B, h⟩ := ih
    refine ⟨B + rk c + 1, fun n hn => ?_⟩
    by_cases e : n = c
    · subst e; omega
    · have := h n (by omega); omega
/-- from the leaves up -/
theorem tr_hi (T : tr_T c kd pa sz it) {Q : Nat → Prop} (h : ∀ n, n < c → (kd n = 0 → ∀ i, i < sz n → Q (it (24 * n + i))) → Q n) : ∀ n, n < c → Q n := by
  obtain ⟨rk, hr, _⟩ := tr_rk T
  obtain ⟨B, hB⟩ := tr_B rk c
  have : ∀ d n, n < c → B - rk n ≤ d → Q n := by
    intro d
    induction d with
    | zero => intro n hn z; have := hB n hn; omega
    | succ d ih =>
      intro n hn z
      refine h n hn (fun k i hi => ?_)
      have a := tr_ch T hn k hi
      have b := hr _ _ a.1 a.2
      have := hB n hn
      exact ih _ a.1 (by omega)
  exact fun n hn => this _ n hn (Nat.le_refl _)
/-- from the tops down -/
theorem tr_ri (T : tr_T c kd pa sz it) {Q : Nat → Prop} (h : ∀ n, n < c → (∀ p, pa n = p + 1 → Q p) → Q n) : ∀ n, n < c → Q n := by
  obtain ⟨rk, hr, _⟩ := tr_rk T
  have : ∀ d n, n < c → rk n < d → Q n := by
    intro d
    induction d with
    | zero => intro n hn z; omega
    | succ d ih =>
      intro n hn z
      refine h n hn (fun p e => ?_)
      have b := hr _ _ hn e
      exact ih p (tr_pe T hn e).1 (by omega)
  exact fun n hn => this _ n hn (Nat.lt_succ_self _)
theorem ly_L (T : tr_T c kd pa sz it) (w : Nat → Nat) : ∃ L : Nat → Nat, ∀ n, n < c → L n = w n + (if kd n = 0 then ly_s (fun i => L (it (24 * n + i))) (sz n) else 0) := by
  obtain ⟨rk, hr, _⟩ := tr_rk T
  obtain ⟨B, hB⟩ := tr_B rk c
  have : ∀ d, ∃ L : Nat → Nat, ∀ n, n < c → B - rk n ≤ d → L n = w n + (if kd n = 0 then ly_s (fun i => L (it (24 * n + i))) (sz n) else 0) := by
    intro d
    induction d with
    | zero => exact ⟨fun _ => 0, fun n hn z => by have := hB n hn; omega⟩
    | succ d ih =>
      obtain ⟨L, hL⟩ := ih
      refine ⟨fun n => if B - rk n = d + 1 then w n + (if kd n = 0 then ly_s (fun i => L (it (24 * n + i))) (sz n) else 0) else L n, fun n hn z => ?_⟩
      have eq : kd n = 0 → ly_s (fun i => L (it (24 * n + i))) (sz n) = ly_s (fun i => if B - rk (it (24 * n + i)) = d + 1 then w (it (24 * n + i)) + (if kd (it (24 * n + i)) = 0 then ly_s (fun i_1 => L (it (24 * it (24 * n + i) + i_1))) (sz (it (24 * n + i))) else 0) else L (it (24 * n + i))) (sz n) := by
        intro k
        apply ly_sc
        intro i hi
        have a := tr_ch T hn k hi
        have b := hr _ _ a.1 a.2
        have := hB _ hn
        rw [if_neg (by omega)]
      try dsimp only
      by_cases e : B - rk n = d + 1
      · rw [if_pos e]
        by_cases k : kd n = 0
        · rw [if_pos k, if_pos k, eq k]
        · rw [if_neg k, if_neg k]
      · rw [if_neg e, hL n hn (by omega)]
        by_cases k : kd n = 0
        · rw [if_pos k, if_pos k, eq k]
        · rw [if_neg k, if_neg k]
  obtain ⟨L, hL⟩ := this B
  exact ⟨L, fun n hn => hL n hn (by omega)⟩
/-- what is summed over a tree is no more than over all nodes -/
theorem ly_Lb (T : tr_T c kd pa sz it) {w L : Nat → Nat} (hL : ∀ n, n < c → L n = w n + (if kd n = 0 then ly_s (fun i => L (it (24 * n + i))) (sz n) else 0)) : ∀ n, n < c → L n ≤ ly_s (fun m => cl_if (tr_w pa (m + 1) n) (w m) 0) c := by
  refine tr_hi T ?_
  intro n hn ih
  rw [hL n hn]
  by_cases k : kd n = 0
  · rw [if_pos k]
    have h1 : ly_s (fun i => L (it (24 * n + i))) (sz n) ≤ ly_s (fun i => ly_s (fun m => cl_if (tr_w pa (m + 1) (it (24 * n + i))) (w m) 0) c) (sz n) := ly_sl _ (fun i hi => ih k i hi)
    rw [ly_sw (fun i m => cl_if (tr_w pa (m + 1) (it (24 * n + i))) (w m) 0) c (sz n)] at h1
    have h2 := ly_se (x := w n) hn
    have h3 := ly_sa (fun m => if m = n then w n else 0) (fun m => ly_s (fun i => cl_if (tr_w pa (m + 1) (it (24 * n + i))) (w m) 0) (sz n)) c
    have h4 : ly_s (fun m => (if m = n then w n else 0) + ly_s (fun i => cl_if (tr_w pa (m + 1) (it (24 * n + i))) (w m) 0) (sz n)) c ≤ ly_s (fun m => cl_if (tr_w pa (m + 1) n) (w m) 0) c := by
      apply ly_sl
      intro m hm
      have z : ¬ tr_w pa (m + 1) n ∨ m = n → ly_s (fun i => cl_if (tr_w pa (m + 1) (it (24 * n + i))) (w m) 0) (sz n) = 0 := by
        intro q
        rw [ly_sc (g := fun _ => 0) (sz n), ly_sz]
        intro i hi
        try dsimp only
        have a := tr_ch T hn k hi
        apply cl_f
        intro y
        rcases q with q | q
        · exact q (tr_wt y (tr_wp a.2 (tr_wr _ _)))
        · subst q; exact tr_ac T a.1 a.2 y
      by_cases e : m = n
      · rw [z (Or.inr e), if_pos e, e, cl_t (tr_wr _ _)]; omega
      · rw [if_neg e]
        by_cases y : tr_w pa (m + 1) n
        · rw [cl_t y, Nat.zero_add]
          apply ly_s1
          · intro i hi
            by_cases q : tr_w pa (m + 1) (it (24 * n + i))
            · right; rw [cl_t q]
            · left; rw [cl_f q]
          · intro i j hi hj qi qj
            have ri : tr_w pa (m + 1) (it (24 * n + i)) := Classical.byContradiction fun q => qi (cl_f q _ _)
            have rj : tr_w pa (m + 1) (it (24 * n + j)) := Classical.byContradiction fun q => qj (cl_f q _ _)
            have := pl_odd1 T hn hm ⟨i, hi, k, ri, rfl⟩ ⟨j, hj, k, rj, rfl⟩
            omega
        · rw [z (Or.inl y)]; omega
    rw [h3, h2] at h4
    omega
  · rw [if_neg k]
    have h2 := ly_se (x := w n) hn
    have h4 : ly_s (fun m => if m = n then w n else 0) c ≤ ly_s (fun m => cl_if (tr_w pa (m + 1) n) (w m) 0) c := by
      apply ly_sl
      intro m hm
      try dsimp only
      by_cases e : m = n
      · rw [if_pos e, e, cl_t (tr_wr _ _)]; omega
      · rw [if_neg e]; omega
    omega
theorem ly_Lk (T : tr_T c kd pa sz it) {w L : Nat → Nat} {K : Nat} (hw : ∀ m, m < c → w m ≤ K) (hL : ∀ n, n < c → L n = w n + (if kd n = 0 then ly_s (fun i => L (it (24 * n + i))) (sz n) else 0)) : ∀ n, n < c → L n ≤ 24 * K := by
  intro n hn
  have a := ly_Lb T hL n hn
  have b : ly_s (fun m => cl_if (tr_w pa (m + 1) n) (w m) 0) c ≤ ly_s (fun _ => K) c := by
    apply ly_sl
    intro m hm
    try dsimp only
    by_cases y : tr_w pa (m + 1) n
    · rw [cl_t y]; exact hw m hm
    · rw [cl_f y]; omega
  have d : ∀ c, ly_s (fun _ => K) c = c * K := by
    intro c
    induction c with
    | zero => exact (Nat.zero_mul K).symm
    | succ c ih => show ly_s (fun _ => K) c + K = _; rw [ih, Nat.succ_mul]
  rw [d] at b
  have := Nat.mul_le_mul_right K (tr_c24 T)
  omega
/-- the layout: L a node's length, op its opening, N how many nodes it holds -/
def ly_Q (c : Nat) (kd pa sz it L op N : Nat → Nat) : Prop :=
  (∀ n, n < c → kd n = 1 → L n = 2 + sz n) ∧
  (∀ n, n < c → kd n = 0 → L n = 2 + ly_s (fun j => L (it (24 * n + j))) (sz n)) ∧
  (∀ n, n < c → pa n = 0 → op n = 0) ∧
  (∀ n i, n < c → kd n = 0 → i < sz n → op (it (24 * n + i)) = op n + 1 + ly_s (fun j => L (it (24 * n + j))) i) ∧
  (∀ n, n < c → L n ≤ 336) ∧
  (∀ n, n < c → kd n = 1 → N n = 1) ∧
  (∀ n, n < c → kd n = 0 → N n = 1 + ly_s (fun j => N (it (24 * n + j))) (sz n)) ∧
  (∀ n, n < c → N n ≤ 24)
theorem ly_ex (T : tr_T c kd pa sz it) : ∃ L op N : Nat → Nat, ly_Q c kd pa sz it L op N := by
  obtain ⟨L, hL⟩ := ly_L T (fun n => 2 + if kd n = 1 then sz n else 0)
  obtain ⟨N, hN⟩ := ly_L T (fun _ => 1)
  have ixs : ∀ n, ∃ i, n < c → ∀ p, pa n = p + 1 → i < sz p ∧ it (24 * p + i) = n := by
    intro n
    by_cases hn : n < c
    · cases e : pa n with
      | zero => exact ⟨0, fun _ p h => by omega⟩
      | succ q =>
        obtain ⟨_, _, i, a, b⟩ := tr_pe T hn e
        refine ⟨i, fun _ p h => ?_⟩
        have : q = p := by omega
        subst this
        exact ⟨a, b⟩
    · exact ⟨0, fun h => absurd h hn⟩
  obtain ⟨ix, hix⟩ : ∃ ix : Nat → Nat, ∀ n, n < c → ∀ p, pa n = p + 1 → ix n < sz p ∧ it (24 * p + ix n) = n := ⟨fun n => Classical.choose (ixs n), fun n => Classical.choose_spec (ixs n)⟩
  obtain ⟨rk, hr, _⟩ := tr_rk T
  have opx : ∀ d, ∃ op : Nat → Nat, ∀ n, n < c → rk n < d → (pa n = 0 → op n = 0) ∧ ∀ p, pa n = p + 1 → op n = op p + 1 + ly_s (fun j => L (it (24 * p + j))) (ix n) := by
    intro d
    induction d with
    | zero => exact ⟨fun _ => 0, fun n _ z => by omega⟩
    | succ d ih =>
      obtain ⟨op, h⟩ := ih
      refine ⟨fun n => if rk n = d then (if pa n = 0 then 0 else op (pa n - 1) + 1 + ly_s (fun j => L (it (24 * (pa n - 1) + j))) (ix n)) else op n, fun n hn z => ⟨fun e => ?_, fun p e => ?_⟩⟩
      · try dsimp only
        by_cases q : rk n = d
        · rw [if_pos q, if_pos e]
        · rw [if_neg q]; exact (h n hn (by omega)).1 e
      · have r := hr n p hn e
        try dsimp only
        rw [if_neg (show rk p ≠ d by omega)]
        by_cases q : rk n = d
        · rw [if_pos q, if_neg (by omega), show pa n - 1 = p by omega]
        · rw [if_neg q]; exact (h n hn (by omega)).2 p e
  obtain ⟨B, hB⟩ := tr_B rk c
  obtain ⟨op, hop⟩ := opx B
  refine ⟨L, op, N, ?_, ?_, ?_, ?_, ?_, ?_, ?_, ?_⟩
  · intro n hn k
    have := hL n hn
    try dsimp only at this
    rw [if_pos k, if_neg (by omega)] at this
    omega
  · intro n hn k
    have := hL n hn
    try dsimp only at this
    rw [if_neg (by omega), if_pos k] at this
    omega
  · intro n hn e
    exact (hop n hn (hB n hn)).1 e
  · intro n i hn k hi
    have a := tr_ch T hn k hi
    have b := hix _ a.1 n a.2
    have e := tr_in T hn k b.1 hi b.2
    have := (hop _ a.1 (hB _ a.1)).2 n a.2
    rw [e] at this
    exact this
  · intro n hn
    have := ly_Lk T (K := 14) (fun m hm => ?_) hL n hn
    · omega
    · try dsimp only
      split
      · rename_i k; have := (T.2.2.1 m hm k).1; omega
      · omega
  · intro n hn k
    have := hN n hn
    rw [if_neg (by omega)] at this
    omega
  · intro n hn k
    have := hN n hn
    rw [if_pos k] at this
    exact this
  · intro n hn
    have := ly_Lk T (K := 1) (fun m hm => Nat.le_refl _) hN n hn
    omega
variable {L op N : Nat → Nat}
theorem ly_L2 (Q : ly_Q c kd pa sz it L op N) (T : tr_T c kd pa sz it) {n : Nat} (hn : n < c) : 2 ≤ L n := by
  rcases tr_k1 T hn with k | k
  · rw [Q.2.1 n hn k]; omega
  · rw [Q.1 n hn k]; omega
theorem ly_ch (Q : ly_Q c kd pa sz it L op N) {n i : Nat} (hn : n < c) (k : kd n = 0) (hi : i < sz n) : op (it (24 * n + i)) = op n + 1 + ly_s (fun j => L (it (24 * n + j))) i := Q.2.2.2.1 n i hn k hi
theorem ly_cl (Q : ly_Q c kd pa sz it L op N) {n i : Nat} (hn : n < c) (k : kd n = 0) (hi : i < sz n) : op (it (24 * n + i)) + L (it (24 * n + i)) + 1 ≤ op n + L n := by
  rw [ly_ch Q hn k hi, Q.2.1 n hn k]
  have : ly_s (fun j => L (it (24 * n + j))) (i + 1) ≤ ly_s (fun j => L (it (24 * n + j))) (sz n) := ly_sm _ (by omega)
  have e : ly_s (fun j => L (it (24 * n + j))) (i + 1) = ly_s (fun j => L (it (24 * n + j))) i + L (it (24 * n + i)) := rfl
  omega
/-- what is within lies inside -/
theorem ly_in (Q : ly_Q c kd pa sz it L op N) (T : tr_T c kd pa sz it) {m n : Nat} (hm : m < c) (h : tr_w pa (m + 1) n) : op n ≤ op m ∧ op m + L m ≤ op n + L n ∧ (m = n ∨ (op n < op m ∧ op m + L m < op n + L n)) := by
  refine tr_ind (Q := fun x => ∀ m, x = m + 1 → m < c → op n ≤ op m ∧ op m + L m ≤ op n + L n ∧ (m = n ∨ (op n < op m ∧ op m + L m < op n + L n))) ?_ ?_ (m + 1) h m rfl hm
  · intro m e _
    have : m = n := by omega
    subst this
    exact ⟨Nat.le_refl _, Nat.le_refl _, Or.inl rfl⟩
  · intro v hv ih m e hm
    have : v = m := by omega
    subst this
    cases e2 : pa v with
    | zero => rw [e2] at hv; exact absurd hv tr_w0
    | succ p =>
      obtain ⟨hp, kp, i, hi, he⟩ := tr_pe T hm e2
      have a := ih p e2 hp
      have b := ly_ch Q hp kp hi
      have d := ly_cl Q hp kp hi
      rw [he] at b d
      exact ⟨by omega, by omega, Or.inr ⟨by omega, by omega⟩⟩
/-- what lies inside is within -/
theorem ly_lam (Q : ly_Q c kd pa sz it L op N) (T : tr_T c kd pa sz it) : ∀ n, n < c → ∀ m d, m < c → d < c → tr_w pa (m + 1) n → tr_w pa (d + 1) n → op d ≤ op m → op m < op d + L d → tr_w pa (m + 1) d := by
  refine tr_hi T ?_
  intro n hn ih m d hm hd wm wd h1 h2
  have split : ∀ v, v < c → tr_w pa (v + 1) n → v = n ∨ ∃ i, i < sz n ∧ kd n = 0 ∧ tr_w pa (v + 1) (it (24 * n + i)) := by
    intro v hv w
    rcases tr_wl w with e | ⟨q, e, g⟩
    · left; omega
    · obtain ⟨_, k, i, hi, he⟩ := tr_pe T (tr_lt T hv g) e
      right
      exact ⟨i, hi, k, by rw [he]; exact g⟩
  rcases split d hd wd with e | ⟨i, hi, k, gd⟩
  · subst e; exact wm
  · have bd := ly_in Q T hd gd
    have ci := ly_ch Q hn k hi
    rcases split m hm wm with e | ⟨j, hj, _, gm⟩
    · subst e; omega
    · have bm := ly_in Q T hm gm
      have cj := ly_ch Q hn k hj
      have sx : ∀ a b, a < b → ly_s (fun j => L (it (24 * n + j))) a + L (it (24 * n + a)) ≤ ly_s (fun j => L (it (24 * n + j))) b := fun a b hab => ly_sm (fun j => L (it (24 * n + j))) (i := a + 1) (j := b) (by omega)
      rcases Nat.lt_trichotomy i j with l | l | l
      · have := sx i j l; omega
      · subst l
        exact ih k i hi m d hm hd gm gd h1 h2
      · have := sx j i l
        have l2 := ly_L2 Q T hm
        omega
/-- every position of a row is an opening, a closing or a letter -/
theorem ly_cov (Q : ly_Q c kd pa sz it L op N) (T : tr_T c kd pa sz it) : ∀ n, n < c → ∀ r, op n ≤ r → r < op n + L n → ∃ m, m < c ∧ tr_w pa (m + 1) n ∧ (r = op m ∨ r + 1 = op m + L m ∨ (kd m = 1 ∧ ∃ i, i < sz m ∧ r = op m + 1 + i)) := by
  refine tr_hi T ?_
  intro n hn ih r h1 h2
  by_cases e1 : r = op n
  · exact ⟨n, hn, tr_wr _ _, Or.inl e1⟩
  · by_cases e2 : r + 1 = op n + L n
    · exact ⟨n, hn, tr_wr _ _, Or.inr (Or.inl e2)⟩
    · rcases tr_k1 T hn with k | k
      · have e := Q.2.1 n hn k
        obtain ⟨i, hi, a, b⟩ := ly_sf (fun j => L (it (24 * n + j))) (sz n) (r - op n - 1) (by omega)
        have e3 : ly_s (fun j => L (it (24 * n + j))) (i + 1) = ly_s (fun j => L (it (24 * n + j))) i + L (it (24 * n + i)) := rfl
        have d := ly_ch Q hn k hi
        obtain ⟨m, hm, w, o⟩ := ih k i hi r (by omega) (by omega)
        exact ⟨m, hm, tr_wt w (tr_wp (tr_ch T hn k hi).2 (tr_wr _ _)), o⟩
      · have e := Q.1 n hn k
        exact ⟨n, hn, tr_wr _ _, Or.inr (Or.inr ⟨k, r - op n - 1, by omega, by omega⟩)⟩
/-- the gap of a place -/
def ly_g (kd it L op : Nat → Nat) (v o : Nat) : Nat := op v + 1 + (if kd v = 1 then o else ly_s (fun j => L (it (24 * v + j))) o)
theorem ly_gb (Q : ly_Q c kd pa sz it L op N) (T : tr_T c kd pa sz it) {v o : Nat} (h : pl_ok c sz v o) : op v < ly_g kd it L op v o ∧ ly_g kd it L op v o < op v + L v := by
  unfold ly_g
  have := h.2
  rcases tr_k1 T h.1 with k | k
  · rw [if_neg (by omega), Q.2.1 v h.1 k]
    have := ly_sm (fun j => L (it (24 * v + j))) h.2
    omega
  · rw [if_pos k, Q.1 v h.1 k]; omega
/-- gaps in order: places in order -/
theorem ly_ord (Q : ly_Q c kd pa sz it L op N) (T : tr_T c kd pa sz it) {v o v' o' : Nat} (h : pl_ok c sz v o) (h' : pl_ok c sz v' o') (hg : ly_g kd it L op v o ≤ ly_g kd it L op v' o') : pl_le c kd pa sz it v o v' o' := by
  intro w x y hw hx hy
  apply Classical.byContradiction
  intro lt
  have key : ∀ v o x, pl_ok c sz v o → pl_cd kd pa sz it w v o x → (v = w ∧ x = 2 * o) ∨ (kd w = 0 ∧ ∃ j, j < sz w ∧ x = 2 * j + 1 ∧ op w + 1 + ly_s (fun j => L (it (24 * w + j))) j < ly_g kd it L op v o ∧ ly_g kd it L op v o < op w + 1 + ly_s (fun j => L (it (24 * w + j))) (j + 1)) := by
    intro v o x h hx
    rcases hx with e | ⟨j, hj, k, g, e⟩
    · exact Or.inl e
    · refine Or.inr ⟨k, j, hj, e, ?_⟩
      have a := ly_in Q T h.1 g
      have b := ly_gb Q T h
      have d := ly_ch Q hw k hj
      have e3 : ly_s (fun j => L (it (24 * w + j))) (j + 1) = ly_s (fun j => L (it (24 * w + j))) j + L (it (24 * w + j)) := rfl
      omega
  have mono : ∀ a b, a ≤ b → ly_s (fun j => L (it (24 * w + j))) a ≤ ly_s (fun j => L (it (24 * w + j))) b := fun a b hab => ly_sm _ hab
  rcases key v o x h hx with ⟨e, ex⟩ | ⟨k, j, hj, ex, g1, g2⟩
  · subst e
    rcases key v' o' y h' hy with ⟨e', ey⟩ | ⟨k', j', hj', ey, g1', g2'⟩
    · subst e'
      have ho := h.2
      have strict : kd v' = 0 → ly_s (fun j => L (it (24 * v' + j))) (o' + 1) ≤ ly_s (fun j => L (it (24 * v' + j))) o := fun _ => mono (o' + 1) o (by omega)
      unfold ly_g at hg
      rcases tr_k1 T hw with k | k
      · rw [if_neg (by omega), if_neg (by omega)] at hg
        have s := strict k
        have e3 : ly_s (fun j => L (it (24 * v' + j))) (o' + 1) = ly_s (fun j => L (it (24 * v' + j))) o' + L (it (24 * v' + o')) := rfl
        have l2 := ly_L2 Q T (tr_ch T hw k (i := o') (by omega)).1
        omega
      · rw [if_pos k, if_pos k] at hg
        omega
    · have e : ly_g kd it L op v o = op v + 1 + ly_s (fun j => L (it (24 * v + j))) o := by unfold ly_g; rw [if_neg (by omega)]
      have := mono (j' + 1) o (by omega)
      omega
  · rcases key v' o' y h' hy with ⟨e', ey⟩ | ⟨k', j', hj', ey, g1', g2'⟩
    · subst e'
      have e : ly_g kd it L op v' o' = op v' + 1 + ly_s (fun j => L (it (24 * v' + j))) o' := by unfold ly_g; rw [if_neg (by omega)]
      have := mono o' j (by omega)
      omega
    · have := mono (j' + 1) j (by omega)
      omega
end
