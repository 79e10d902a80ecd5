/-! places, their order told by codes at every common ancestor, and what each change of the forest does to it -/
def pl_od (kd pa sz it : Nat → Nat) (w v x : Nat) : Prop := ∃ j, j < sz w ∧ kd w = 0 ∧ tr_w pa (v + 1) (it (24 * w + j)) ∧ x = 2 * j + 1
def pl_cd (kd pa sz it : Nat → Nat) (w v o x : Nat) : Prop := (v = w ∧ x = 2 * o) ∨ pl_od kd pa sz it w v x
def pl_le (c : Nat) (kd pa sz it : Nat → Nat) (v o v' o' : Nat) : Prop := ∀ w x y, w < c → pl_cd kd pa sz it w v o x → pl_cd kd pa sz it w v' o' y → x ≤ y
def pl_sm (pa : Nat → Nat) (v v' : Nat) : Prop := ∃ w, tr_w pa (v + 1) w ∧ tr_w pa (v' + 1) w
def pl_ok (c : Nat) (sz : Nat → Nat) (v o : Nat) : Prop := v < c ∧ o ≤ sz v
def pl_R (c : Nat) (kd pa sz it : Nat → Nat) (v o v' o' : Nat) : Prop := pl_sm pa v v' ∧ pl_le c kd pa sz it v o v' o'
def pl_P (c : Nat) (kd pa sz it pn po : Nat → Nat) : Prop := (∀ k, k < 8 → pl_ok c sz (pn k) (po k)) ∧ ∀ r, r < 4 → pl_R c kd pa sz it (pn (2 * r)) (po (2 * r)) (pn (2 * r + 1)) (po (2 * r + 1))
def mp_n (F : Nat → Nat → Nat × Nat) (pn po : Nat → Nat) : Nat → Nat := fun k => if k < 8 then (F (pn k) (po k)).1 else pn k
def mp_o (F : Nat → Nat → Nat × Nat) (pn po : Nat → Nat) : Nat → Nat := fun k => if k < 8 then (F (pn k) (po k)).2 else po k
theorem mp_n1 {F : Nat → Nat → Nat × Nat} {pn po : Nat → Nat} {k : Nat} (h : k < 8) : mp_n F pn po k = (F (pn k) (po k)).1 := if_pos h
theorem mp_o1 {F : Nat → Nat → Nat × Nat} {pn po : Nat → Nat} {k : Nat} (h : k < 8) : mp_o F pn po k = (F (pn k) (po k)).2 := if_pos h
theorem pl_map {c c' : Nat} {kd pa sz it pn po kd' pa' sz' it' : Nat → Nat} (F : Nat → Nat → Nat × Nat) (ok : Nat → Nat → Prop) (P : pl_P c kd pa sz it pn po) (hk : ∀ k, k < 8 → ok (pn k) (po k))
    (h1 : ∀ v o, ok v o → pl_ok c' sz' (F v o).1 (F v o).2)
    (h2 : ∀ v o v' o', ok v o → ok v' o' → pl_R c kd pa sz it v o v' o' → pl_R c' kd' pa' sz' it' (F v o).1 (F v o).2 (F v' o').1 (F v' o').2) :
    pl_P c' kd' pa' sz' it' (mp_n F pn po) (mp_o F pn po) := by
  refine ⟨fun k h => ?_, fun r h => ?_⟩
  · rw [mp_n1 h, mp_o1 h]; exact h1 _ _ (hk k h)
  · rw [mp_n1 (by omega), mp_o1 (by omega), mp_n1 (by omega), mp_o1 (by omega)]
    exact h2 _ _ _ _ (hk _ (by omega)) (hk _ (by omega)) (P.2 r h)
section
variable {c : Nat} {kd pa sz it : Nat → Nat}
theorem pl_oself (T : tr_T c kd pa sz it) {w x : Nat} (hw : w < c) (h : pl_od kd pa sz it w w x) : False := by
  obtain ⟨j, hj, k, g, _⟩ := h
  have := tr_ch T hw k hj
  exact tr_ac T this.1 this.2 g
theorem pl_odd1 (T : tr_T c kd pa sz it) {w v x y : Nat} (hw : w < c) (hv : v < c) (h : pl_od kd pa sz it w v x) (g : pl_od kd pa sz it w v y) : x = y := by
  obtain ⟨j, hj, k, h1, rfl⟩ := h
  obtain ⟨i, hi, _, g1, rfl⟩ := g
  have a := tr_ch T hw k hj
  have b := tr_ch T hw k hi
  have e : it (24 * w + j) = it (24 * w + i) := by
    rcases tr_wcmp h1 g1 with z | z
    · rcases tr_wc z with e | z
      · exact e
      · rw [a.2] at z; exact absurd z (tr_ac T b.1 b.2)
    · rcases tr_wc z with e | z
      · exact e.symm
      · rw [b.2] at z; exact absurd z (tr_ac T a.1 a.2)
  rw [tr_in T hw k hj hi e]
theorem pl_cd1 (T : tr_T c kd pa sz it) {w v o x y : Nat} (hw : w < c) (hv : v < c) (h : pl_cd kd pa sz it w v o x) (g : pl_cd kd pa sz it w v o y) : x = y := by
  rcases h with ⟨e, rfl⟩ | h
  · subst e
    rcases g with ⟨_, rfl⟩ | g
    · rfl
    · exact (pl_oself T hw g).elim
  · rcases g with ⟨e, rfl⟩ | g
    · subst e; exact (pl_oself T hw h).elim
    · exact pl_odd1 T hw hv h g
theorem pl_Rr (T : tr_T c kd pa sz it) {v o : Nat} (hv : v < c) : pl_R c kd pa sz it v o v o :=
  ⟨⟨v, tr_wr pa v, tr_wr pa v⟩, fun _ _ _ hw h g => Nat.le_of_eq (pl_cd1 T hw hv h g)⟩
theorem pl_oup (T : tr_T c kd pa sz it) {w a p x : Nat} (hw : w < c) (e : pa a = p + 1) (ne : w ≠ p) (h : pl_od kd pa sz it w a x) : pl_od kd pa sz it w p x := by
  obtain ⟨j, hj, k, g, rfl⟩ := h
  refine ⟨j, hj, k, ?_, rfl⟩
  rcases tr_wc g with q | g
  · have := (tr_ch T hw k hj).2
    rw [← q, e] at this
    omega
  · rw [e] at g; exact g
theorem pl_odn {w a p x : Nat} (e : pa a = p + 1) (h : pl_od kd pa sz it w p x) : pl_od kd pa sz it w a x := by
  obtain ⟨j, hj, k, g, rfl⟩ := h
  exact ⟨j, hj, k, tr_wp e g, rfl⟩
theorem pl_oat (T : tr_T c kd pa sz it) {p i x : Nat} (hp : p < c) (hk : kd p = 0) (hi : i < sz p) (h : pl_od kd pa sz it p (it (24 * p + i)) x) : x = 2 * i + 1 :=
  pl_odd1 T hp (tr_ch T hp hk hi).1 h ⟨i, hi, hk, tr_wr _ _, rfl⟩
theorem pl_otx {w v x : Nat} (k : kd w = 1) (h : pl_od kd pa sz it w v x) : False := by
  obtain ⟨j, hj, k', _⟩ := h
  omega
/-- nothing is within a text but itself -/
theorem pl_wtx (T : tr_T c kd pa sz it) {v t : Nat} (hv : v < c) (k : kd t = 1) (h : tr_w pa (v + 1) t) : v = t := by
  rcases tr_wl h with e | ⟨q, e, g⟩
  · omega
  · have := (tr_pe T (tr_lt T hv g) e).2.1
    omega
/-- the codes when letters alone are changed -/
theorem pl_ctx {sz' it' : Nat → Nat} (h0 : ∀ n, n < c → kd n = 0 → sz' n = sz n ∧ ∀ i, i < 24 → it' (24 * n + i) = it (24 * n + i)) (T : tr_T c kd pa sz it) {w v o x : Nat} (hw : w < c) (h : pl_cd kd pa sz' it' w v o x) : pl_cd kd pa sz it w v o x := by
  rcases h with h | ⟨j, hj, k, g, e⟩
  · exact Or.inl h
  · have s := tr_s24 T hw
    rw [(h0 w hw k).1] at hj
    rw [(h0 w hw k).2 j (by omega)] at g
    exact Or.inr ⟨j, hj, k, g, e⟩
/-- letters of one text exchanged -/
def pl_ex (t : Nat) (g : Nat → Nat) (v o : Nat) : Nat × Nat := if v = t then (t, g o) else (v, o)
theorem pl_Rex (T : tr_T c kd pa sz it) {sz' it' : Nat → Nat} (h0 : ∀ n, n < c → kd n = 0 → sz' n = sz n ∧ ∀ i, i < 24 → it' (24 * n + i) = it (24 * n + i)) {t : Nat} (kt : kd t = 1) {g : Nat → Nat} (mono : ∀ a b, a ≤ b → g a ≤ g b) {v o v' o' : Nat} (R : pl_R c kd pa sz it v o v' o') (ht : t < c) :
    pl_R c kd pa sz' it' (pl_ex t g v o).1 (pl_ex t g v o).2 (pl_ex t g v' o').1 (pl_ex t g v' o').2 := by
  have n1 : ∀ v o, (pl_ex t g v o).1 = v := by intro v o; unfold pl_ex; split; · rename_i e; exact e.symm
                                               · rfl
  rw [n1, n1]
  refine ⟨R.1, fun w x y hw hx hy => ?_⟩
  have hx := pl_ctx h0 T hw hx
  have hy := pl_ctx h0 T hw hy
  have bk : ∀ v o x, pl_cd kd pa sz it w v (pl_ex t g v o).2 x → (w = t ∧ v = t ∧ x = 2 * g o) ∨ (w ≠ t ∧ pl_cd kd pa sz it w v o x) := by
    intro v o x h
    by_cases e : w = t
    · subst e
      rcases h with ⟨e2, e3⟩ | h
      · unfold pl_ex at e3
        rw [if_pos e2] at e3
        exact Or.inl ⟨rfl, e2, e3⟩
      · exact (pl_otx kt h).elim
    · refine Or.inr ⟨e, ?_⟩
      rcases h with ⟨e2, e3⟩ | h
      · unfold pl_ex at e3
        rw [if_neg (by omega)] at e3
        exact Or.inl ⟨e2, e3⟩
      · exact Or.inr h
  rcases bk v o x hx with ⟨e1, e2, e3⟩ | ⟨e1, h1⟩
  · rcases bk v' o' y hy with ⟨f1, f2, f3⟩ | ⟨f1, h2⟩
    · have := R.2 t (2 * o) (2 * o') ht (Or.inl ⟨e2, rfl⟩) (Or.inl ⟨f2, rfl⟩)
      have := mono o o' (by omega)
      omega
    · omega
  · rcases bk v' o' y hy with ⟨f1, f2, f3⟩ | ⟨f1, h2⟩
    · omega
    · exact R.2 w x y hw h1 h2
/-- a node is taken out -/
noncomputable def pl_tk (pa : Nat → Nat) (n0 p0 i0 v o : Nat) : Nat × Nat := cl_if (tr_w pa (v + 1) n0) (p0, i0) (if v = p0 ∧ i0 < o then (v, o - 1) else (v, o))
def pl_tf (p0 i0 w x : Nat) : Nat := if w = p0 then (if x ≤ 2 * i0 then x else if x = 2 * i0 + 1 then 2 * i0 else x - 2) else x
theorem pl_tm {p0 i0 w x y : Nat} (h : x ≤ y) : pl_tf p0 i0 w x ≤ pl_tf p0 i0 w y := by
  unfold pl_tf
  split
  · split <;> split <;> (try split) <;> (try split) <;> omega
  · exact h
theorem pl_tcd (T : tr_T c kd pa sz it) {n0 p0 i0 : Nat} (hn : n0 < c) (hp : pa n0 = p0 + 1) (hi : i0 < sz p0) (he : it (24 * p0 + i0) = n0) {w v o x' : Nat} (hw : w < c) (hv : v < c)
    (h : pl_cd kd (st_u pa n0 0) (st_u sz p0 (sz p0 - 1)) (mv_l it (24 * p0) (i0 + 1) (sz p0) 1) w (pl_tk pa n0 p0 i0 v o).1 (pl_tk pa n0 p0 i0 v o).2 x') :
    ∃ x, pl_cd kd pa sz it w v o x ∧ x' = pl_tf p0 i0 w x := by
  obtain ⟨hp0, hk0, _⟩ := tr_pe T hn hp
  have s0 := tr_s24 T hp0
  have sw := tr_s24 T hw
  have odd : ∀ u, pl_od kd (st_u pa n0 0) (st_u sz p0 (sz p0 - 1)) (mv_l it (24 * p0) (i0 + 1) (sz p0) 1) w u x' → ∃ x, pl_od kd pa sz it w u x ∧ x' = pl_tf p0 i0 w x := by
    rintro u ⟨j, hj, k, g, rfl⟩
    have g := tr_e1 g
    by_cases e : w = p0
    · subst e
      rw [st_us] at hj
      by_cases l : j < i0
      · rw [mv_lb it (by omega)] at g
        refine ⟨2 * j + 1, ⟨j, by omega, k, g, rfl⟩, ?_⟩
        unfold pl_tf
        rw [if_pos rfl, if_pos (by omega)]
      · rw [mv_li it (by omega) (by omega)] at g
        refine ⟨2 * (j + 1) + 1, ⟨j + 1, by omega, k, g, rfl⟩, ?_⟩
        unfold pl_tf
        rw [if_pos rfl, if_neg (by omega), if_neg (by omega)]
        omega
    · rw [st_un e] at hj
      rw [mv_lo it e (by omega) (by omega) (by omega)] at g
      refine ⟨2 * j + 1, ⟨j, hj, k, g, rfl⟩, ?_⟩
      unfold pl_tf
      rw [if_neg e]
  unfold pl_tk at h
  by_cases z : tr_w pa (v + 1) n0
  · rw [cl_t z] at h
    rcases h with ⟨e, rfl⟩ | h
    · dsimp only at e
      subst e
      refine ⟨2 * i0 + 1, Or.inr ⟨i0, hi, hk0, by rw [he]; exact z, rfl⟩, ?_⟩
      unfold pl_tf
      rw [if_pos rfl, if_neg (by omega), if_pos rfl]
    · obtain ⟨x, ⟨j, hj, k, g, rfl⟩, e⟩ := odd p0 h
      refine ⟨_, Or.inr ⟨j, hj, k, tr_wt z (tr_wp hp g), rfl⟩, e⟩
  · rw [cl_f z] at h
    rcases h with ⟨e, rfl⟩ | h
    · split at e
      · rename_i q
        dsimp only at e
        subst e
        rw [if_pos q]
        refine ⟨2 * o, Or.inl ⟨rfl, rfl⟩, ?_⟩
        unfold pl_tf
        rw [if_pos q.1, if_neg (by omega), if_neg (by omega)]
        dsimp only
        omega
      · rename_i q
        dsimp only at e
        subst e
        rw [if_neg q]
        refine ⟨2 * o, Or.inl ⟨rfl, rfl⟩, ?_⟩
        unfold pl_tf
        split
        · rw [if_pos (by omega)]
        · rfl
    · have e : (if v = p0 ∧ i0 < o then (v, o - 1) else (v, o)).1 = v := by split <;> rfl
      rw [e] at h
      obtain ⟨x, h1, h2⟩ := odd v h
      exact ⟨x, Or.inr h1, h2⟩
theorem pl_tok (T : tr_T c kd pa sz it) {n0 p0 i0 : Nat} (hn : n0 < c) (hp : pa n0 = p0 + 1) (hi : i0 < sz p0) {v o : Nat} (h : pl_ok c sz v o) : pl_ok c (st_u sz p0 (sz p0 - 1)) (pl_tk pa n0 p0 i0 v o).1 (pl_tk pa n0 p0 i0 v o).2 := by
  obtain ⟨hp0, hk0, _⟩ := tr_pe T hn hp
  unfold pl_tk
  by_cases z : tr_w pa (v + 1) n0
  · rw [cl_t z]; exact ⟨hp0, by rw [st_us]; dsimp only; omega⟩
  · rw [cl_f z]
    obtain ⟨h1, h2⟩ := h
    split
    · rename_i q
      obtain ⟨rfl, q⟩ := q
      exact ⟨hp0, by rw [st_us]; dsimp only; omega⟩
    · rename_i q
      refine ⟨h1, ?_⟩
      dsimp only
      by_cases e : v = p0
      · subst e; rw [st_us]; omega
      · rw [st_un e]; exact h2
theorem pl_Rtk (T : tr_T c kd pa sz it) {n0 p0 i0 : Nat} (hn : n0 < c) (hp : pa n0 = p0 + 1) (hi : i0 < sz p0) (he : it (24 * p0 + i0) = n0) {v o v' o' : Nat} (hv : v < c) (hv' : v' < c) (R : pl_R c kd pa sz it v o v' o') :
    pl_R c kd (st_u pa n0 0) (st_u sz p0 (sz p0 - 1)) (mv_l it (24 * p0) (i0 + 1) (sz p0) 1) (pl_tk pa n0 p0 i0 v o).1 (pl_tk pa n0 p0 i0 v o).2 (pl_tk pa n0 p0 i0 v' o').1 (pl_tk pa n0 p0 i0 v' o').2 := by
  refine ⟨?_, fun w x y hw hx hy => ?_⟩
  · obtain ⟨w, a, b⟩ := R.1
    have f1 : ∀ v o, tr_w pa (v + 1) n0 → (pl_tk pa n0 p0 i0 v o).1 = p0 := by
      intro v o z; unfold pl_tk; rw [cl_t z]
    have f2 : ∀ v o, ¬ tr_w pa (v + 1) n0 → (pl_tk pa n0 p0 i0 v o).1 = v := by
      intro v o z; unfold pl_tk; rw [cl_f z]; split <;> rfl
    have np : ¬ tr_w pa (p0 + 1) n0 := tr_ac T hn hp
    by_cases z : tr_w pa (w + 1) n0
    · rw [f1 v o (tr_wt a z), f1 v' o' (tr_wt b z)]
      exact ⟨p0, tr_wr _ _, tr_wr _ _⟩
    · have up : ∀ v o, tr_w pa (v + 1) w → tr_w (st_u pa n0 0) ((pl_tk pa n0 p0 i0 v o).1 + 1) w := by
        intro v o a
        by_cases y : tr_w pa (v + 1) n0
        · rw [f1 v o y]
          rcases tr_wcmp a y with q | q
          · exact absurd q z
          · rcases tr_wc q with q | q
            · subst q; exact absurd (tr_wr _ _) z
            · rw [hp] at q; exact tr_e3 q np
        · rw [f2 v o y]; exact tr_e3 a y
      exact ⟨w, up v o a, up v' o' b⟩
  · obtain ⟨x1, h1, rfl⟩ := pl_tcd T hn hp hi he hw hv hx
    obtain ⟨y1, h2, rfl⟩ := pl_tcd T hn hp hi he hw hv' hy
    exact pl_tm (R.2 w x1 y1 hw h1 h2)
theorem pl_Ptk (T : tr_T c kd pa sz it) {n0 p0 i0 : Nat} {pn po : Nat → Nat} (hn : n0 < c) (hp : pa n0 = p0 + 1) (hi : i0 < sz p0) (he : it (24 * p0 + i0) = n0) (P : pl_P c kd pa sz it pn po) :
    pl_P c kd (st_u pa n0 0) (st_u sz p0 (sz p0 - 1)) (mv_l it (24 * p0) (i0 + 1) (sz p0) 1) (mp_n (pl_tk pa n0 p0 i0) pn po) (mp_o (pl_tk pa n0 p0 i0) pn po) :=
  pl_map (pl_tk pa n0 p0 i0) (pl_ok c sz) P P.1 (fun _ _ h => pl_tok T hn hp hi h) (fun _ _ _ _ h h' R => pl_Rtk T hn hp hi he h.1 h'.1 R)
end
