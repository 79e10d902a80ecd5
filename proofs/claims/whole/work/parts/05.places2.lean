/-! places when a node is put in, a text is split, two texts are joined -/
section
variable {c : Nat} {kd pa sz it : Nat → Nat}
def pl_pt (p0 i0 v o : Nat) : Nat × Nat := if v = p0 ∧ i0 < o then (v, o + 1) else (v, o)
def pl_pf (p0 i0 w x : Nat) : Nat := if w = p0 then (if x ≤ 2 * i0 then x else x + 2) else x
theorem pl_pm {p0 i0 w x y : Nat} (h : x ≤ y) : pl_pf p0 i0 w x ≤ pl_pf p0 i0 w y := by
  unfold pl_pf
  split
  · split <;> split <;> omega
  · exact h
theorem pl_p1 (p0 i0 v o : Nat) : (pl_pt p0 i0 v o).1 = v := by unfold pl_pt; split <;> rfl
theorem pl_Rpt (T : tr_T c kd pa sz it) {n0 p0 i0 : Nat} (hp0 : p0 < c) (hk0 : kd p0 = 0) (hn : n0 < c) (hr : pa n0 = 0) (hw0 : ¬ tr_w pa (p0 + 1) n0) (hi : i0 ≤ sz p0) {v o v' o' : Nat} (hv : v < c) (hv' : v' < c) (R : pl_R c kd pa sz it v o v' o') :
    pl_R c kd (st_u pa n0 (p0 + 1)) (st_u sz p0 (sz p0 + 1)) (st_u (mv_r it (24 * p0) i0 (sz p0) 1) (24 * p0 + i0) n0) (pl_pt p0 i0 v o).1 (pl_pt p0 i0 v o).2 (pl_pt p0 i0 v' o').1 (pl_pt p0 i0 v' o').2 := by
  have T' := tr_Tput T hp0 hk0 hn hr hw0 hi
  have c24 := tr_c24 T
  have ne0 : n0 ≠ p0 := by rintro rfl; exact hw0 (tr_wr pa _)
  have s2 := tr_sz2 T hp0 hk0 hn ne0 (by omega)
  have uu : st_u (st_u pa n0 (p0 + 1)) n0 0 = pa := tr_uu (p0 + 1) hr
  have ac : ¬ tr_w (st_u pa n0 (p0 + 1)) (st_u pa n0 (p0 + 1) n0) n0 := by
    rw [st_us]; exact fun z => hw0 (tr_e6 z)
  have e1 : ∀ {x b}, tr_w pa x b → tr_w (st_u pa n0 (p0 + 1)) x b := by
    intro x b h
    apply tr_e1 (n0 := n0)
    rw [uu]; exact h
  have e2 : ∀ {x b}, tr_w (st_u pa n0 (p0 + 1)) x b → tr_w pa x b ∨ (tr_w pa x n0 ∧ tr_w pa (p0 + 1) b) := by
    intro x b h
    have := tr_e2 ac h
    rw [uu, st_us] at this
    exact this
  have A : ∀ w v o x', w < c → v < c → (tr_w pa (v + 1) n0 → tr_w pa (w + 1) n0) →
      pl_cd kd (st_u pa n0 (p0 + 1)) (st_u sz p0 (sz p0 + 1)) (st_u (mv_r it (24 * p0) i0 (sz p0) 1) (24 * p0 + i0) n0) w v (pl_pt p0 i0 v o).2 x' →
      ∃ x, pl_cd kd pa sz it w v o x ∧ x' = pl_pf p0 i0 w x := by
    intro w v o x' hw hv hyp h
    rcases h with ⟨e, rfl⟩ | ⟨j, hj, k, g, rfl⟩
    · refine ⟨2 * o, Or.inl ⟨e, rfl⟩, ?_⟩
      subst e
      unfold pl_pt pl_pf
      split
      · rename_i q; rw [if_pos q.1, if_neg (by omega)]; dsimp only; omega
      · rename_i q; split
        · rw [if_pos (by omega)]
        · rfl
    · have low : ∀ b, pa b = w + 1 → tr_w (st_u pa n0 (p0 + 1)) (v + 1) b → tr_w pa (v + 1) b := by
        intro b hb g
        rcases e2 g with g | ⟨g1, g2⟩
        · exact g
        · exact absurd (tr_wt g2 (tr_wt (tr_wp hb (tr_wr pa w)) (hyp g1))) hw0
      by_cases e : w = p0
      · subst e
        rw [st_us] at hj
        by_cases l : j = i0
        · subst l
          rw [st_us] at g
          exact absurd (hyp (tr_e6 g)) hw0
        · rw [st_un (by omega)] at g
          by_cases l2 : j < i0
          · rw [mv_rb it (by omega)] at g
            refine ⟨2 * j + 1, Or.inr ⟨j, by omega, k, low _ (tr_ch T hw k (by omega)).2 g, rfl⟩, ?_⟩
            unfold pl_pf
            rw [if_pos rfl, if_pos (by omega)]
          · rw [mv_ri it (by omega) (by omega)] at g
            refine ⟨2 * (j - 1) + 1, Or.inr ⟨j - 1, by omega, k, low _ (tr_ch T hw k (by omega)).2 g, rfl⟩, ?_⟩
            unfold pl_pf
            rw [if_pos rfl, if_neg (by omega)]
            omega
      · rw [st_un e] at hj
        have sw := tr_s24 T hw
        rw [st_un (by omega), mv_ro it e (by omega) (by omega)] at g
        refine ⟨2 * j + 1, Or.inr ⟨j, hj, k, low _ (tr_ch T hw k hj).2 g, rfl⟩, ?_⟩
        unfold pl_pf
        rw [if_neg e]
  have B : ∀ w v o x', w < c → v < c → tr_w pa (v + 1) n0 → ¬ tr_w pa (w + 1) n0 →
      pl_cd kd (st_u pa n0 (p0 + 1)) (st_u sz p0 (sz p0 + 1)) (st_u (mv_r it (24 * p0) i0 (sz p0) 1) (24 * p0 + i0) n0) w v o x' →
      pl_cd kd (st_u pa n0 (p0 + 1)) (st_u sz p0 (sz p0 + 1)) (st_u (mv_r it (24 * p0) i0 (sz p0) 1) (24 * p0 + i0) n0) w n0 0 x' := by
    intro w v o x' hw hv z nz h
    rcases h with ⟨e, _⟩ | ⟨j, hj, k, g, rfl⟩
    · subst e; exact absurd z nz
    · refine Or.inr ⟨j, hj, k, ?_, rfl⟩
      rcases tr_wcmp g (e1 z) with q | q
      · rcases tr_wc q with q | q
        · rw [q]; exact tr_wr _ _
        · rw [(tr_ch T' hw k hj).2] at q
          exact absurd (tr_e6 q) nz
      · exact q
  obtain ⟨w0, a, b⟩ := R.1
  have both : tr_w pa (v + 1) n0 ↔ tr_w pa (v' + 1) n0 :=
    ⟨fun z => tr_wt b (tr_wtop hr a z), fun z => tr_wt a (tr_wtop hr b z)⟩
  rw [pl_p1, pl_p1]
  refine ⟨⟨w0, e1 a, e1 b⟩, fun w x y hw hx hy => ?_⟩
  by_cases z : tr_w pa (v + 1) n0 ∧ ¬ tr_w pa (w + 1) n0
  · have h1 := B w v _ x hw hv z.1 z.2 hx
    have h2 := B w v' _ y hw hv' (both.mp z.1) z.2 hy
    exact Nat.le_of_eq (pl_cd1 T' hw hn h1 h2)
  · have z1 : tr_w pa (v + 1) n0 → tr_w pa (w + 1) n0 := fun q => Classical.byContradiction fun r => z ⟨q, r⟩
    obtain ⟨x1, h1, rfl⟩ := A w v o x hw hv z1 hx
    obtain ⟨y1, h2, rfl⟩ := A w v' o' y hw hv' (fun q => z1 (both.mpr q)) hy
    exact pl_pm (R.2 w x1 y1 hw h1 h2)
theorem pl_Ppt (T : tr_T c kd pa sz it) {n0 p0 i0 : Nat} {pn po : Nat → Nat} (hp0 : p0 < c) (hk0 : kd p0 = 0) (hn : n0 < c) (hr : pa n0 = 0) (hw0 : ¬ tr_w pa (p0 + 1) n0) (hi : i0 ≤ sz p0) (P : pl_P c kd pa sz it pn po) :
    pl_P c kd (st_u pa n0 (p0 + 1)) (st_u sz p0 (sz p0 + 1)) (st_u (mv_r it (24 * p0) i0 (sz p0) 1) (24 * p0 + i0) n0) (mp_n (pl_pt p0 i0) pn po) (mp_o (pl_pt p0 i0) pn po) := by
  refine pl_map (pl_pt p0 i0) (pl_ok c sz) P P.1 ?_ (fun _ _ _ _ h h' R => pl_Rpt T hp0 hk0 hn hr hw0 hi h.1 h'.1 R)
  intro v o h
  rw [pl_p1]
  refine ⟨h.1, ?_⟩
  have := h.2
  unfold pl_pt
  split
  · rename_i q; rw [q.1, st_us]; rw [q.1] at this; dsimp only; omega
  · dsimp only
    by_cases e : v = p0
    · subst e; rw [st_us]; omega
    · rw [st_un e]; exact this
/-- a new node -/
theorem pl_Pmk (T : tr_T c kd pa sz it) {pn po : Nat → Nat} {k : Nat} (P : pl_P c kd pa sz it pn po) : pl_P (c + 1) (st_u kd c k) (st_u pa c 0) (st_u sz c 0) it pn po := by
  refine ⟨fun j h => ?_, fun r h => ?_⟩
  · have := P.1 j h
    exact ⟨by have := this.1; omega, by rw [st_un (by have := this.1; omega)]; exact this.2⟩
  · have a1 := (P.1 (2 * r) (by omega)).1
    have a2 := (P.1 (2 * r + 1) (by omega)).1
    obtain ⟨⟨w, x, y⟩, le⟩ := P.2 r h
    have ne : ∀ v, v < c → ¬ tr_w pa (v + 1) c := fun v hv z => by have := tr_lt T hv z; omega
    refine ⟨⟨w, tr_e3 x (ne _ a1), tr_e3 y (ne _ a2)⟩, fun w x y hw hx hy => ?_⟩
    have bk : ∀ v o x, v < c → pl_cd (st_u kd c k) (st_u pa c 0) (st_u sz c 0) it w v o x → w < c ∧ pl_cd kd pa sz it w v o x := by
      intro v o x hv h
      rcases h with ⟨e, e2⟩ | ⟨j, hj, kk, g, e⟩
      · exact ⟨by omega, Or.inl ⟨e, e2⟩⟩
      · by_cases e : w = c
        · subst e; rw [st_us] at hj; omega
        · rw [st_un e] at hj kk
          exact ⟨by omega, Or.inr ⟨j, hj, kk, tr_e1 g, by assumption⟩⟩
    obtain ⟨hw', h1⟩ := bk _ _ _ a1 hx
    obtain ⟨_, h2⟩ := bk _ _ _ a2 hy
    exact le w x y hw' h1 h2
/-- a text t is split at o: behind it the fresh f, both in p -/
def pl_sp (p i t o f v q : Nat) : Nat × Nat := if v = p ∧ q = i + 1 then (p, i + 2) else if v = t ∧ o < q then (f, q - o) else (v, q)
theorem pl_Rsp (T : tr_T c kd pa sz it) {sz' it' : Nat → Nat} (h0 : ∀ n, n < c → kd n = 0 → sz' n = sz n ∧ ∀ i, i < 24 → it' (24 * n + i) = it (24 * n + i)) {p i t o f : Nat} (hp : p < c) (kp : kd p = 0) (hi : i + 1 < sz p) (et : it (24 * p + i) = t) (ef : it (24 * p + (i + 1)) = f) (kt : kd t = 1) (kf : kd f = 1)
    {v q v' q' : Nat} (hv : v < c) (hv' : v' < c) (nf : v ≠ f) (nf' : v' ≠ f) (R : pl_R c kd pa sz it v q v' q') :
    pl_R c kd pa sz' it' (pl_sp p i t o f v q).1 (pl_sp p i t o f v q).2 (pl_sp p i t o f v' q').1 (pl_sp p i t o f v' q').2 := by
  have ct := tr_ch T hp kp (i := i) (by omega)
  have cf := tr_ch T hp kp (i := i + 1) (by omega)
  rw [et] at ct
  rw [ef] at cf
  have ntf : t ≠ f := by
    intro e
    have := tr_in T hp kp (i := i) (j := i + 1) (by omega) (by omega) (by rw [et, ef, e])
    omega
  have npt : p ≠ t := by rintro rfl; omega
  have npf : p ≠ f := by rintro rfl; omega
  have cs : ∀ v q, v ≠ f → ((v = p ∧ q = i + 1 ∧ pl_sp p i t o f v q = (p, i + 2)) ∨ (v = t ∧ o < q ∧ pl_sp p i t o f v q = (f, q - o)) ∨ (¬ (v = p ∧ q = i + 1) ∧ ¬ (v = t ∧ o < q) ∧ pl_sp p i t o f v q = (v, q))) := by
    intro v q _
    unfold pl_sp
    split
    · rename_i e; exact Or.inl ⟨e.1, e.2, rfl⟩
    · split
      · rename_i e; exact Or.inr (Or.inl ⟨e.1, e.2, rfl⟩)
      · exact Or.inr (Or.inr ⟨by assumption, by assumption, rfl⟩)
  refine ⟨?_, fun w x y hw hx hy => ?_⟩
  · obtain ⟨w, a, b⟩ := R.1
    have gen : ∀ v q w, v < c → v ≠ f → tr_w pa (v + 1) w → w ≠ t → tr_w pa ((pl_sp p i t o f v q).1 + 1) w := by
      intro v q w hv nf a nw
      rcases cs v q nf with ⟨rfl, _, e⟩ | ⟨rfl, _, e⟩ | ⟨_, _, e⟩
      · rw [e]; exact a
      · rw [e]
        rcases tr_wc a with e2 | a
        · exact absurd e2.symm nw
        · rw [ct.2] at a; exact tr_wp cf.2 a
      · rw [e]; exact a
    by_cases z : w = t
    · subst z
      have e1 := pl_wtx T hv kt a
      have e2 := pl_wtx T hv' kt b
      subst e1
      have w1 : tr_w pa (v + 1) p := tr_wp ct.2 (tr_wr _ _)
      have w2 : tr_w pa (v' + 1) p := by rw [e2]; exact w1
      exact ⟨p, gen v q p hv nf w1 npt, gen v' q' p hv' nf' w2 npt⟩
    · exact ⟨w, gen v q w hv nf a z, gen v' q' w hv' nf' b z⟩
  · have hx := pl_ctx h0 T hw hx
    have hy := pl_ctx h0 T hw hy
    have le := R.2
    by_cases wt : w = t
    · subst wt
      have bk : ∀ v q x, v ≠ f → pl_cd kd pa sz it w (pl_sp p i w o f v q).1 (pl_sp p i w o f v q).2 x → v = w ∧ x = 2 * q := by
        intro v q x nf h
        rcases h with ⟨e, rfl⟩ | h
        · rcases cs v q nf with ⟨_, _, e2⟩ | ⟨_, _, e2⟩ | ⟨_, _, e2⟩ <;> rw [e2] at e ⊢ <;> dsimp only at e ⊢
          · exact absurd e npt
          · exact absurd e.symm ntf
          · exact ⟨e, rfl⟩
        · exact (pl_otx kt h).elim
      obtain ⟨a1, a2⟩ := bk v q x nf hx
      obtain ⟨b1, b2⟩ := bk v' q' y nf' hy
      have := le w (2 * q) (2 * q') hw (Or.inl ⟨a1, rfl⟩) (Or.inl ⟨b1, rfl⟩)
      omega
    · by_cases wf : w = f
      · subst wf
        have bk : ∀ v q x, v ≠ w → pl_cd kd pa sz it w (pl_sp p i t o w v q).1 (pl_sp p i t o w v q).2 x → v = t ∧ x = 2 * (q - o) := by
          intro v q x nf h
          rcases h with ⟨e, rfl⟩ | h
          · rcases cs v q nf with ⟨_, _, e2⟩ | ⟨e1, _, e2⟩ | ⟨_, _, e2⟩ <;> rw [e2] at e ⊢ <;> dsimp only at e ⊢
            · exact absurd e npf
            · exact ⟨e1, rfl⟩
            · exact absurd e nf
          · exact (pl_otx kf h).elim
        obtain ⟨a1, a2⟩ := bk v q x nf hx
        obtain ⟨b1, b2⟩ := bk v' q' y nf' hy
        have := le t (2 * q) (2 * q') ct.1 (Or.inl ⟨a1, rfl⟩) (Or.inl ⟨b1, rfl⟩)
        omega
      · by_cases wp : w = p
        · subst wp
          -- the code ahead and the code now, at p itself
          have bk : ∀ v q x, v < c → v ≠ f → pl_cd kd pa sz it w (pl_sp w i t o f v q).1 (pl_sp w i t o f v q).2 x →
              ∃ x0, pl_cd kd pa sz it w v q x0 ∧ ((x0 = 2 * i + 2 ∧ x = 2 * i + 4) ∨ (v = t ∧ x0 = 2 * i + 1 ∧ ((q ≤ o ∧ x = 2 * i + 1) ∨ (o < q ∧ x = 2 * i + 3))) ∨ (x = x0 ∧ x0 ≠ 2 * i + 1 ∧ x0 ≠ 2 * i + 2 ∧ x0 ≠ 2 * i + 3)) := by
            intro v q x hv nf h
            rcases cs v q nf with ⟨e1, e3, e2⟩ | ⟨e1, e3, e2⟩ | ⟨e1, e3, e2⟩ <;> rw [e2] at h
            · rcases h with ⟨_, h⟩ | h
              · exact ⟨2 * i + 2, Or.inl ⟨e1, by omega⟩, Or.inl ⟨rfl, by dsimp only at h; omega⟩⟩
              · exact (pl_oself T hw h).elim
            · rcases h with ⟨e, _⟩ | h
              · exact absurd e.symm npf
              · dsimp only at h
                rw [← ef] at h
                have := pl_oat T hw kp (i := i + 1) (by omega) h
                exact ⟨2 * i + 1, Or.inr ⟨i, by omega, kp, by rw [e1, et]; exact tr_wr _ _, rfl⟩, Or.inr (Or.inl ⟨e1, rfl, Or.inr ⟨e3, by omega⟩⟩)⟩
            · rcases h with ⟨e, h⟩ | h
              · dsimp only at e h
                refine ⟨2 * q, Or.inl ⟨e, rfl⟩, Or.inr (Or.inr ⟨h, by omega, by omega, by omega⟩)⟩
              · dsimp only at h
                by_cases vt : v = t
                · subst vt
                  rw [← et] at h
                  have := pl_oat T hw kp (i := i) (by omega) h
                  refine ⟨2 * i + 1, Or.inr ⟨i, by omega, kp, by rw [et]; exact tr_wr _ _, rfl⟩, Or.inr (Or.inl ⟨rfl, rfl, Or.inl ⟨by omega, by omega⟩⟩)⟩
                · refine ⟨x, Or.inr h, Or.inr (Or.inr ⟨rfl, ?_⟩)⟩
                  obtain ⟨j, hj, _, g, rfl⟩ := h
                  have n1 : j ≠ i := by rintro rfl; rw [et] at g; exact vt (pl_wtx T hv kt g)
                  have n2 : j ≠ i + 1 := by rintro rfl; rw [ef] at g; exact nf (pl_wtx T hv kf g)
                  omega
          obtain ⟨x0, a1, a2⟩ := bk v q x hv nf hx
          obtain ⟨y0, b1, b2⟩ := bk v' q' y hv' nf' hy
          have l1 := le w x0 y0 hw a1 b1
          have l2 : v = t → v' = t → q ≤ q' := by
            intro e e'
            have := le t (2 * q) (2 * q') ct.1 (Or.inl ⟨e, rfl⟩) (Or.inl ⟨e', rfl⟩)
            omega
          rcases a2 with a2 | a2 | a2 <;> rcases b2 with b2 | b2 | b2
          · omega
          · omega
          · omega
          · omega
          · have := l2 a2.1 b2.1; omega
          · omega
          · omega
          · omega
          · omega
        · have bk : ∀ v q x, v ≠ f → pl_cd kd pa sz it w (pl_sp p i t o f v q).1 (pl_sp p i t o f v q).2 x → pl_cd kd pa sz it w v q x := by
            intro v q x nf h
            rcases cs v q nf with ⟨e1, e3, e2⟩ | ⟨e1, e3, e2⟩ | ⟨e1, e3, e2⟩ <;> rw [e2] at h
            · rcases h with ⟨e, _⟩ | h
              · exact absurd e.symm wp
              · rw [e1]; exact Or.inr h
            · rcases h with ⟨e, _⟩ | h
              · exact absurd e.symm wf
              · rw [e1]
                exact Or.inr (pl_odn ct.2 (pl_oup T hw cf.2 wp h))
            · exact h
          exact le w x y hw (bk v q x nf hx) (bk v' q' y nf' hy)
/-- two texts t and s, neighbours in p, are joined -/
def pl_jn (p i t m s v q : Nat) : Nat × Nat := if v = s then (t, m + q) else if v = p ∧ q = i + 1 then (t, m) else (v, q)
theorem pl_Rjn (T : tr_T c kd pa sz it) {sz' it' : Nat → Nat} (h0 : ∀ n, n < c → kd n = 0 → sz' n = sz n ∧ ∀ i, i < 24 → it' (24 * n + i) = it (24 * n + i)) {p i t s : Nat} (hp : p < c) (kp : kd p = 0) (hi : i + 1 < sz p) (et : it (24 * p + i) = t) (ef : it (24 * p + (i + 1)) = s) (kt : kd t = 1) (kf : kd s = 1)
    {v q v' q' : Nat} (hv : pl_ok c sz v q) (hv' : pl_ok c sz v' q') (R : pl_R c kd pa sz it v q v' q') :
    pl_R c kd pa sz' it' (pl_jn p i t (sz t) s v q).1 (pl_jn p i t (sz t) s v q).2 (pl_jn p i t (sz t) s v' q').1 (pl_jn p i t (sz t) s v' q').2 := by
  have ct := tr_ch T hp kp (i := i) (by omega)
  have cf := tr_ch T hp kp (i := i + 1) (by omega)
  rw [et] at ct
  rw [ef] at cf
  have ntf : t ≠ s := by
    intro e
    have := tr_in T hp kp (i := i) (j := i + 1) (by omega) (by omega) (by rw [et, ef, e])
    omega
  have npt : p ≠ t := by rintro rfl; omega
  have npf : p ≠ s := by rintro rfl; omega
  have cs : ∀ v q, ((v = s ∧ pl_jn p i t (sz t) s v q = (t, sz t + q)) ∨ (v = p ∧ q = i + 1 ∧ pl_jn p i t (sz t) s v q = (t, sz t)) ∨ (v ≠ s ∧ ¬ (v = p ∧ q = i + 1) ∧ pl_jn p i t (sz t) s v q = (v, q))) := by
    intro v q
    unfold pl_jn
    split
    · rename_i e; exact Or.inl ⟨e, rfl⟩
    · split
      · rename_i e; exact Or.inr (Or.inl ⟨e.1, e.2, rfl⟩)
      · exact Or.inr (Or.inr ⟨by assumption, by assumption, rfl⟩)
  refine ⟨?_, fun w x y hw hx hy => ?_⟩
  · obtain ⟨w, a, b⟩ := R.1
    have gen : ∀ v q w, v < c → tr_w pa (v + 1) w → w ≠ s → tr_w pa ((pl_jn p i t (sz t) s v q).1 + 1) w := by
      intro v q w hv a nw
      rcases cs v q with ⟨rfl, e⟩ | ⟨rfl, _, e⟩ | ⟨_, _, e⟩
      · rw [e]
        rcases tr_wc a with e2 | a
        · exact absurd e2.symm nw
        · rw [cf.2] at a; exact tr_wp ct.2 a
      · rw [e]; exact tr_wp ct.2 a
      · rw [e]; exact a
    by_cases z : w = s
    · subst z
      have e1 := pl_wtx T hv.1 kf a
      have e2 := pl_wtx T hv'.1 kf b
      subst e1
      have w1 : tr_w pa (v + 1) p := tr_wp cf.2 (tr_wr _ _)
      have w2 : tr_w pa (v' + 1) p := by rw [e2]; exact w1
      exact ⟨p, gen v q p hv.1 w1 npf, gen v' q' p hv'.1 w2 npf⟩
    · exact ⟨w, gen v q w hv.1 a z, gen v' q' w hv'.1 b z⟩
  · have hx := pl_ctx h0 T hw hx
    have hy := pl_ctx h0 T hw hy
    have le := R.2
    -- codes at p ahead: t has 2i+1, the gap 2i+2, s 2i+3
    have at_p : ∀ v q, (v = s → pl_cd kd pa sz it p v q (2 * i + 3)) ∧ (v = p → q = i + 1 → pl_cd kd pa sz it p v q (2 * i + 2)) ∧ (v = t → pl_cd kd pa sz it p v q (2 * i + 1)) := by
      intro v q
      refine ⟨fun e => Or.inr ⟨i + 1, hi, kp, ?_, by omega⟩, fun e e2 => Or.inl ⟨e, by omega⟩, fun e => Or.inr ⟨i, by omega, kp, ?_, rfl⟩⟩
      · rw [e, ef]; exact tr_wr _ _
      · rw [e, et]; exact tr_wr _ _
    by_cases wt : w = t
    · subst wt
      have bk : ∀ v q x, pl_ok c sz v q → pl_cd kd pa sz it w (pl_jn p i w (sz w) s v q).1 (pl_jn p i w (sz w) s v q).2 x → (v = w ∧ q ≤ sz w ∧ x = 2 * q) ∨ (v = p ∧ q = i + 1 ∧ x = 2 * sz w) ∨ (v = s ∧ x = 2 * (sz w + q)) := by
        intro v q x hv h
        rcases h with ⟨e, rfl⟩ | h
        · rcases cs v q with ⟨e1, e2⟩ | ⟨e1, e3, e2⟩ | ⟨_, _, e2⟩ <;> rw [e2] at e ⊢ <;> dsimp only at e ⊢
          · exact Or.inr (Or.inr ⟨e1, rfl⟩)
          · exact Or.inr (Or.inl ⟨e1, e3, rfl⟩)
          · exact Or.inl ⟨e, by rw [← e]; exact hv.2, rfl⟩
        · exact (pl_otx kt h).elim
      rcases bk v q x hv hx with a | a | a <;> rcases bk v' q' y hv' hy with b | b | b
      · have := le w (2 * q) (2 * q') hw (Or.inl ⟨a.1, rfl⟩) (Or.inl ⟨b.1, rfl⟩); omega
      · omega
      · omega
      · have := le p _ _ hp ((at_p v q).2.1 a.1 a.2.1) ((at_p v' q').2.2 b.1); omega
      · omega
      · omega
      · have := le p _ _ hp ((at_p v q).1 a.1) ((at_p v' q').2.2 b.1); omega
      · have := le p _ _ hp ((at_p v q).1 a.1) ((at_p v' q').2.1 b.1 b.2.1); omega
      · have := le s (2 * q) (2 * q') cf.1 (Or.inl ⟨a.1, rfl⟩) (Or.inl ⟨b.1, rfl⟩); omega
    · by_cases ws : w = s
      · subst ws
        have bk : ∀ v q x, ¬ pl_cd kd pa sz it w (pl_jn p i t (sz t) w v q).1 (pl_jn p i t (sz t) w v q).2 x := by
          intro v q x h
          rcases h with ⟨e, _⟩ | h
          · rcases cs v q with ⟨_, e2⟩ | ⟨_, _, e2⟩ | ⟨e1, _, e2⟩ <;> rw [e2] at e <;> dsimp only at e
            · exact ntf e
            · exact ntf e
            · exact e1 e
          · exact (pl_otx kf h).elim
        exact absurd hx (bk v q x)
      · by_cases wp : w = p
        · subst wp
          have bk : ∀ v q x, v < c → pl_cd kd pa sz it w (pl_jn w i t (sz t) s v q).1 (pl_jn w i t (sz t) s v q).2 x →
              ∃ x0, pl_cd kd pa sz it w v q x0 ∧ ((x = 2 * i + 1 ∧ (x0 = 2 * i + 1 ∨ x0 = 2 * i + 2 ∨ x0 = 2 * i + 3)) ∨ (x = x0 ∧ x0 ≠ 2 * i + 1 ∧ x0 ≠ 2 * i + 2 ∧ x0 ≠ 2 * i + 3)) := by
            intro v q x hv h
            rcases cs v q with ⟨e1, e2⟩ | ⟨e1, e3, e2⟩ | ⟨e1, e3, e2⟩ <;> rw [e2] at h
            · rcases h with ⟨e, _⟩ | h
              · exact absurd e.symm npt
              · dsimp only at h
                rw [← et] at h
                have := pl_oat T hw kp (i := i) (by omega) h
                exact ⟨_, (at_p v q).1 e1, Or.inl ⟨this, by omega⟩⟩
            · rcases h with ⟨e, _⟩ | h
              · exact absurd e.symm npt
              · dsimp only at h
                rw [← et] at h
                have := pl_oat T hw kp (i := i) (by omega) h
                exact ⟨_, (at_p v q).2.1 e1 e3, Or.inl ⟨this, by omega⟩⟩
            · rcases h with ⟨e, h⟩ | h
              · dsimp only at e h
                exact ⟨2 * q, Or.inl ⟨e, rfl⟩, Or.inr ⟨h, by omega, by omega, by omega⟩⟩
              · dsimp only at h
                by_cases vt : v = t
                · have h' := h
                  rw [vt, ← et] at h'
                  have := pl_oat T hw kp (i := i) (by omega) h'
                  exact ⟨_, (at_p v q).2.2 vt, Or.inl ⟨this, by omega⟩⟩
                · refine ⟨x, Or.inr h, Or.inr ⟨rfl, ?_⟩⟩
                  obtain ⟨j, hj, _, g, rfl⟩ := h
                  have n1 : j ≠ i := by rintro rfl; rw [et] at g; exact vt (pl_wtx T hv kt g)
                  have n2 : j ≠ i + 1 := by rintro rfl; rw [ef] at g; exact e1 (pl_wtx T hv kf g)
                  omega
          obtain ⟨x0, a1, a2⟩ := bk v q x hv.1 hx
          obtain ⟨y0, b1, b2⟩ := bk v' q' y hv'.1 hy
          have l1 := le w x0 y0 hw a1 b1
          omega
        · have bk : ∀ v q x, pl_cd kd pa sz it w (pl_jn p i t (sz t) s v q).1 (pl_jn p i t (sz t) s v q).2 x → pl_cd kd pa sz it w v q x := by
            intro v q x h
            rcases cs v q with ⟨e1, e2⟩ | ⟨e1, e3, e2⟩ | ⟨e1, e3, e2⟩ <;> rw [e2] at h
            · rcases h with ⟨e, _⟩ | h
              · exact absurd e.symm wt
              · rw [e1]
                exact Or.inr (pl_odn cf.2 (pl_oup T hw ct.2 wp h))
            · rcases h with ⟨e, _⟩ | h
              · exact absurd e.symm wt
              · rw [e1]
                exact Or.inr (pl_oup T hw ct.2 wp h)
            · exact h
          exact le w x y hw (bk v q x hx) (bk v' q' y hy)
end
