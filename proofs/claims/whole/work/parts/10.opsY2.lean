/-! Y: putIn, movePlaces, exchange, the loops of replace, split and join -/
section
variable {c : Nat} {kd pa sz it pn po : Nat → Nat} {ln : Int32} {mk os cs cm : Nat → Int32}
theorem yy_p57 {post : SY → Prop} {n p i s : Nat} (hn : n < 24) (hp : p < 24) (hs : s < 24) (hi : i ≤ s) (hsz : sz p = s)
    (h : post (nI c, ln, ar_n kd, ar_p (st_u pa n (p + 1)), ar_n (st_u sz p (s + 1)), ar_n (st_u (mv_r it (24 * p) i s 1) (24 * p + i) n), ar_n pn, ar_n po, mk, os, cs, cm)) :
    ∀ d k, k = i + d → k ≤ s → wY_putIn_57 post (nI p) (nI n) (nI i) (nI c) ln (d + 1) (nI k) (ar_n kd) (ar_p pa) (ar_n sz) (ar_n (mv_r it (24 * p) k s 1)) (ar_n pn) (ar_n po) mk os cs cm := by
  intro d
  induction d with
  | zero =>
    intro k hk hks
    obtain rfl : k = i := by omega
    refine br_t (nI_le (by omega) (by omega)) ?_
    rw [ix_y]
    refine in_c (vp_in_nI (by omega) (by omega)) (nm_r (show upd (ar_n (mv_r it (24 * p) k s 1)) (nI (24 * p + k)).toNatClampNeg (nI n) = _ by rw [nI_clamp (by omega), ar_nu]) (in_c (vp_in_nI hp (by omega)) (in_c (vp_in_nI hp (by omega)) (nm_r (e' := ar_n (st_u sz p (s + 1))) ?_ (in_c (vp_in_nI hn (by omega)) (nm_r (show upd (ar_p pa) (nI n).toNatClampNeg (nI p) = _ by rw [nI_clamp (by omega), ar_pq]) h))))))
    rw [ar_nc _ (by omega), nI_clamp (by omega), nI_1, hsz, ar_nu]
  | succ d ih =>
    intro k hk hks
    obtain ⟨k, rfl⟩ : ∃ j, k = j + 1 := ⟨k - 1, by omega⟩
    refine br_f (nI_ge (by omega) (by omega)) ?_
    rw [ix_y, show nI (24 * p + (k + 1)) - 1 = nI (24 * p + k) from pk_sub (b := 1) (by omega)]
    refine in_c (vp_in_nI (by omega) (by omega)) (in_c (vp_in_nI (by omega) (by omega)) (nm_r ?_ (nm_r (pk_m1 k) (ih k (by omega) (by omega)))))
    rw [ar_nc _ (by omega), nI_clamp (by omega), mv_rk, ar_nu, show 24 * p + (k + 1) = 24 * p + k + 1 by omega, mv_rs it (by omega)]
theorem yy_p3 {post : SY → Prop} {n p i : Nat} (T : tr_T c kd pa sz it) (V : ∀ k, k < 8 → pl_ok c sz (pn k) (po k)) (hn : n < c) (hp : p < c) (hs : sz p + 1 ≤ 24) (hi : i ≤ sz p)
    (h : post (nI c, ln, ar_n kd, ar_p (st_u pa n (p + 1)), ar_n (st_u sz p (sz p + 1)), ar_n (st_u (mv_r it (24 * p) i (sz p) 1) (24 * p + i) n), ar_n (mp_n (pl_pt p i) pn po), ar_n (mp_o (pl_pt p i) pn po), mk, os, cs, cm)) :
    ∀ d k, k + d = 8 → wY_putIn_3 post (nI p) (nI n) (nI i) (nI c) ln (d + 1) (nI k) (ar_n kd) (ar_p pa) (ar_n sz) (ar_n it) (ar_n (mq_n (pl_pt p i) pn po k)) (ar_n (mq_o (pl_pt p i) pn po k)) mk os cs cm := by
  have c24 := tr_c24 T
  have b8 := pl_sm8 T V
  intro d
  induction d with
  | zero =>
    intro k hk
    obtain rfl : k = 8 := by omega
    refine br_t (nI_le (a := 8) (by omega) (by omega)) (in_c (vp_in_nI (by omega) (by omega)) (nm_r (ar_nc sz (by omega)) ⟨sz p - i + 1, ?_⟩))
    have := yy_p57 (c := c) (kd := kd) (pa := pa) (sz := sz) (it := it) (pn := mp_n (pl_pt p i) pn po) (po := mp_o (pl_pt p i) pn po) (ln := ln) (mk := mk) (os := os) (cs := cs) (cm := cm) (post := post) (by omega) (by omega) (by omega) hi rfl h (sz p - i) (sz p) (by omega) (Nat.le_refl _)
    rw [mv_r0] at this
    exact this
  | succ d ih =>
    intro k hk
    have h8 : k < 8 := by omega
    have hb := b8 k h8
    have hi8 : vp_in (nI k) 8 := vp_in_nI h8 (by omega)
    have nx := ih (k + 1) (by omega)
    have skip : ¬ (pn k = p ∧ i < po k) → wY_putIn_3 post (nI p) (nI n) (nI i) (nI c) ln (d + 1) (nI (k + 1)) (ar_n kd) (ar_p pa) (ar_n sz) (ar_n it) (ar_n (mq_n (pl_pt p i) pn po k)) (ar_n (mq_o (pl_pt p i) pn po k)) mk os cs cm := by
      intro y
      rw [mq_nu (F := pl_pt p i) (pn := pn) (po := po) (k := k) (by unfold pl_pt; rw [if_neg y]), mq_ou (F := pl_pt p i) (pn := pn) (po := po) (k := k) (by unfold pl_pt; rw [if_neg y])]
      exact nx
    refine br_f (nI_ge (b := 8) h8 (by omega)) (in_c hi8 (cb_i (d := pn k = p) ?_ (fun e => in_c hi8 ?_) fun e => nm_r (nI_1 k) (skip (fun q => e q.1))))
    · rw [ar_nc _ (by omega), mq_nk, nI_eq (by omega) (by omega)]
    · rw [ar_nc _ (by omega), mq_ok]
      refine cb_i (nI_leI (by omega) (by omega)) (fun l => nm_r (nI_1 k) (skip (by omega))) (fun l => in_c hi8 (in_c hi8 (nm_r (e' := ar_n (mq_o (pl_pt p i) pn po (k + 1))) ?_ (nm_r (nI_1 k) ?_))))
      · rw [nI_clamp (by omega), nI_1, ar_nu, mq_os (by unfold pl_pt; rw [if_pos ⟨e, by omega⟩])]
      · rw [mq_nu (F := pl_pt p i) (pn := pn) (po := po) (k := k) (by unfold pl_pt; rw [if_pos ⟨e, by omega⟩])]
        exact nx
theorem yy_putIn {post : SY → Prop} {n p i : Nat} (T : tr_T c kd pa sz it) (V : ∀ k, k < 8 → pl_ok c sz (pn k) (po k)) (hn : n < c) (hp : p < c) (hs : sz p + 1 ≤ 24) (hi : i ≤ sz p)
    (h : post (nI c, ln, ar_n kd, ar_p (st_u pa n (p + 1)), ar_n (st_u sz p (sz p + 1)), ar_n (st_u (mv_r it (24 * p) i (sz p) 1) (24 * p + i) n), ar_n (mp_n (pl_pt p i) pn po), ar_n (mp_o (pl_pt p i) pn po), mk, os, cs, cm)) : wpY_putIn post (nI c, ln, ar_n kd, ar_p pa, ar_n sz, ar_n it, ar_n pn, ar_n po, mk, os, cs, cm) (nI p) (nI n) (nI i) := by
  refine ⟨9, ?_⟩
  have := yy_p3 T V hn hp hs hi h 8 0 rfl
  rw [mq_n0, mq_o0] at this
  exact this
theorem yy_m3 {post : SY → Prop} {nd lo hi : Nat} {x4 x5 : Int32} (F : Nat → Nat → Nat × Nat) (hb : ∀ k, k < 8 → pn k < 24 ∧ po k < 25) (hnd : nd < 24) (hlo : lo < 100) (hhi : hi < 100)
    (hF : ∀ k, k < 8 → (pn k = nd ∧ lo ≤ po k ∧ po k ≤ hi → nI (F (pn k) (po k)).1 = x4 ∧ nI (F (pn k) (po k)).2 = nI (po k) + x5) ∧ (¬ (pn k = nd ∧ lo ≤ po k ∧ po k ≤ hi) → F (pn k) (po k) = (pn k, po k)))
    (h : post (nI c, ln, ar_n kd, ar_p pa, ar_n sz, ar_n it, ar_n (mp_n F pn po), ar_n (mp_o F pn po), mk, os, cs, cm)) :
    ∀ d k, k + d = 8 → wY_movePlaces_3 post (nI nd) (nI lo) (nI hi) x4 x5 (nI c) ln (d + 1) (nI k) (ar_n kd) (ar_p pa) (ar_n sz) (ar_n it) (ar_n (mq_n F pn po k)) (ar_n (mq_o F pn po k)) mk os cs cm := by
  intro d
  induction d with
  | zero =>
    intro k hk
    obtain rfl : k = 8 := by omega
    exact br_t (nI_le (a := 8) (by omega) (by omega)) h
  | succ d ih =>
    intro k hk
    have h8 : k < 8 := by omega
    have hbk := hb k h8
    have hi8 : vp_in (nI k) 8 := vp_in_nI h8 (by omega)
    have nx := ih (k + 1) (by omega)
    have skip : ¬ (pn k = nd ∧ lo ≤ po k ∧ po k ≤ hi) → wY_movePlaces_3 post (nI nd) (nI lo) (nI hi) x4 x5 (nI c) ln (d + 1) (nI (k + 1)) (ar_n kd) (ar_p pa) (ar_n sz) (ar_n it) (ar_n (mq_n F pn po k)) (ar_n (mq_o F pn po k)) mk os cs cm := by
      intro y
      have e := (hF k h8).2 y
      rw [mq_nu (F := F) (pn := pn) (po := po) (k := k) (by rw [e]), mq_ou (F := F) (pn := pn) (po := po) (k := k) (by rw [e])]
      exact nx
    refine br_f (nI_ge (b := 8) h8 (by omega)) (in_c hi8 (cb_i (d := pn k = nd) ?_ (fun e => in_c hi8 ?_) fun e => nm_r (nI_1 k) (skip (fun q => e q.1))))
    · rw [ar_nc _ (by omega), mq_nk, nI_eq (by omega) (by omega)]
    · rw [ar_nc _ (by omega), mq_ok]
      refine cb_i (nI_ltI (by omega) (by omega)) (fun l => nm_r (nI_1 k) (skip (by omega))) (fun l => in_c hi8 (cb_i (nI_ltI (by omega) (by omega)) (fun l => nm_r (nI_1 k) (skip (by omega))) (fun l2 => ?_)))
      have e2 := (hF k h8).1 ⟨e, by omega, by omega⟩
      refine in_c hi8 (nm_r (e' := ar_n (mq_n F pn po (k + 1))) ?_ (in_c hi8 (in_c hi8 (nm_r (e' := ar_n (mq_o F pn po (k + 1))) ?_ (nm_r (nI_1 k) nx)))))
      · rw [nI_clamp (by omega), ← e2.1, ar_nu, mq_ns rfl]
      · rw [nI_clamp (by omega), ← e2.2, ar_nu, mq_os rfl]
theorem yy_movePlaces {post : SY → Prop} {nd lo hi : Nat} {x4 x5 : Int32} (F : Nat → Nat → Nat × Nat) (hb : ∀ k, k < 8 → pn k < 24 ∧ po k < 25) (hnd : nd < 24) (hlo : lo < 100) (hhi : hi < 100)
    (hF : ∀ k, k < 8 → (pn k = nd ∧ lo ≤ po k ∧ po k ≤ hi → nI (F (pn k) (po k)).1 = x4 ∧ nI (F (pn k) (po k)).2 = nI (po k) + x5) ∧ (¬ (pn k = nd ∧ lo ≤ po k ∧ po k ≤ hi) → F (pn k) (po k) = (pn k, po k)))
    (h : post (nI c, ln, ar_n kd, ar_p pa, ar_n sz, ar_n it, ar_n (mp_n F pn po), ar_n (mp_o F pn po), mk, os, cs, cm)) : wpY_movePlaces post (nI c, ln, ar_n kd, ar_p pa, ar_n sz, ar_n it, ar_n pn, ar_n po, mk, os, cs, cm) (nI nd) (nI lo) (nI hi) x4 x5 := by
  refine ⟨9, ?_⟩
  have := yy_m3 F hb hnd hlo hhi hF h 8 0 rfl
  rw [mq_n0, mq_o0] at this
  exact this
theorem yy_e148 {post : SY → Prop} {t a g k m : Nat} (ht : t < 24) (hs : a + g + m ≤ 24) (hkg : k ≤ g)
    (h : wY_exchange_194 post (nI t) (nI a) (nI k) (nI m) (nI c) ln (ar_n kd) (ar_p pa) (ar_n sz) (ar_n (mv_l it (24 * t) (a + g) (a + g + m) (g - k))) (ar_n pn) (ar_n po) mk os cs cm) :
    ∀ d j, j + d = m → wY_exchange_148 post (nI t) (nI a) (nI g) (nI k) (nI m) (nI c) ln (d + 1) (nI j) (ar_n kd) (ar_p pa) (ar_n sz) (ar_n (mv_l it (24 * t) (a + g) (a + g + j) (g - k))) (ar_n pn) (ar_n po) mk os cs cm := by
  intro d
  induction d with
  | zero =>
    intro j hj
    obtain rfl : j = m := by omega
    exact br_t (nI_le (by omega) (by omega)) h
  | succ d ih =>
    intro j hj
    refine br_f (nI_ge (by omega) (by omega)) ?_
    rw [ix_y, nI_add, nI_add, nI_add, nI_add]
    refine in_c (vp_in_nI (by omega) (by omega)) (in_c (vp_in_nI (by omega) (by omega)) (nm_r ?_ (nm_r (nI_1 j) (ih (j + 1) (by omega)))))
    rw [ar_nc _ (by omega), nI_clamp (by omega), show 24 * t + a + g + j = 24 * t + (a + g + j) by omega, mv_lk, ar_nu, show 24 * t + a + k + j = 24 * t + (a + g + j) - (g - k) by omega, mv_ls it (by omega) (by omega)]
    rfl
theorem yy_e98 {post : SY → Prop} {t a g k m : Nat} (ht : t < 24) (hs : a + k + m ≤ 24) (hkg : g < k)
    (h : wY_exchange_194 post (nI t) (nI a) (nI k) (nI m) (nI c) ln (ar_n kd) (ar_p pa) (ar_n sz) (ar_n (mv_r it (24 * t) (a + g) (a + g + m) (k - g))) (ar_n pn) (ar_n po) mk os cs cm) :
    ∀ j, j ≤ m → wY_exchange_98 post (nI t) (nI a) (nI g) (nI k) (nI m) (nI c) ln (j + 1) (nI j - 1) (ar_n kd) (ar_p pa) (ar_n sz) (ar_n (mv_r it (24 * t) (a + g + j) (a + g + m) (k - g))) (ar_n pn) (ar_n po) mk os cs cm := by
  intro j
  induction j with
  | zero =>
    intro hj
    exact br_t (by decide) h
  | succ j ih =>
    intro hj
    refine br_f (by rw [ar_neg (by omega)]; omega) ?_
    rw [nI_pred, ix_y, nI_add, nI_add, nI_add, nI_add]
    refine in_c (vp_in_nI (by omega) (by omega)) (in_c (vp_in_nI (by omega) (by omega)) (nm_r ?_ (nm_r (nj_d1 j) (ih (by omega)))))
    rw [ar_nc _ (by omega), nI_clamp (by omega), show 24 * t + a + g + j = 24 * t + (a + g + j) by omega, show a + g + (j + 1) = a + g + j + 1 by omega, mv_rk, ar_nu, show 24 * t + a + k + j = 24 * t + (a + g + j) + (k - g) by omega, mv_rs it (by omega)]
theorem yy_e3 {post : SY → Prop} {t a g k : Nat} (T : tr_T c kd pa sz it) (V : ∀ k, k < 8 → pl_ok c sz (pn k) (po k)) (ht : t < c) (ha : a + g ≤ sz t) (hk : sz t + k - g ≤ 12) (s12 : sz t ≤ 12) (hk4 : k ≤ 4)
    (h : post (nI c, ln, ar_n kd, ar_p pa, ar_n (st_u sz t (sz t + k - g)), ar_n (ex_i it t a g k (sz t)), ar_n (mp_n (pl_ex t (ex_g a g k)) pn po), ar_n (mp_o (pl_ex t (ex_g a g k)) pn po), mk, os, cs, cm)) :
    ∀ d j, j + d = 8 → wY_exchange_3 post (nI t) (nI a) (nI g) (nI k) (nI c) ln (d + 1) (nI j) (ar_n kd) (ar_p pa) (ar_n sz) (ar_n it) (ar_n (mq_n (pl_ex t (ex_g a g k)) pn po j)) (ar_n (mq_o (pl_ex t (ex_g a g k)) pn po j)) mk os cs cm := by
  have c24 := tr_c24 T
  have b8 := pl_sm8 T V
  have ht24 : vp_in (nI t) 24 := vp_in_nI (by omega) (by omega)
  intro d
  induction d with
  | zero =>
    intro j hj
    obtain rfl : j = 8 := by omega
    refine br_t (nI_le (a := 8) (by omega) (by omega)) (in_c ht24 (nm_r (e' := nI (sz t - a - g)) ?_ ?_))
    · rw [ar_nc _ (by omega), pk_sub (by omega), pk_sub (by omega)]
    · have fin : ∀ it', post (nI c, ln, ar_n kd, ar_p pa, ar_n (st_u sz t (sz t + k - g)), ar_n it', ar_n (mp_n (pl_ex t (ex_g a g k)) pn po), ar_n (mp_o (pl_ex t (ex_g a g k)) pn po), mk, os, cs, cm) → wY_exchange_194 post (nI t) (nI a) (nI k) (nI (sz t - a - g)) (nI c) ln (ar_n kd) (ar_p pa) (ar_n sz) (ar_n it') (ar_n (mp_n (pl_ex t (ex_g a g k)) pn po)) (ar_n (mp_o (pl_ex t (ex_g a g k)) pn po)) mk os cs cm := by
        intro it' h
        refine in_c ht24 (nm_r (e' := ar_n (st_u sz t (sz t + k - g))) ?_ h)
        rw [nI_clamp (by omega), nI_add, nI_add, ar_nu, show a + k + (sz t - a - g) = sz t + k - g by omega]
      have es : a + g + (sz t - a - g) = sz t := by omega
      unfold ex_i at h
      by_cases l : k ≤ g
      · rw [if_pos l] at h
        refine br_t (nI_le l (by omega)) ⟨sz t - a - g + 1, ?_⟩
        have := yy_e148 (c := c) (kd := kd) (pa := pa) (sz := sz) (it := it) (pn := mp_n (pl_ex t (ex_g a g k)) pn po) (po := mp_o (pl_ex t (ex_g a g k)) pn po) (ln := ln) (mk := mk) (os := os) (cs := cs) (cm := cm) (post := post) (t := t) (a := a) (g := g) (k := k) (m := sz t - a - g) (by omega) (by omega) l (fin _ (by rw [es]; exact h)) (sz t - a - g) 0 (by omega)
        rw [show a + g + 0 = a + g from rfl, mv_l0] at this
        exact this
      · rw [if_neg l] at h
        refine br_f (nI_ge (by omega) (by omega)) (nm_e ⟨sz t - a - g + 1, ?_⟩)
        have := yy_e98 (c := c) (kd := kd) (pa := pa) (sz := sz) (it := it) (pn := mp_n (pl_ex t (ex_g a g k)) pn po) (po := mp_o (pl_ex t (ex_g a g k)) pn po) (ln := ln) (mk := mk) (os := os) (cs := cs) (cm := cm) (post := post) (t := t) (a := a) (g := g) (k := k) (m := sz t - a - g) (by omega) (by omega) (by omega) (fin _ (by rw [es]; exact h)) (sz t - a - g) (Nat.le_refl _)
        rw [mv_r0] at this
        exact this
  | succ d ih =>
    intro j hj
    have h8 : j < 8 := by omega
    have hb := b8 j h8
    have hi8 : vp_in (nI j) 8 := vp_in_nI h8 (by omega)
    have nx := ih (j + 1) (by omega)
    have n1 : (pl_ex t (ex_g a g k) (pn j) (po j)).1 = pn j := by
      unfold pl_ex
      split
      · rename_i e; exact e.symm
      · rfl
    have o1 : pn j = t → (pl_ex t (ex_g a g k) (pn j) (po j)).2 = ex_g a g k (po j) := by
      intro e
      unfold pl_ex
      rw [if_pos e]
    have skip : (pl_ex t (ex_g a g k) (pn j) (po j)).2 = po j → wY_exchange_3 post (nI t) (nI a) (nI g) (nI k) (nI c) ln (d + 1) (nI (j + 1)) (ar_n kd) (ar_p pa) (ar_n sz) (ar_n it) (ar_n (mq_n (pl_ex t (ex_g a g k)) pn po j)) (ar_n (mq_o (pl_ex t (ex_g a g k)) pn po j)) mk os cs cm := by
      intro y
      rw [mq_nu (F := pl_ex t (ex_g a g k)) (pn := pn) (po := po) (k := j) n1, mq_ou (F := pl_ex t (ex_g a g k)) (pn := pn) (po := po) (k := j) y]
      exact nx
    have st : ∀ q, (pl_ex t (ex_g a g k) (pn j) (po j)).2 = q → ∀ b, b = upd (ar_n (mq_o (pl_ex t (ex_g a g k)) pn po j)) (nI j).toNatClampNeg (nI q) → ∀ x, x = nI j + 1 → wY_exchange_3 post (nI t) (nI a) (nI g) (nI k) (nI c) ln (d + 1) x (ar_n kd) (ar_p pa) (ar_n sz) (ar_n it) (ar_n (mq_n (pl_ex t (ex_g a g k)) pn po j)) (b) mk os cs cm := by
      intro q e b eb x ex
      rw [nI_clamp (by omega), ar_nu, mq_os e] at eb
      rw [eb, ex, nI_1, mq_nu (F := pl_ex t (ex_g a g k)) (pn := pn) (po := po) (k := j) n1]
      exact nx
    refine br_f (nI_ge (b := 8) h8 (by omega)) (in_c hi8 (cb_i (d := pn j = t) ?_ (fun e => in_c hi8 ?_) fun e => nm_r (nI_1 j) (skip ?_)))
    · rw [ar_nc _ (by omega), mq_nk, nI_eq (by omega) (by omega)]
    · rw [nI_add a g, ar_nc _ (by omega : j < 2 ^ 31), mq_ok]
      refine cb_i (nI_leI (by omega) (by omega)) (fun l => nm_r (nI_1 j) (skip ?_)) (fun l => in_c hi8 (cb_i (nI_ltI (by omega) (by omega)) (fun l2 => in_c hi8 (in_c hi8 ?_)) (fun l2 => in_c hi8 ?_)))
      · rw [o1 e]; unfold ex_g; rw [if_pos l]
      · rw [nI_add, pk_sub (by omega)]
        exact st _ (by rw [o1 e]; unfold ex_g; rw [if_neg l, if_neg (by omega)])
      · exact st _ (by rw [o1 e]; unfold ex_g; rw [if_neg l, if_pos (by omega)])
    · unfold pl_ex; rw [if_neg e]
theorem yy_exchange {post : SY → Prop} {t a g k : Nat} (T : tr_T c kd pa sz it) (V : ∀ k, k < 8 → pl_ok c sz (pn k) (po k)) (ht : t < c) (ha : a + g ≤ sz t) (hk : sz t + k - g ≤ 12) (s12 : sz t ≤ 12) (hk4 : k ≤ 4)
    (h : post (nI c, ln, ar_n kd, ar_p pa, ar_n (st_u sz t (sz t + k - g)), ar_n (ex_i it t a g k (sz t)), ar_n (mp_n (pl_ex t (ex_g a g k)) pn po), ar_n (mp_o (pl_ex t (ex_g a g k)) pn po), mk, os, cs, cm)) : wpY_exchange post (nI c, ln, ar_n kd, ar_p pa, ar_n sz, ar_n it, ar_n pn, ar_n po, mk, os, cs, cm) (nI t) (nI a) (nI g) (nI k) := by
  refine ⟨9, ?_⟩
  have := yy_e3 T V ht ha hk s12 hk4 h 8 0 rfl
  rw [mq_n0, mq_o0] at this
  exact this
theorem yy_dgl {post : Int32 → SY → Prop} {t a : Nat} (ht : t < 24) : ∀ k d (it : Nat → Nat), a + k ≤ 24 → d < 10000 → post (nI (sz t)) (nI c, ln, ar_n kd, ar_p pa, ar_n sz, ar_n (dg_w k (24 * t + a) d it), ar_n pn, ar_n po, mk, os, cs, cm) → wY_replace_160 post (nI t) (nI a) (nI c) ln (k + 1) (nI d) (nI k - 1) (ar_n kd) (ar_p pa) (ar_n sz) (ar_n it) (ar_n pn) (ar_n po) mk os cs cm := by
  intro k
  induction k with
  | zero => intro d it _ _ hp; exact br_t (by decide) (in_c (vp_in_nI ht (by omega)) (by rw [ar_nc _ (by omega)]; exact hp))
  | succ k ih =>
    intro d it ha hd hp
    refine br_f (by rw [ar_neg (by omega)]; omega) (And.intro (by decide) ?_)
    rw [nI_pred, ix_y, nI_add]
    refine in_c (vp_in_nI (by omega) (by omega)) (nm_r (e' := ar_n (st_u it (24 * t + a + k) (d % 10))) ?_ (And.intro (by decide) (nm_r (e' := nI (d / 10)) ?_ (nm_r (nj_d1 k) (ih (d / 10) _ (by omega) (by omega) hp)))))
    · rw [nI_clamp (by omega), show (10 : Int32) = nI 10 from rfl, pk_rem (by omega) (by omega) (by omega), ar_nu]
    · rw [show (10 : Int32) = nI 10 from rfl, pk_div (by omega) (by omega) (by omega)]
/-- split: the letters -/
theorem yy_s174 {post : Int32 → SY → Prop} {t o f m : Nat} (ht : t < 24) (hf : f < 24) (ne : t ≠ f) (hm : o + m ≤ 24) (hsz : sz f = m)
    (h : post (nI f) (nI c, ln, ar_n kd, ar_p pa, ar_n (st_u sz t o), ar_n (cp_i it (24 * t + o) (24 * f) m), ar_n pn, ar_n po, mk, os, cs, cm)) :
    ∀ d j, j + d = m → wY_split_174 post (nI t) (nI o) (nI f) (nI c) ln (d + 1) (nI j) (ar_n kd) (ar_p pa) (ar_n sz) (ar_n (cp_i it (24 * t + o) (24 * f) j)) (ar_n pn) (ar_n po) mk os cs cm := by
  intro d
  induction d with
  | zero =>
    intro j hj
    obtain rfl : j = m := by omega
    refine in_c (vp_in_nI hf (by omega)) (br_t ?_ (in_c (vp_in_nI ht (by omega)) (nm_r (show upd (ar_n sz) (nI t).toNatClampNeg (nI o) = _ by rw [nI_clamp (by omega), ar_nu]) h)))
    rw [ar_nc _ (by omega), hsz, nI_leI (by omega) (by omega)]; omega
  | succ d ih =>
    intro j hj
    refine in_c (vp_in_nI hf (by omega)) (br_f ?_ ?_)
    · rw [ar_nc _ (by omega), hsz, nI_leI (by omega) (by omega)]; omega
    · rw [ix_y, ix_y, nI_add]
      refine in_c (vp_in_nI (by omega) (by omega)) (in_c (vp_in_nI (by omega) (by omega)) (nm_r ?_ (nm_r (nI_1 j) (ih (j + 1) (by omega)))))
      rw [ar_nc _ (by omega), nI_clamp (by omega), cp_k it (by omega), ar_nu, cp_s]
def sp_0 (t o v q : Nat) : Nat × Nat := if v = t ∧ o < q then (t, o) else (v, q)
theorem yy_s104 {post : Int32 → SY → Prop} {t o f : Nat} (b8 : ∀ k, k < 8 → pn k < 24 ∧ po k < 25) (c24 : c ≤ 24) (s24 : sz t < 24) (ht : t < c) (hf : f < c) (ne : t ≠ f) (ho : o ≤ sz t)
    (h : post (nI f) (nI c, ln, ar_n kd, ar_p pa, ar_n (st_u (st_u sz f (sz t - o)) t o), ar_n (cp_i it (24 * t + o) (24 * f) (sz t - o)), ar_n (mp_n (sp_0 t o) pn po), ar_n (mp_o (sp_0 t o) pn po), mk, os, cs, cm)) :
    ∀ d k, k + d = 8 → wY_split_104 post (nI t) (nI o) (nI f) (nI c) ln (d + 1) (nI k) (ar_n kd) (ar_p pa) (ar_n sz) (ar_n it) (ar_n (mq_n (sp_0 t o) pn po k)) (ar_n (mq_o (sp_0 t o) pn po k)) mk os cs cm := by
  have n1 : ∀ v q, (sp_0 t o v q).1 = v := by
    intro v q; unfold sp_0; split
    · rename_i e; exact e.1.symm
    · rfl
  intro d
  induction d with
  | zero =>
    intro k hk
    obtain rfl : k = 8 := by omega
    refine br_t (nI_le (a := 8) (by omega) (by omega)) (in_c (vp_in_nI (by omega) (by omega)) (in_c (vp_in_nI (by omega) (by omega)) (nm_r (e' := ar_n (st_u sz f (sz t - o))) ?_ ⟨sz t - o + 1, ?_⟩)))
    · rw [ar_nc _ (by omega), nI_clamp (by omega), pk_sub ho, ar_nu]
    · have := yy_s174 (c := c) (kd := kd) (pa := pa) (sz := st_u sz f (sz t - o)) (it := it) (pn := mp_n (sp_0 t o) pn po) (po := mp_o (sp_0 t o) pn po) (ln := ln) (mk := mk) (os := os) (cs := cs) (cm := cm) (post := post) (t := t) (o := o) (f := f) (m := sz t - o) (by omega) (by omega) ne (by omega) (st_us _ _ _) h (sz t - o) 0 (by omega)
      rw [cp_0] at this
      exact this
  | succ d ih =>
    intro k hk
    have h8 : k < 8 := by omega
    have hb := b8 k h8
    have hi8 : vp_in (nI k) 8 := vp_in_nI h8 (by omega)
    have nx := ih (k + 1) (by omega)
    have st : ∀ q, (sp_0 t o (pn k) (po k)).2 = q → ∀ b, b = upd (ar_n (mq_o (sp_0 t o) pn po k)) (nI k).toNatClampNeg (nI q) → ∀ x, x = nI k + 1 → wY_split_104 post (nI t) (nI o) (nI f) (nI c) ln (d + 1) x (ar_n kd) (ar_p pa) (ar_n sz) (ar_n it) (ar_n (mq_n (sp_0 t o) pn po k)) (b) mk os cs cm := by
      intro q e b eb x ex
      rw [nI_clamp (by omega), ar_nu, mq_os e] at eb
      rw [eb, ex, nI_1, mq_nu (F := sp_0 t o) (pn := pn) (po := po) (k := k) (n1 _ _)]
      exact nx
    refine br_f (nI_ge (b := 8) h8 (by omega)) (in_c hi8 (cb_i (d := pn k = t) ?_ (fun e => in_c hi8 ?_) fun e => in_c hi8 (in_c hi8 ?_)))
    · rw [ar_nc _ (by omega), mq_nk, nI_eq (by omega) (by omega)]
    · rw [ar_nc _ (by omega : k < 2 ^ 31), mq_ok]
      refine cb_i (nI_leI (by omega) (by omega)) (fun l => in_c hi8 (in_c hi8 ?_)) (fun l => in_c hi8 ?_)
      · exact st _ (by unfold sp_0; rw [if_neg (by omega)])
      · exact st _ (by unfold sp_0; rw [if_pos (by omega)])
    · rw [ar_nc _ (by omega : k < 2 ^ 31), mq_ok]
      exact st _ (by unfold sp_0; rw [if_neg (by omega)])
theorem yy_split104 {post : Int32 → SY → Prop} {t o f : Nat} (b8 : ∀ k, k < 8 → pn k < 24 ∧ po k < 25) (c24 : c ≤ 24) (s24 : sz t < 24) (ht : t < c) (hf : f < c) (ne : t ≠ f) (ho : o ≤ sz t)
    (h : post (nI f) (nI c, ln, ar_n kd, ar_p pa, ar_n (st_u (st_u sz f (sz t - o)) t o), ar_n (cp_i it (24 * t + o) (24 * f) (sz t - o)), ar_n (mp_n (sp_0 t o) pn po), ar_n (mp_o (sp_0 t o) pn po), mk, os, cs, cm)) :
    ∃ n104 : Nat, wY_split_104 post (nI t) (nI o) (nI f) (nI c) ln n104 0 (ar_n kd) (ar_p pa) (ar_n sz) (ar_n it) (ar_n pn) (ar_n po) mk os cs cm := by
  refine ⟨9, ?_⟩
  have := yy_s104 b8 c24 s24 ht hf ne ho h 8 0 rfl
  rw [mq_n0, mq_o0] at this
  exact this
/-- join: the letters; then s is taken out -/
theorem yy_j135 {post : Int32 → SY → Prop} {t s m : Nat} (ht : t < 24) (hs : s < 24) (ne : s ≠ t) (hm : m + sz s ≤ 24)
    (h : wpY_takeOut (fun _ u => post (nI s) u) (nI c, ln, ar_n kd, ar_p pa, ar_n (st_u (st_u sz t (m + sz s)) s 0), ar_n (cp_i it (24 * s) (24 * t + m) (sz s)), ar_n pn, ar_n po, mk, os, cs, cm) (nI s)) :
    ∀ d j, j + d = sz s → wY_join_135 post (nI t) (nI s) (nI m) (nI c) ln (d + 1) (nI j) (ar_n kd) (ar_p pa) (ar_n sz) (ar_n (cp_i it (24 * s) (24 * t + m) j)) (ar_n pn) (ar_n po) mk os cs cm := by
  intro d
  induction d with
  | zero =>
    intro j hj
    obtain rfl : j = sz s := by omega
    refine in_c (vp_in_nI hs (by omega)) (br_t ?_ (in_c (vp_in_nI hs (by omega)) (in_c (vp_in_nI ht (by omega)) (nm_r (e' := ar_n (st_u sz t (m + sz s))) ?_ (in_c (vp_in_nI hs (by omega)) (nm_r (show upd (ar_n (st_u sz t (m + sz s))) (nI s).toNatClampNeg (nI 0) = _ by rw [nI_clamp (by omega), ar_nu]) h))))))
    · rw [ar_nc _ (by omega), nI_leI (by omega) (by omega)]; omega
    · rw [ar_nc _ (by omega), nI_clamp (by omega), nI_add, ar_nu]
  | succ d ih =>
    intro j hj
    refine in_c (vp_in_nI hs (by omega)) (br_f ?_ ?_)
    · rw [ar_nc _ (by omega), nI_leI (by omega) (by omega)]; omega
    · rw [ix_y, ix_y, nI_add]
      refine in_c (vp_in_nI (by omega) (by omega)) (in_c (vp_in_nI (by omega) (by omega)) (nm_r ?_ (nm_r (nI_1 j) (ih (j + 1) (by omega)))))
      rw [ar_nc _ (by omega), nI_clamp (by omega), cp_k it (by omega), ar_nu, cp_s]
theorem yy_join135 {post : Int32 → SY → Prop} {t s m : Nat} (ht : t < 24) (hs : s < 24) (ne : s ≠ t) (hm : m + sz s ≤ 24)
    (h : wpY_takeOut (fun _ u => post (nI s) u) (nI c, ln, ar_n kd, ar_p pa, ar_n (st_u (st_u sz t (m + sz s)) s 0), ar_n (cp_i it (24 * s) (24 * t + m) (sz s)), ar_n pn, ar_n po, mk, os, cs, cm) (nI s)) :
    ∃ n135 : Nat, wY_join_135 post (nI t) (nI s) (nI m) (nI c) ln n135 0 (ar_n kd) (ar_p pa) (ar_n sz) (ar_n it) (ar_n pn) (ar_n po) mk os cs cm := by
  refine ⟨sz s + 1, ?_⟩
  have := yy_j135 ht hs ne hm h (sz s) 0 (by omega)
  rw [cp_0] at this
  exact this
end
