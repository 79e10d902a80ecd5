/-! rows of kit/rows/BITS, pasted (bt .. b_sshr); then my own: the doomed nodes -/
def bt (x : Int32) (i : Nat) : Bool := x.toBitVec.getLsbD i
theorem b_ext {x y : Int32} (h : ∀ i, i < 32 → bt x i = bt y i) : x = y := Int32.toBitVec_inj.mp (BitVec.eq_of_getLsbD_eq (fun i hi => h i hi))
theorem b_or (x y : Int32) (i : Nat) : bt (x ||| y) i = (bt x i || bt y i) := by unfold bt; rw [Int32.toBitVec_or, BitVec.getLsbD_or]
theorem b_and (x y : Int32) (i : Nat) : bt (x &&& y) i = (bt x i && bt y i) := by unfold bt; rw [Int32.toBitVec_and, BitVec.getLsbD_and]
theorem b_xor (x y : Int32) (i : Nat) : bt (x ^^^ y) i = (bt x i ^^ bt y i) := by unfold bt; rw [Int32.toBitVec_xor, BitVec.getLsbD_xor]
theorem b_m1 : ∀ i, i < 32 → bt (-1) i = true := by decide +kernel
theorem b_0 (i : Nat) : bt 0 i = false := BitVec.getLsbD_zero
theorem s_l : ∀ n, n < 32 → ((nI n &&& 31).toBitVec.smod 32).toNat = n := by decide +kernel
theorem b_shl (n : Nat) (hn : n < 32) (x : Int32) {i : Nat} (hi : i < 32) : bt (x <<< (nI n &&& 31)) i = (decide (n ≤ i) && bt x (i - n)) := by
  unfold bt
  rw [Int32.toBitVec_shiftLeft]
  show (x.toBitVec <<< ((nI n &&& 31).toBitVec.smod 32).toNat).getLsbD i = _
  rw [s_l n hn, BitVec.getLsbD_shiftLeft]
  rcases Nat.lt_or_ge i n with h | h
  · simp [h, Nat.not_le.mpr h]
  · simp [hi, h, Nat.not_lt.mpr h]
theorem b_sshr (n : Nat) (hn : n < 32) (x : Int32) {i : Nat} (hi : i < 32) : bt (x >>> (nI n &&& 31)) i = if n + i < 32 then bt x (n + i) else bt x 31 := by
  unfold bt
  rw [Int32.toBitVec_shiftRight]
  show (x.toBitVec.sshiftRight ((nI n &&& 31).toBitVec.smod 32).toNat).getLsbD i = _
  rw [s_l n hn, BitVec.getLsbD_sshiftRight, BitVec.msb_eq_getLsbD_last]
  simp [hi]
theorem bb_1 : ∀ j, j < 32 → bt 1 j = decide (j = 0) := by decide +kernel
theorem bb_one (n : Nat) (hn : n < 32) {i : Nat} (hi : i < 32) : bt ((1 : Int32) <<< (nI n &&& 31)) i = decide (i = n) := by
  rw [b_shl n hn 1 hi]
  by_cases h : n ≤ i
  · rw [bb_1 (i - n) (by omega), decide_eq_true h, Bool.true_and]
    by_cases e : i = n
    · rw [decide_eq_true e, decide_eq_true (by omega)]
    · rw [decide_eq_false e, decide_eq_false (by omega)]
  · rw [decide_eq_false h, Bool.false_and, decide_eq_false (by omega)]
theorem bb_set (x : Int32) (n : Nat) (hn : n < 32) {i : Nat} (hi : i < 32) : bt (x ||| ((1 : Int32) <<< (nI n &&& 31))) i = true ↔ (bt x i = true ∨ i = n) := by
  rw [b_or, bb_one n hn hi, Bool.or_eq_true, decide_eq_true_iff]
theorem bb_clr (x : Int32) (n : Nat) (hn : n < 32) {i : Nat} (hi : i < 32) : bt (x &&& (((1 : Int32) <<< (nI n &&& 31)) ^^^ (-1))) i = true ↔ (bt x i = true ∧ i ≠ n) := by
  rw [b_and, b_xor, bb_one n hn hi, b_m1 i hi, Bool.and_eq_true]
  by_cases e : i = n
  · rw [decide_eq_true e]
    exact ⟨fun h => absurd h.2 (by decide), fun h => absurd e h.2⟩
  · rw [decide_eq_false e]
    exact ⟨fun h => ⟨h.1, e⟩, fun h => ⟨h.1, rfl⟩⟩
theorem bb_tst (x : Int32) (n : Nat) (hn : n < 32) : ((x >>> (nI n &&& 31)) &&& 1) = 1 ↔ bt x n = true := by
  have e : ∀ i, i < 32 → bt ((x >>> (nI n &&& 31)) &&& 1) i = (if i = 0 then bt x n else false) := by
    intro i hi
    rw [b_and, b_sshr n hn x hi, bb_1 i hi]
    by_cases z : i = 0
    · subst z
      rw [if_pos rfl, if_pos (by omega), decide_eq_true rfl, Bool.and_true, Nat.add_zero]
    · rw [if_neg z, decide_eq_false z, Bool.and_false]
  constructor
  · intro h
    have := e 0 (by omega)
    rw [h, bb_1 0 (by omega), if_pos rfl] at this
    rw [← this]
    rfl
  · intro h
    apply b_ext
    intro i hi
    rw [e i hi, bb_1 i hi]
    by_cases z : i = 0
    · rw [if_pos z, decide_eq_true z]; exact h
    · rw [if_neg z, decide_eq_false z]
theorem bb_no {x : Int32} (h : ∀ i, i < 32 → ¬ bt x i = true) : x = 0 := by
  apply b_ext
  intro i hi
  rw [b_0]
  exact Bool.eq_false_iff.mpr (h i hi)
theorem bb_not0 {x : Int32} {i : Nat} (h : bt x i = true) : ¬ x = 0 := by
  rintro rfl
  rw [b_0] at h
  exact absurd h (by decide)
/-! the doomed: wholly between the gaps, their parents not -/
def er_D (c : Nat) (pa L op : Nat → Nat) (r gs ge n : Nat) : Prop := n < c ∧ in_W pa L op r gs ge n ∧ ∀ p, pa n = p + 1 → ¬ in_W pa L op r gs ge p
def er_L (c : Nat) (pa L op : Nat → Nat) (r gs ge m : Nat) (dl : Nat → Nat) : Prop := (∀ i, i < m → er_D c pa L op r gs ge (dl i)) ∧ (∀ i j, i < j → j < m → op (dl i) < op (dl j)) ∧ ∀ n, er_D c pa L op r gs ge n → ∃ i, i < m ∧ dl i = n
section
variable {c : Nat} {kd pa sz it L op N : Nat → Nat} {r gs ge : Nat}
theorem er_top (T : tr_T c kd pa sz it) : ∀ p, p < c → in_W pa L op r gs ge p → ∃ d, er_D c pa L op r gs ge d ∧ tr_w pa (p + 1) d := by
  refine tr_ri T ?_
  intro p hp ih W
  by_cases z : ∃ q, pa p = q + 1 ∧ in_W pa L op r gs ge q
  · obtain ⟨q, e, Wq⟩ := z
    obtain ⟨d, hd, w⟩ := ih q e Wq
    exact ⟨d, hd, tr_wp e w⟩
  · exact ⟨p, ⟨hp, W, fun q e Wq => z ⟨q, e, Wq⟩⟩, tr_wr _ _⟩
theorem er_in (T : tr_T c kd pa sz it) (Q : ly_Q c kd pa sz it L op N) {d n : Nat} (hd : d < c) (W : in_W pa L op r gs ge d) (hn : n < c) (w : tr_w pa (n + 1) d) (ne : n ≠ d) : ¬ er_D c pa L op r gs ge n := by
  intro D
  rcases tr_wc w with e | w2
  · exact ne e
  · cases e : pa n with
    | zero => rw [e] at w2; exact tr_w0 w2
    | succ p =>
      rw [e] at w2
      have hp := (tr_pe T hn e).1
      have i := ly_in Q T hp w2
      have := W.2.1
      have := W.2.2
      exact D.2.2 p e ⟨tr_wt w2 W.1, by omega, by omega⟩
theorem er_m {m : Nat} {dl : Nat → Nat} (h : er_L c pa L op r gs ge m dl) : m ≤ c := by
  refine pg_h c m dl (fun i hi => (h.1 i hi).1) (fun i j hi hj e => ?_)
  rcases Nat.lt_trichotomy i j with l | l | l
  · have := h.2.1 i j l hj; rw [e] at this; omega
  · exact l
  · have := h.2.1 j i l hi; rw [e] at this; omega
end
theorem xx_fd {c : Nat} {kd pa sz it pn po : Nat → Nat} {sg eg : Int32} {rl rn oa ca il dm : Nat → Int32} {L op N : Nat → Nat} {post : Int32 → SX → Prop} {r gs ge : Nat} (Q : ly_Q c kd pa sz it L op N) (T : tr_T c kd pa sz it) (hr : r < c) (pr : pa r = 0) (D : ∀ m, m < c → tr_w pa (m + 1) r → rw_D kd sz it L op rl rn oa ca m) (g0 : 0 < gs) (gl : ge < L r)
    (h : ∀ (m : Nat) (dl : Nat → Nat) (dm : Nat → Int32), er_L c pa L op r gs ge m dl → (∀ i, i < m → dm i = nI (dl i)) → post (nI m) (nI c, nI gs, nI ge, ar_n kd, ar_p pa, ar_n sz, ar_n it, ar_n pn, ar_n po, rl, rn, oa, ca, il, dm)) :
    ∀ (d a m last : Nat) (dl : Nat → Nat) (dm : Nat → Int32), ge ≤ a + d → gs ≤ a → a ≤ 336 → (∀ i, i < m → er_D c pa L op r gs ge (dl i) ∧ op (dl i) < a) → (∀ i j, i < j → j < m → op (dl i) < op (dl j)) → (∀ n, er_D c pa L op r gs ge n → op n < a → ∃ i, i < m ∧ dl i = n) → (∀ i, i < m → dm i = nI (dl i)) → ((m = 0 ∧ last = 0) ∨ ∃ m', m = m' + 1 ∧ last + 1 = op (dl m') + L (dl m')) →
      wX_findDoomed_9 post (nI c) (nI gs) (nI ge) (d + 1) (nI m) (nI last) (nI a) (ar_n kd) (ar_p pa) (ar_n sz) (ar_n it) (ar_n pn) (ar_n po) rl rn oa ca il dm := by
  have c24 := tr_c24 T
  have o0 := Q.2.2.1 r hr pr
  have l336 := Q.2.2.2.2.1 r hr
  have stop : ∀ (d a m : Nat) (last : Int32) (dl : Nat → Nat) (dm : Nat → Int32), ge ≤ a → a ≤ 336 → (∀ i, i < m → er_D c pa L op r gs ge (dl i) ∧ op (dl i) < a) → (∀ i j, i < j → j < m → op (dl i) < op (dl j)) → (∀ n, er_D c pa L op r gs ge n → op n < a → ∃ i, i < m ∧ dl i = n) → (∀ i, i < m → dm i = nI (dl i)) → wX_findDoomed_9 post (nI c) (nI gs) (nI ge) (d + 1) (nI m) last (nI a) (ar_n kd) (ar_p pa) (ar_n sz) (ar_n it) (ar_n pn) (ar_n po) rl rn oa ca il dm := by
    intro d a m last dl dm h1 h2 I1 I2 I3 I4
    refine br_t (nI_le h1 (by omega)) (h m dl dm ⟨fun i hi => (I1 i hi).1, I2, fun n hn => I3 n hn ?_⟩ I4)
    have l2 := ly_L2 Q T hn.1
    have := hn.2.1.2.2
    omega
  intro d
  induction d with
  | zero => intro a m last dl dm h1 h2 h3 I1 I2 I3 I4 I5; exact stop 0 a m _ dl dm (by omega) h3 I1 I2 I3 I4
  | succ d ih =>
    intro a m last dl dm h1 h2 h3 I1 I2 I3 I4 I5
    by_cases z : ge ≤ a
    · exact stop (d + 1) a m _ dl dm z h3 I1 I2 I3 I4
    · have fin : ∀ (m last : Nat) (dl : Nat → Nat) (dm : Nat → Int32), (∀ i, i < m → er_D c pa L op r gs ge (dl i) ∧ op (dl i) < a + 1) → (∀ i j, i < j → j < m → op (dl i) < op (dl j)) → (∀ n, er_D c pa L op r gs ge n → op n < a + 1 → ∃ i, i < m ∧ dl i = n) → (∀ i, i < m → dm i = nI (dl i)) → ((m = 0 ∧ last = 0) ∨ ∃ m', m = m' + 1 ∧ last + 1 = op (dl m') + L (dl m')) → wX_findDoomed_9 post (nI c) (nI gs) (nI ge) (d + 1) (nI m) (nI last) (nI (a + 1)) (ar_n kd) (ar_p pa) (ar_n sz) (ar_n it) (ar_n pn) (ar_n po) rl rn oa ca il dm :=
        fun m last dl dm J1 J2 J3 J4 J5 => ih (a + 1) m last dl dm (by omega) (by omega) (by omega) J1 J2 J3 J4 J5
      have skip : (∀ n, er_D c pa L op r gs ge n → op n ≠ a) → wX_findDoomed_9 post (nI c) (nI gs) (nI ge) (d + 1) (nI m) (nI last) (nI (a + 1)) (ar_n kd) (ar_p pa) (ar_n sz) (ar_n it) (ar_n pn) (ar_n po) rl rn oa ca il dm := by
        intro no
        refine fin m last dl dm (fun i hi => ⟨(I1 i hi).1, by have := (I1 i hi).2; omega⟩) I2 (fun n hn l => I3 n hn ?_) I4 I5
        have := no n hn
        omega
      refine br_f (nI_ge (by omega) (by omega)) (in_c (vp_in_nI (by omega) (by omega)) ?_)
      rw [nI_clamp (by omega)]
      obtain ⟨n0, hn0, w0, o⟩ := ly_cov Q T r hr a (by omega) (by omega)
      have D0 := D n0 hn0 w0
      have rnop : ∀ n, er_D c pa L op r gs ge n → op n = a → rn a = nI n := by
        intro n hn e
        rw [← e]
        exact (D n hn.1 hn.2.1.1).2.2.2.1
      by_cases o1 : a = op n0
      · have rn0 : rn a = nI n0 := by rw [o1]; exact D0.2.2.2.1
        have uniq : ∀ n, er_D c pa L op r gs ge n → op n = a → n = n0 := by
          intro n hn e
          have := rnop n hn e
          rw [rn0, nI_eq (by omega) (by have := hn.1; omega)] at this
          exact this.symm
        have l20 := ly_L2 Q T hn0
        have in0 := ly_in Q T hn0 w0
        refine nm_r rn0 (br_f (nj_m1 (by omega)) ?_)
        have ll : last < 400 := by
          rcases I5 with ⟨_, e⟩ | ⟨m', em, e⟩
          · omega
          · have d' := (I1 m' (by omega)).1
            have := ly_in Q T d'.1 d'.2.1.1
            omega
        refine cb_i (nI_leI (by omega) (by omega)) (fun l => nm_r (nI_1 a) (skip fun n hn e => ?_)) (fun l => in_c (vp_in_nI (by omega) (by omega)) ?_)
        · have en := uniq n hn e
          subst en
          rcases I5 with ⟨_, e5⟩ | ⟨m', em, e5⟩
          · omega
          · have d' := I1 m' (by omega)
            have l2 := ly_L2 Q T d'.1.1
            have w := ly_lam Q T r hr n (dl m') hn.1 d'.1.1 hn.2.1.1 d'.1.2.1.1 (by omega) (by omega)
            exact er_in T Q d'.1.1 d'.1.2.1 hn.1 w (by rintro rfl; omega) hn
        · rw [nI_clamp (by omega), D0.2.1]
          refine cb_i (nI_leI (by omega) (by omega)) (fun l2 => nm_r (nI_1 a) (skip fun n hn e => ?_)) (fun l2 => ?_)
          · have en := uniq n hn e
            subst en
            have := hn.2.1.2.2
            omega
          · have W0 : in_W pa L op r gs ge n0 := ⟨w0, by omega, by omega⟩
            have D1 : er_D c pa L op r gs ge n0 := by
              refine ⟨hn0, W0, fun p e Wp => ?_⟩
              have hp := (tr_pe T hn0 e).1
              obtain ⟨x, Dx, wx⟩ := er_top T p hp Wp
              have wnx : tr_w pa (n0 + 1) x := tr_wp e wx
              have inx := ly_in Q T hn0 wnx
              have nex : n0 ≠ x := by
                rintro rfl
                exact tr_ac T hn0 e wx
              have inx2 : op x < op n0 ∧ op n0 + L n0 < op x + L x := inx.2.2.resolve_left nex
              obtain ⟨i, hi, ei⟩ := I3 x Dx (by omega)
              rcases I5 with ⟨e5, _⟩ | ⟨m', em, e5⟩
              · omega
              · have d' := I1 m' (by omega)
                by_cases eq : dl m' = x
                · rw [eq] at e5; omega
                · have im : i < m' := by
                    have : i ≠ m' := by rintro rfl; exact eq ei
                    omega
                  have lt := I2 i m' im (by omega)
                  rw [ei] at lt
                  have w := ly_lam Q T r hr (dl m') x d'.1.1 Dx.1 d'.1.2.1.1 Dx.2.1.1 (by omega) (by omega)
                  exact er_in T Q Dx.1 Dx.2.1 d'.1.1 w eq d'.1
            have m24 : m + 1 ≤ c := by
              refine pg_h c (m + 1) (fun i => if i < m then dl i else n0) (fun i hi => ?_) (fun i j hi hj e => ?_)
              · try dsimp only
                split
                · rename_i q; exact (I1 i q).1.1
                · exact hn0
              · try dsimp only at e
                split at e
                · rename_i q
                  split at e
                  · rename_i q2
                    rcases Nat.lt_trichotomy i j with l | l | l
                    · have := I2 i j l q2; rw [e] at this; omega
                    · exact l
                    · have := I2 j i l q; rw [e] at this; omega
                  · have := (I1 i q).2; rw [e] at this; omega
                · split at e
                  · rename_i q2
                    have := (I1 j q2).2; rw [← e] at this; omega
                  · omega
            refine in_c (vp_in_nI (by omega) (by omega)) (nm_r (e' := upd dm m (nI n0)) (by rw [nI_clamp (by omega)]) (nm_r (nI_1 m) (in_c (vp_in_nI (by omega) (by omega)) (nm_r (e' := nI (op n0 + L n0 - 1)) (by first | rfl | rw [nI_clamp (by omega), D0.2.1]) (nm_r (nI_1 a) ?_)))))
            refine fin (m + 1) (op n0 + L n0 - 1) (st_u dl m n0) (upd dm m (nI n0)) ?_ ?_ ?_ ?_ ?_
            · intro i hi
              by_cases e : i = m
              · subst e; rw [st_us]; exact ⟨D1, by omega⟩
              · rw [st_un e]; exact ⟨(I1 i (by omega)).1, by have := (I1 i (by omega)).2; omega⟩
            · intro i j l hj
              rw [st_un (by omega)]
              by_cases e : j = m
              · subst e; rw [st_us]; have := (I1 i (by omega)).2; omega
              · rw [st_un e]; exact I2 i j l (by omega)
            · intro n hn l
              by_cases e : op n = a
              · exact ⟨m, by omega, by rw [st_us]; exact (uniq n hn e).symm⟩
              · obtain ⟨i, hi, ei⟩ := I3 n hn (by omega)
                exact ⟨i, by omega, by rw [st_un (by omega)]; exact ei⟩
            · intro i hi
              by_cases e : i = m
              · subst e; rw [pk_us, st_us]
              · rw [pk_un e, st_un e]; exact I4 i (by omega)
            · refine Or.inr ⟨m, rfl, ?_⟩
              rw [st_us]; omega
      · have rnm : rn a = -1 := by
          rcases o with o | o | ⟨k1, i, hi, o⟩
          · exact absurd o o1
          · rw [show a = op n0 + L n0 - 1 by omega]; exact D0.2.2.2.2.2.1
          · rw [o]; exact (D0.2.2.2.2.2.2 k1 i hi).2
        refine nm_r rnm (br_t rfl (nm_r (nI_1 a) (skip fun n hn e => ?_)))
        have := rnop n hn e
        rw [rnm] at this
        exact nj_m1 (by have := hn.1; omega) this.symm
theorem xx_findDoomed {c : Nat} {kd pa sz it pn po : Nat → Nat} {sg eg : Int32} {rl rn oa ca il dm : Nat → Int32} {L op N : Nat → Nat} {post : Int32 → SX → Prop} {r gs ge : Nat} (Q : ly_Q c kd pa sz it L op N) (T : tr_T c kd pa sz it) (hr : r < c) (pr : pa r = 0) (D : ∀ m, m < c → tr_w pa (m + 1) r → rw_D kd sz it L op rl rn oa ca m) (g0 : 0 < gs) (gs3 : gs < L r) (gl : ge < L r)
    (h : ∀ (m : Nat) (dl : Nat → Nat) (dm : Nat → Int32), er_L c pa L op r gs ge m dl → (∀ i, i < m → dm i = nI (dl i)) → post (nI m) (nI c, nI gs, nI ge, ar_n kd, ar_p pa, ar_n sz, ar_n it, ar_n pn, ar_n po, rl, rn, oa, ca, il, dm)) : wpX_findDoomed post (nI c, nI gs, nI ge, ar_n kd, ar_p pa, ar_n sz, ar_n it, ar_n pn, ar_n po, rl, rn, oa, ca, il, dm) := by
  have l336 := Q.2.2.2.2.1 r hr
  refine ⟨337, xx_fd (sg := sg) (eg := eg) (dm := dm) Q T hr pr D g0 gl h 336 gs 0 0 (fun _ => 0) dm (by omega) (Nat.le_refl _) (by omega) (fun i hi => by omega) (fun i j _ hj => by omega) (fun n hn l => ?_) (fun i hi => by omega) (Or.inl ⟨rfl, rfl⟩)⟩
  have := hn.2.1.2.1
  omega
/-! Y's set -/
theorem yy_in11 {c : Nat} {kd pa sz it pn po : Nat → Nat} {ln : Int32} {mk os cs cm : Nat → Int32} {L op N : Nat → Nat} {post : Int32 → SY → Prop} {r q : Nat} (Q : ly_Q c kd pa sz it L op N) (T : tr_T c kd pa sz it) (V : ∀ k, k < 8 → pl_ok c sz (pn k) (po k)) (hq : q < 4) (pr : pa r = 0) (w : tr_w pa (pn (2 * q) + 1) r) (w' : tr_w pa (pn (2 * q + 1) + 1) r) (E : ∀ m, m < c → tr_w pa (m + 1) r → rw_E kd sz it L op mk os cs m)
    (h : ∀ S : Int32, (∀ i, i < 32 → (bt S i = true ↔ er_D c pa L op r (ly_g kd it L op (pn (2 * q)) (po (2 * q))) (ly_g kd it L op (pn (2 * q + 1)) (po (2 * q + 1))) i)) → post S (nI c, ln, ar_n kd, ar_p pa, ar_n sz, ar_n it, ar_n pn, ar_n po, mk, os, cs, cm)) :
    ∀ d k S, k + d = c → (∀ i, i < 32 → (bt S i = true ↔ (i < k ∧ er_D c pa L op r (ly_g kd it L op (pn (2 * q)) (po (2 * q))) (ly_g kd it L op (pn (2 * q + 1)) (po (2 * q + 1))) i))) → wY_inside_11 post (nI q) (nI c) ln (ar_n kd) (ar_p pa) (ar_n sz) (ar_n it) (ar_n pn) (ar_n po) mk os cs cm (d + 1) S (nI k) := by
  have c24 := tr_c24 T
  intro d
  induction d with
  | zero =>
    intro k S hk hS
    obtain rfl : k = c := by omega
    refine br_t (nI_le (by omega) (by omega)) (h S fun i hi => ?_)
    rw [hS i hi]
    exact ⟨fun z => z.2, fun z => ⟨z.1, z⟩⟩
  | succ d ih =>
    intro k S hk hS
    have hkc : k < c := by omega
    have hki : vp_in (nI k) 24 := vp_in_nI (by omega) (by omega)
    have hl := tr_pl T hkc
    have no : ¬ er_D c pa L op r (ly_g kd it L op (pn (2 * q)) (po (2 * q))) (ly_g kd it L op (pn (2 * q + 1)) (po (2 * q + 1))) k → wY_inside_55 post (wY_inside_11 post (nI q) (nI c) ln (ar_n kd) (ar_p pa) (ar_n sz) (ar_n it) (ar_n pn) (ar_n po) mk os cs cm (d + 1)) (nI q) S (nI k) (nI c) ln (ar_n kd) (ar_p pa) (ar_n sz) (ar_n it) (ar_n pn) (ar_n po) mk os cs cm := by
      intro nd
      refine br_t rfl (nm_r (nI_1 k) (ih (k + 1) S (by omega) fun i hi => ?_))
      rw [hS i hi]
      constructor
      · exact fun z => ⟨by omega, z.2⟩
      · intro z
        have : i ≠ k := by rintro rfl; exact nd z.2
        exact ⟨by omega, z.2⟩
    have yes : er_D c pa L op r (ly_g kd it L op (pn (2 * q)) (po (2 * q))) (ly_g kd it L op (pn (2 * q + 1)) (po (2 * q + 1))) k → wY_inside_51 post (wY_inside_11 post (nI q) (nI c) ln (ar_n kd) (ar_p pa) (ar_n sz) (ar_n it) (ar_n pn) (ar_n po) mk os cs cm (d + 1)) (nI q) S (nI k) (nI c) ln (ar_n kd) (ar_p pa) (ar_n sz) (ar_n it) (ar_n pn) (ar_n po) mk os cs cm := by
      intro yd
      refine br_f (by decide) (nm_e (nm_r (nI_1 k) (ih (k + 1) _ (by omega) fun i hi => ?_)))
      rw [bb_set S k (by omega) hi, hS i hi]
      constructor
      · rintro (z | z)
        · exact ⟨by omega, z.2⟩
        · subst z; exact ⟨by omega, yd⟩
      · intro z
        by_cases e : i = k
        · exact Or.inr e
        · exact Or.inl ⟨by omega, z.2⟩
    refine br_f (nI_ge (by omega) (by omega)) (yy_isWithin Q T V hq hkc pr w w' E (fun W => br_f (by decide) (in_c hki ?_)) (fun W => br_t rfl (no fun z => W z.2.1)))
    rw [ar_pc _ (by omega)]
    cases e : pa k with
    | zero => exact br_t (by decide) (yes ⟨hkc, W, fun p ep => by omega⟩)
    | succ p =>
      have hp := (tr_pe T hkc e).1
      refine br_f (by rw [ar_neg (by omega)]; omega) (in_c hki ?_)
      rw [nI_pred]
      refine yy_isWithin Q T V hq hp pr w w' E (fun Wp => br_f (by decide) (no fun z => z.2.2 p e Wp)) (fun Wp => br_t rfl (yes ⟨hkc, W, fun p' ep => ?_⟩))
      have : p' = p := by omega
      subst this
      exact Wp
theorem yy_inside {c : Nat} {kd pa sz it pn po : Nat → Nat} {ln : Int32} {mk os cs cm : Nat → Int32} {L op N : Nat → Nat} {post : Int32 → SY → Prop} {r q : Nat} (Q : ly_Q c kd pa sz it L op N) (T : tr_T c kd pa sz it) (V : ∀ k, k < 8 → pl_ok c sz (pn k) (po k)) (hq : q < 4) (pr : pa r = 0) (w : tr_w pa (pn (2 * q) + 1) r) (w' : tr_w pa (pn (2 * q + 1) + 1) r)
    (h : ∀ ln mk os cs cm S, (∀ m, m < c → tr_w pa (m + 1) r → rw_E kd sz it L op mk os cs m) → (∀ i, i < 32 → (bt S i = true ↔ er_D c pa L op r (ly_g kd it L op (pn (2 * q)) (po (2 * q))) (ly_g kd it L op (pn (2 * q + 1)) (po (2 * q + 1))) i)) → post S (nI c, ln, ar_n kd, ar_p pa, ar_n sz, ar_n it, ar_n pn, ar_n po, mk, os, cs, cm)) : wpY_inside post (nI c, ln, ar_n kd, ar_p pa, ar_n sz, ar_n it, ar_n pn, ar_n po, mk, os, cs, cm) (nI q) := by
  unfold wpY_inside
  dsimp only
  rw [ix_2y]
  refine yy_writeOf Q T V (by omega) pr w ?_
  intro ln mk os cs cm E
  refine ⟨c + 1, yy_in11 Q T V hq pr w w' E (fun S hS => h ln mk os cs cm S E hS) c 0 0 (by omega) fun i hi => ?_⟩
  rw [b_0]
  exact ⟨fun z => absurd z (by decide), fun z => absurd z.1 (by omega)⟩
theorem yy_fo {c : Nat} {kd pa sz it pn po : Nat → Nat} {ln : Int32} {mk os cs cm : Nat → Int32} {op : Nat → Nat} {post : Int32 → Prop} {X : Int32} {S : Nat → Prop} {b0 : Nat} (c24 : c ≤ 24) (hX : ∀ i, i < 32 → (bt X i = true ↔ S i)) (hS : ∀ i, S i → i < c ∧ os i = nI (op i) ∧ op i < 1000) (h0 : S b0) (mn : ∀ s, S s → op b0 ≤ op s) (inj : ∀ s, S s → op s = op b0 → s = b0) (h : post (nI b0)) :
    ∀ d k best, k + d = c → ((best = -1 ∧ ∀ s, S s → k ≤ s) ∨ ∃ b, best = nI b ∧ S b ∧ b < k ∧ ∀ s, S s → s < k → op b ≤ op s) → wY_firstOf_4 post X (nI c) ln (ar_n kd) (ar_p pa) (ar_n sz) (ar_n it) (ar_n pn) (ar_n po) mk os cs cm (d + 1) best (nI k) := by
  intro d
  induction d with
  | zero =>
    intro k best hk I
    obtain rfl : k = c := by omega
    refine br_t (nI_le (by omega) (by omega)) ?_
    have c0 := (hS b0 h0).1
    rcases I with ⟨_, e⟩ | ⟨b, e, Sb, hb, m⟩
    · have := e b0 h0; omega
    · have e1 := m b0 h0 c0
      have e2 := mn b Sb
      rw [e, inj b Sb (by omega)]
      exact h
  | succ d ih =>
    intro k best hk I
    have hki : vp_in (nI k) 24 := vp_in_nI (by omega) (by omega)
    refine br_f (nI_ge (by omega) (by omega)) (cb_i ((bb_tst X k (by omega)).trans (hX k (by omega))) (fun Sk => ?_) (fun Sk => nm_r (nI_1 k) (ih (k + 1) best (by omega) ?_)))
    · have fk := hS k Sk
      rcases I with ⟨e, m⟩ | ⟨b, e, Sb, hb, m⟩
      · subst e
        refine br_t (by decide) (nm_r (nI_1 k) (ih (k + 1) _ (by omega) (Or.inr ⟨k, rfl, Sk, by omega, fun s hs l => ?_⟩)))
        have := m s hs
        have : s = k := by omega
        subst this
        exact Nat.le_refl _
      · subst e
        have fb := hS b Sb
        refine br_f (nI_pos (by omega)) (in_c hki (in_c (vp_in_nI (by omega) (by omega)) ?_))
        rw [nI_clamp (by omega), nI_clamp (by omega), fk.2.1, fb.2.1]
        refine cb_i (nI_leI (by omega) (by omega)) (fun l => nm_r (nI_1 k) (ih (k + 1) _ (by omega) (Or.inr ⟨b, rfl, Sb, by omega, fun s hs l2 => ?_⟩))) (fun l => nm_r (nI_1 k) (ih (k + 1) _ (by omega) (Or.inr ⟨k, rfl, Sk, by omega, fun s hs l2 => ?_⟩)))
        · by_cases e : s = k
          · subst e; exact l
          · exact m s hs (by omega)
        · by_cases e : s = k
          · subst e; exact Nat.le_refl _
          · have := m s hs (by omega); omega
    · rcases I with ⟨e, m⟩ | ⟨b, e, Sb, hb, m⟩
      · refine Or.inl ⟨e, fun s hs => ?_⟩
        have := m s hs
        have : s ≠ k := by rintro rfl; exact Sk hs
        omega
      · refine Or.inr ⟨b, e, Sb, by omega, fun s hs l => m s hs ?_⟩
        have : s ≠ k := by rintro rfl; exact Sk hs
        omega
theorem yy_firstOf {c : Nat} {kd pa sz it pn po : Nat → Nat} {ln : Int32} {mk os cs cm : Nat → Int32} {op : Nat → Nat} {post : Int32 → Prop} {X : Int32} {S : Nat → Prop} {b0 : Nat} (c24 : c ≤ 24) (hX : ∀ i, i < 32 → (bt X i = true ↔ S i)) (hS : ∀ i, S i → i < c ∧ os i = nI (op i) ∧ op i < 1000) (h0 : S b0) (mn : ∀ s, S s → op b0 ≤ op s) (inj : ∀ s, S s → op s = op b0 → s = b0) (h : post (nI b0)) : wpY_firstOf post (nI c, ln, ar_n kd, ar_p pa, ar_n sz, ar_n it, ar_n pn, ar_n po, mk, os, cs, cm) X :=
  ⟨c + 1, yy_fo c24 hX hS h0 mn inj h c 0 (-1) (by omega) (Or.inl ⟨rfl, fun s _ => Nat.zero_le s⟩)⟩
