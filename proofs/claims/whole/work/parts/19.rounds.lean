/-! ===== mathematics: rounds ===== -/
abbrev NS : Type := Tb × Tb × Bool
def ns1 (c t : Tb) (l : Nat) (s : NS) : NS := if 0 < c l then (stA s.1 s.2.1 (l / 4) (4 + l % 4) (c l) (2 * t l + 1), stB s.1 s.2.1 (l / 4) (4 + l % 4) (c l) (2 * t l + 1), s.2.2 || decide (impW s.1 s.2.1 (l / 4) (4 + l % 4) (c l) (2 * t l + 1))) else s
def ns2 (c t : Tb) (l : Nat) (s : NS) : NS := if 0 < t l then (stA s.1 s.2.1 (4 + l % 4) (l / 4) (2 * t l - 1) (c l), stB s.1 s.2.1 (4 + l % 4) (l / 4) (2 * t l - 1) (c l), s.2.2 || decide (impW s.1 s.2.1 (4 + l % 4) (l / 4) (2 * t l - 1) (c l))) else s
def rdN (c t A B : Tb) : Nat → NS
  | 0 => (A, B, false)
  | n + 1 => ns2 c t n (ns1 c t n (rdN c t A B n))
section Rounds
variable {c t : Tb}
theorem ns1_PI (ho : obeyT c t) (h0 : ∀ l, l < 16 → 0 ≤ t l) {l : Nat} (hl : l < 16) {s : NS} (h : PI c t s.1 s.2.1) : PI c t (ns1 c t l s).1 (ns1 c t l s).2.1 ∧ leV s.1 s.2.1 (ns1 c t l s).1 (ns1 c t l s).2.1 ∧ (0 < c l → 0 < s.1 (l / 4) → 0 < (ns1 c t l s).1 (4 + l % 4) ∧ s.1 (l / 4) * c l * (ns1 c t l s).2.1 (4 + l % 4) ≤ (ns1 c t l s).1 (4 + l % 4) * (s.2.1 (l / 4) * (2 * t l + 1))) := by
  have e : 4 * (l / 4) + l % 4 = l := by omega
  unfold ns1
  split
  · next hc =>
    have tl := h0 l hl
    have h1 := PI_P ho h0 h (d := l / 4) (p := l % 4) (by omega) (by omega) (by rw [e]; exact hc)
    rw [e] at h1
    have h2 := st_le (u := l / 4) (v := 4 + l % 4) h.1 (by omega) (by omega) hc (show 0 < 2 * t l + 1 by omega)
    exact ⟨h1, h2.1, fun _ q => h2.2.2 q⟩
  · next hc => exact ⟨h, leV.rf fun v hv => (h.1 v hv).2, fun q => absurd q hc⟩
theorem ns2_PI (ho : obeyT c t) (h0 : ∀ l, l < 16 → 0 ≤ t l) (hz : ∀ l, l < 16 → 0 < t l → 0 < c l) {l : Nat} (hl : l < 16) {s : NS} (h : PI c t s.1 s.2.1) : PI c t (ns2 c t l s).1 (ns2 c t l s).2.1 ∧ leV s.1 s.2.1 (ns2 c t l s).1 (ns2 c t l s).2.1 ∧ (0 < t l → 0 < s.1 (4 + l % 4) → 0 < (ns2 c t l s).1 (l / 4) ∧ s.1 (4 + l % 4) * (2 * t l - 1) * (ns2 c t l s).2.1 (l / 4) ≤ (ns2 c t l s).1 (l / 4) * (s.2.1 (4 + l % 4) * c l)) := by
  have e : 4 * (l / 4) + l % 4 = l := by omega
  unfold ns2
  split
  · next ht =>
    have hc := hz l hl ht
    have h1 := PI_D ho h0 h (d := l / 4) (p := l % 4) (by omega) (by omega) (by rw [e]; exact ht) (by rw [e]; exact hc)
    rw [e] at h1
    have h2 := st_le (u := 4 + l % 4) (v := l / 4) h.1 (by omega) (by omega) (show 0 < 2 * t l - 1 by omega) hc
    exact ⟨h1, h2.1, fun _ q => h2.2.2 q⟩
  · next hc => exact ⟨h, leV.rf fun v hv => (h.1 v hv).2, fun q => absurd q hc⟩
theorem edge_up {a b a1 b1 a2 b2 a3 b3 x y : Int} (h1 : a * b1 ≤ a1 * b) (h2 : a1 * x * b2 ≤ a2 * (b1 * y)) (h3 : a2 * b3 ≤ a3 * b2) (pb : 0 < b) (pb1 : 0 < b1) (pb2 : 0 < b2) (pb3 : 0 < b3) (px : 0 < x) (py : 0 < y) : a * x * b3 ≤ a3 * (b * y) := by
  have e1 : a * x * (b1 * y) ≤ a1 * x * (b * y) := by
    have := Int.mul_le_mul_of_nonneg_right h1 (show 0 ≤ x * y from Int.mul_nonneg (by omega) (by omega))
    have e2 : a * x * (b1 * y) = a * b1 * (x * y) := by grind
    have e3 : a1 * x * (b * y) = a1 * b * (x * y) := by grind
    omega
  have p1 := Int.mul_pos pb py
  have p2 := Int.mul_pos pb1 py
  exact t_le (t_le e1 h2 p1 p2 pb2) h3 p1 pb2 pb3
theorem rd_all (ho : obeyT c t) (h0 : ∀ l, l < 16 → 0 ≤ t l) (hz : ∀ l, l < 16 → 0 < t l → 0 < c l) {A B : Tb} (h : PI c t A B) : ∀ n, n ≤ 16 → PI c t (rdN c t A B n).1 (rdN c t A B n).2.1 ∧ leV A B (rdN c t A B n).1 (rdN c t A B n).2.1 ∧
    (∀ l, l < n → 0 < c l → 0 < A (l / 4) → 0 < (rdN c t A B n).1 (4 + l % 4) ∧ A (l / 4) * c l * (rdN c t A B n).2.1 (4 + l % 4) ≤ (rdN c t A B n).1 (4 + l % 4) * (B (l / 4) * (2 * t l + 1))) ∧
    (∀ l, l < n → 0 < t l → 0 < A (4 + l % 4) → 0 < (rdN c t A B n).1 (l / 4) ∧ A (4 + l % 4) * (2 * t l - 1) * (rdN c t A B n).2.1 (l / 4) ≤ (rdN c t A B n).1 (l / 4) * (B (4 + l % 4) * c l)) := by
  intro n
  induction n with
  | zero => intro _; exact ⟨h, leV.rf fun v hv => (h.1 v hv).2, fun l hl => by omega, fun l hl => by omega⟩
  | succ n ih =>
    intro hn
    obtain ⟨i1, i2, i3, i4⟩ := ih (by omega)
    simp only [rdN]
    obtain ⟨a1, a2, a3⟩ := ns1_PI ho h0 (show n < 16 by omega) i1
    obtain ⟨b1, b2, b3⟩ := ns2_PI ho h0 hz (show n < 16 by omega) a1
    generalize rdN c t A B n = s at *
    generalize ns1 c t n s = s1 at *
    generalize ns2 c t n s1 = s2 at *
    have l02 := (i2.tr a2).tr b2
    refine ⟨b1, l02, fun l hl hc hA => ?_, fun l hl ht hA => ?_⟩
    · have v1 : 4 + l % 4 < 8 := by omega
      have u1 : l / 4 < 8 := by omega
      have tl := h0 l (by omega)
      by_cases e : l = n
      · subst e
        obtain ⟨q1, q2⟩ := a3 hc ((i2 _ u1).2.2.2 hA)
        refine ⟨(b2 _ v1).2.2.2 q1, edge_up (i2 _ u1).2.2.1 q2 (b2 _ v1).2.2.1 (i2 _ u1).1 (i2 _ u1).2.1 (b2 _ v1).1 (b2 _ v1).2.1 hc (by omega)⟩
      · obtain ⟨q1, q2⟩ := i3 l (by omega) hc hA
        have l2 := a2.tr b2
        exact ⟨(l2 _ v1).2.2.2 q1, edge_up (Int.le_refl _) q2 (l2 _ v1).2.2.1 (i2 _ u1).1 (i2 _ u1).1 (l2 _ v1).1 (l2 _ v1).2.1 hc (by omega)⟩
    · have v1 : 4 + l % 4 < 8 := by omega
      have u1 : l / 4 < 8 := by omega
      have hc := hz l (by omega) ht
      by_cases e : l = n
      · subst e
        have l1 := i2.tr a2
        obtain ⟨q1, q2⟩ := b3 ht ((l1 _ v1).2.2.2 hA)
        exact ⟨q1, edge_up (l1 _ v1).2.2.1 q2 (Int.le_refl _) (l1 _ v1).1 (l1 _ v1).2.1 (b2 _ u1).2.1 (b2 _ u1).2.1 (by omega) hc⟩
      · obtain ⟨q1, q2⟩ := i4 l (by omega) ht hA
        have l2 := a2.tr b2
        exact ⟨(l2 _ u1).2.2.2 q1, edge_up (Int.le_refl _) q2 (l2 _ u1).2.2.1 (i2 _ v1).1 (i2 _ v1).1 (l2 _ u1).1 (l2 _ u1).2.1 (by omega) hc⟩
def nums (c t : Tb) : Nat → Tb × Tb
  | 0 => (fun j => if j < 4 then 1 else 0, fun _ => 1)
  | r + 1 => ((rdN c t (nums c t r).1 (nums c t r).2 16).1, (rdN c t (nums c t r).1 (nums c t r).2 16).2.1)
def chg (c t : Tb) (r : Nat) : Bool := (rdN c t (nums c t r).1 (nums c t r).2 16).2.2
theorem nums_PI (ho : obeyT c t) (h0 : ∀ l, l < 16 → 0 ≤ t l) (hz : ∀ l, l < 16 → 0 < t l → 0 < c l) : ∀ r, PI c t (nums c t r).1 (nums c t r).2 := by
  intro r
  induction r with
  | zero =>
    refine ⟨fun v _ => ?_, fun d hd => ?_, fun d hd => ?_, fun p hp hq => ?_⟩
    · simp only [nums]; split <;> omega
    · simp only [nums, if_pos hd]; omega
    · refine ⟨0, fun _ => d, fun _ => 0, by omega, ⟨fun _ _ => hd, fun i hi => by omega⟩, rfl, fun i j hi hj _ => by omega, fun i j hi _ _ => by omega, ?_, ?_, ?_, fun j hj => ?_, fun j hj => by omega⟩
      · simp [nums, hd, alW, beW, pr]
      · simp [nums, hd, alW, pr]
      · simp [nums, beW, pr]
      · have : j = 0 := by omega
        subst this
        simp [nums, hd, alW, beW, pr]
    · simp only [nums, if_neg (show ¬ 4 + p < 4 by omega)] at hq
      omega
  | succ r ih => exact (rd_all ho h0 hz ih 16 (Nat.le_refl _)).1
def dom (c t A B : Tb) (r : Nat) : Prop := (∀ n D P, 2 * n ≤ r → toD c t n D P → alW c t D P n * B (D n) ≤ A (D n) * beW c t D P n) ∧ ∀ n D P, 2 * n + 1 ≤ r → toP c t n D P → 0 < A (4 + P n) ∧ alW c t D P n * aW c D P n * B (4 + P n) ≤ A (4 + P n) * (beW c t D P n * bW t D P n)
theorem nums_dom (ho : obeyT c t) (h0 : ∀ l, l < 16 → 0 ≤ t l) (hz : ∀ l, l < 16 → 0 < t l → 0 < c l) : ∀ r, dom c t (nums c t r).1 (nums c t r).2 r := by
  intro r
  induction r with
  | zero =>
    refine ⟨fun n D P hn hd => ?_, fun n D P hn => by omega⟩
    have : n = 0 := by omega
    subst this
    have := hd.1 0 (by omega)
    simp [nums, alW, beW, pr, this]
  | succ r ih =>
    have hPI := nums_PI ho h0 hz r
    obtain ⟨j1, j2, j3, j4⟩ := rd_all ho h0 hz hPI 16 (Nat.le_refl _)
    refine ⟨fun n D P hn hd => ?_, fun n D P hn hp => ?_⟩
    · have dn := hd.1 n (by omega)
      have wp := w_pos h0 hd
      obtain ⟨k1, k2, k3, k4⟩ := j2 (D n) (by omega)
      by_cases e : 2 * n ≤ r
      · exact t_le (ih.1 n D P e hd) k3 wp.2 k1 k2
      · obtain ⟨m, rfl⟩ : ∃ m, n = m + 1 := ⟨n - 1, by omega⟩
        have hv := hd.2 m (by omega)
        have hdm := hd.1 m (by omega)
        have hpm : toP c t m D P := ⟨⟨fun i hi => hd.1 i (by omega), fun i hi => hd.2 i (by omega)⟩, hv.1, hv.2.1⟩
        obtain ⟨q1, q2⟩ := ih.2 m D P (by omega) hpm
        have el : (4 * D (m + 1) + P m) / 4 = D (m + 1) := by omega
        have em : (4 * D (m + 1) + P m) % 4 = P m := by omega
        have j := j4 (4 * D (m + 1) + P m) (by omega) hv.2.2.1 (by rw [em]; exact q1)
        rw [el, em] at j
        have wm := w_pos h0 hpm.1
        have tm : 0 ≤ t (4 * D m + P m) := h0 _ (by omega)
        have hb : 0 < bW t D P m := by unfold bW; omega
        have pb := (hPI.1 (4 + P m) (by omega)).2
        have s1 : alW c t D P (m + 1) = alW c t D P m * aW c D P m * (2 * t (4 * D (m + 1) + P m) - 1) := by unfold alW; simp only [pr]; unfold gW; rw [Int.mul_assoc]
        have s2 : beW c t D P (m + 1) = beW c t D P m * bW t D P m * c (4 * D (m + 1) + P m) := by unfold beW; simp only [pr]; unfold hW; rw [Int.mul_assoc]
        rw [s1, s2]
        exact edge_up q2 j.2 (Int.le_refl _) (Int.mul_pos wm.2 hb) pb k2 k2 (by have := hv.2.2.1; omega) hv.2.2.2
    · obtain ⟨hd, hpn, hcn⟩ := hp
      have dn := hd.1 n (by omega)
      have wp := w_pos h0 hd
      have tn : 0 ≤ t (4 * D n + P n) := h0 _ (by omega)
      have hb : 0 < bW t D P n := by unfold bW; omega
      obtain ⟨k1, k2, k3, k4⟩ := j2 (4 + P n) (by omega)
      by_cases e : 2 * n + 1 ≤ r
      · obtain ⟨q1, q2⟩ := ih.2 n D P e ⟨hd, hpn, hcn⟩
        exact ⟨k4 q1, t_le q2 k3 (Int.mul_pos wp.2 hb) k1 k2⟩
      · have q := ih.1 n D P (by omega) hd
        have el : (4 * D n + P n) / 4 = D n := by omega
        have em : (4 * D n + P n) % 4 = P n := by omega
        have j := j3 (4 * D n + P n) (by omega) hcn (by rw [el]; exact hPI.2.1 _ dn)
        rw [el, em] at j
        have pb := (hPI.1 (D n) (by omega)).2
        refine ⟨j.1, ?_⟩
        exact edge_up q j.2 (Int.le_refl _) wp.2 pb k2 k2 hcn (by omega)
theorem rd_same {A B : Tb} : ∀ n, (rdN c t A B n).2.2 = false → (rdN c t A B n).1 = A ∧ (rdN c t A B n).2.1 = B := by
  intro n
  induction n with
  | zero => intro _; exact ⟨rfl, rfl⟩
  | succ n ih =>
    intro h
    simp only [rdN] at h ⊢
    have e2 : (ns1 c t n (rdN c t A B n)).2.2 = false ∧ (ns2 c t n (ns1 c t n (rdN c t A B n))).1 = (ns1 c t n (rdN c t A B n)).1 ∧ (ns2 c t n (ns1 c t n (rdN c t A B n))).2.1 = (ns1 c t n (rdN c t A B n)).2.1 := by
      generalize ns1 c t n (rdN c t A B n) = s at *
      unfold ns2 at h ⊢
      split
      · next q =>
        rw [if_pos q] at h
        simp only [Bool.or_eq_false_iff, decide_eq_false_iff_not] at h
        exact ⟨h.1, by unfold stA; rw [if_neg h.2], by unfold stB; rw [if_neg h.2]⟩
      · next q => rw [if_neg q] at h; exact ⟨h, rfl, rfl⟩
    have e1 : (rdN c t A B n).2.2 = false ∧ (ns1 c t n (rdN c t A B n)).1 = (rdN c t A B n).1 ∧ (ns1 c t n (rdN c t A B n)).2.1 = (rdN c t A B n).2.1 := by
      have h' := e2.1
      generalize rdN c t A B n = s at *
      unfold ns1 at h' ⊢
      split
      · next q =>
        rw [if_pos q] at h'
        simp only [Bool.or_eq_false_iff, decide_eq_false_iff_not] at h'
        exact ⟨h'.1, by unfold stA; rw [if_neg h'.2], by unfold stB; rw [if_neg h'.2]⟩
      · next q => rw [if_neg q] at h'; exact ⟨h', rfl, rfl⟩
    obtain ⟨i1, i2⟩ := ih e1.1
    exact ⟨e2.2.1.trans (e1.2.1.trans i1), e2.2.2.trans (e1.2.2.trans i2)⟩
/-- from the seventh round on nothing changes -/
theorem still (ho : obeyT c t) (h0 : ∀ l, l < 16 → 0 ≤ t l) (hz : ∀ l, l < 16 → 0 < t l → 0 < c l) {A B : Tb} (hPI : PI c t A B) (hD : dom c t A B 7) : ∀ n, n ≤ 16 → rdN c t A B n = (A, B, false) := by
  intro n
  induction n with
  | zero => intro _; rfl
  | succ n ih =>
    intro hn
    have en : 4 * (n / 4) + n % 4 = n := by omega
    simp only [rdN]
    rw [ih (by omega)]
    have s1 : ns1 c t n (A, B, false) = (A, B, false) := by
      unfold ns1
      split
      · next hc =>
        have hni : ¬ impW A B (n / 4) (4 + n % 4) (c n) (2 * t n + 1) := by
          obtain ⟨m, D, P, hp⟩ := hPI.2.2.1 (n / 4) (by omega)
          obtain ⟨P', g1, g2, g3, g4, g5, g6⟩ := ext_P h0 hp (show n % 4 < 4 by omega) (by rw [en]; exact hc)
          rw [en] at g5 g6
          have q := hD.2 m D P' (by have := hp.1; omega) g1
          obtain ⟨h1, h2, h3, h4, h5, h6, h7, h8, h9⟩ := hp
          rw [g2, g5, g6, (g4 m (Nat.le_refl m)).1, (g4 m (Nat.le_refl m)).2] at q
          exact imp_not ⟨q.1, no_gain h6 (w_pos h0 h2).2 (hPI.1 (n / 4) (by omega)).2 q.2⟩
        simp only [stA, stB, if_neg hni, decide_eq_false hni, Bool.or_false]
      · rfl
    rw [s1]
    unfold ns2
    split
    · next ht =>
      have hc := hz n (by omega) ht
      have hni : ¬ impW A B (4 + n % 4) (n / 4) (2 * t n - 1) (c n) := by
        by_cases hA : 0 < A (4 + n % 4)
        · obtain ⟨m, D, P, hp⟩ := hPI.2.2.2 (n % 4) (by omega) hA
          obtain ⟨D', g1, g2, g3, g4, g5, g6⟩ := ext_D hp (show n / 4 < 4 by omega) (by rw [en]; exact ht) (by rw [en]; exact hc)
          rw [en] at g5 g6
          refine imp_not ⟨hPI.2.1 _ (by omega), ?_⟩
          by_cases e3 : m + 1 ≤ 3
          · have q := hD.1 (m + 1) D' P (by omega) g1
            obtain ⟨h1, h2, h3, h4, h5, h6, h7, h8, h9⟩ := hp
            have tm : 0 ≤ t (4 * D m + P m) := h0 _ (by have := h2.1.1 m (by omega); have := h2.2.1; omega)
            have hb : 0 < bW t D P m := by unfold bW; omega
            rw [g2, g5, g6] at q
            exact no_gain h6 (Int.mul_pos (w_pos h0 h2.1).2 hb) (hPI.1 (4 + n % 4) (by omega)).2 q
          · obtain ⟨h1, h2, h3, h4, h5, h6, h7, h8, h9⟩ := id hp
            have hj : ∃ j, j ≤ m ∧ D j = n / 4 := by
              apply Classical.byContradiction
              intro hno
              have : m + 2 ≤ 4 := pig (f := D') (n := m + 2) (fun i hi => g1.1 i (by omega)) (fun a b ha hb he => by
                by_cases ea : a = m + 1 <;> by_cases eb : b = m + 1
                · omega
                · rw [ea, g2, g3 b (by omega)] at he; exact absurd ⟨b, by omega, he.symm⟩ hno
                · rw [eb, g2, g3 a (by omega)] at he; exact absurd ⟨a, by omega, he⟩ hno
                · rw [g3 a (by omega), g3 b (by omega)] at he; exact h4 a b (by omega) (by omega) he)
              omega
            obtain ⟨j, hj1, hj2⟩ := hj
            have := no_D ho h0 hPI (d := n / 4) (by omega) (by omega) hp (by rw [en]; exact ht) (by rw [en]; exact hc) hj1 hj2
            rw [en] at this
            exact this
        · rintro ⟨q, -⟩
          have := (hPI.1 (4 + n % 4) (by omega)).1
          omega
      simp only [stA, stB, if_neg hni, decide_eq_false hni, Bool.or_false]
    · rfl
theorem chg7 (ho : obeyT c t) (h0 : ∀ l, l < 16 → 0 ≤ t l) (hz : ∀ l, l < 16 → 0 < t l → 0 < c l) : chg c t 7 = false := by
  unfold chg
  rw [still ho h0 hz (nums_PI ho h0 hz 7) (nums_dom ho h0 hz 7) 16 (Nat.le_refl _)]
end Rounds
