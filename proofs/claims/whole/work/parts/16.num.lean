/-! ===== mathematics: the numbers ===== -/
theorem pr_split (f : Nat → Int) (j : Nat) : ∀ n, pr (j + n) f = pr j f * pr n (fun i => f (j + i))
  | 0 => by simp [pr]
  | n + 1 => by
    rw [show j + (n + 1) = (j + n) + 1 by omega]
    simp only [pr]
    rw [pr_split f j n, Int.mul_assoc]
def isRing0 (k : Nat) (D P : Nat → Nat) : Prop := 2 ≤ k ∧ k ≤ 4 ∧ (∀ i, i < k → D i < 4 ∧ P i < 4) ∧ (∀ i j, i < k → j < k → D i = D j → i = j) ∧ ∀ i j, i < k → j < k → P i = P j → i = j
/-- begun at another of its districts -/
theorem rot_one {c t : Tb} {k : Nat} {D P : Nat → Nat} (m : Nat) (h : isRing0 k D P) (hm : m < k) (hr : canT c t k D P) :
    isRing0 k (fun i => D ((i + m) % k)) (fun i => P ((i + m) % k)) ∧ canT c t k (fun i => D ((i + m) % k)) (fun i => P ((i + m) % k)) ∧ upR c t k (fun i => D ((i + m) % k)) (fun i => P ((i + m) % k)) k = upR c t k D P k ∧ dnR c t k (fun i => D ((i + m) % k)) (fun i => P ((i + m) % k)) k = dnR c t k D P k := by
  obtain ⟨h1, h2, h3, h4, h5⟩ := h
  have hmod : ∀ i, (i + m) % k < k := fun i => Nat.mod_lt _ (by omega)
  have inj : ∀ i j, i < k → j < k → (i + m) % k = (j + m) % k → i = j := by
    intro i j hi hj he
    rcases (show k = 2 ∨ k = 3 ∨ k = 4 by omega) with rfl | rfl | rfl <;> omega
  have nx : ∀ i, i < k → (nxt k i + m) % k = nxt k ((i + m) % k) := by
    intro i hi
    unfold nxt
    rcases (show k = 2 ∨ k = 3 ∨ k = 4 by omega) with rfl | rfl | rfl <;> split <;> split <;> omega
  have em : ∀ i, mo (fun i => D ((i + m) % k)) (fun i => P ((i + m) % k)) i = mo D P ((i + m) % k) := fun i => rfl
  have el : ∀ i, i < k → le k (fun i => D ((i + m) % k)) (fun i => P ((i + m) % k)) i = le k D P ((i + m) % k) := by
    intro i hi
    unfold le
    dsimp only
    rw [nx i hi]
  have prr : ∀ f : Nat → Int, pr k (fun i => f ((i + m) % k)) = pr k f := by
    intro f
    rcases (show k = 2 ∨ k = 3 ∨ k = 4 by omega) with rfl | rfl | rfl
    · rcases (show m = 0 ∨ m = 1 by omega) with rfl | rfl <;> simp [pr] <;> grind
    · rcases (show m = 0 ∨ m = 1 ∨ m = 2 by omega) with rfl | rfl | rfl <;> simp [pr] <;> grind
    · rcases (show m = 0 ∨ m = 1 ∨ m = 2 ∨ m = 3 by omega) with rfl | rfl | rfl | rfl <;> simp [pr] <;> grind
  refine ⟨⟨h1, h2, fun i _ => h3 _ (hmod i), fun i j hi hj he => inj i j hi hj (h4 _ _ (hmod i) (hmod j) he), fun i j hi hj he => inj i j hi hj (h5 _ _ (hmod i) (hmod j) he)⟩, fun i hi => ?_, ?_, ?_⟩
  · rw [em, el i hi]; exact hr _ (hmod i)
  · unfold upR
    rw [← prr (fun i => c (mo D P i) * (2 * t (le k D P i) - 1))]
    exact pr_ext fun i hi => by rw [em, el i hi]
  · unfold dnR
    rw [← prr (fun i => c (le k D P i) * (2 * t (mo D P i) + 1))]
    exact pr_ext fun i hi => by rw [em, el i hi]
theorem ob_any {c t : Tb} (ho : obeyT c t) {k : Nat} {D P : Nat → Nat} (h : isRing0 k D P) (hr : canT c t k D P) : upR c t k D P k ≤ dnR c t k D P k := by
  obtain ⟨m, hm, hl⟩ : ∃ m, m < k ∧ ∀ i, i < k → i ≠ m → D m < D i := by
    have h4 := h.2.2.2.1
    have hk := h.1
    have hk4 := h.2.1
    have ne : ∀ i j, i < k → j < k → i ≠ j → D i ≠ D j := fun i j hi hj q e => q (h4 i j hi hj e)
    rcases (show k = 2 ∨ k = 3 ∨ k = 4 by omega) with rfl | rfl | rfl
    · have a := ne 0 1 (by omega) (by omega) (by omega)
      by_cases q : D 0 < D 1
      · exact ⟨0, by omega, fun i hi hn => by rcases (show i = 1 by omega) with rfl; exact q⟩
      · exact ⟨1, by omega, fun i hi hn => by rcases (show i = 0 by omega) with rfl; omega⟩
    · have a := ne 0 1 (by omega) (by omega) (by omega)
      have b := ne 0 2 (by omega) (by omega) (by omega)
      have e := ne 1 2 (by omega) (by omega) (by omega)
      by_cases q0 : D 0 < D 1 ∧ D 0 < D 2
      · exact ⟨0, by omega, fun i hi hn => by rcases (show i = 1 ∨ i = 2 by omega) with rfl | rfl <;> omega⟩
      · by_cases q1 : D 1 < D 0 ∧ D 1 < D 2
        · exact ⟨1, by omega, fun i hi hn => by rcases (show i = 0 ∨ i = 2 by omega) with rfl | rfl <;> omega⟩
        · exact ⟨2, by omega, fun i hi hn => by rcases (show i = 0 ∨ i = 1 by omega) with rfl | rfl <;> omega⟩
    · have a := ne 0 1 (by omega) (by omega) (by omega)
      have b := ne 0 2 (by omega) (by omega) (by omega)
      have b3 := ne 0 3 (by omega) (by omega) (by omega)
      have e := ne 1 2 (by omega) (by omega) (by omega)
      have e3 := ne 1 3 (by omega) (by omega) (by omega)
      have g := ne 2 3 (by omega) (by omega) (by omega)
      by_cases q0 : D 0 < D 1 ∧ D 0 < D 2 ∧ D 0 < D 3
      · exact ⟨0, by omega, fun i hi hn => by rcases (show i = 1 ∨ i = 2 ∨ i = 3 by omega) with rfl | rfl | rfl <;> omega⟩
      · by_cases q1 : D 1 < D 0 ∧ D 1 < D 2 ∧ D 1 < D 3
        · exact ⟨1, by omega, fun i hi hn => by rcases (show i = 0 ∨ i = 2 ∨ i = 3 by omega) with rfl | rfl | rfl <;> omega⟩
        · by_cases q2 : D 2 < D 0 ∧ D 2 < D 1 ∧ D 2 < D 3
          · exact ⟨2, by omega, fun i hi hn => by rcases (show i = 0 ∨ i = 1 ∨ i = 3 by omega) with rfl | rfl | rfl <;> omega⟩
          · exact ⟨3, by omega, fun i hi hn => by rcases (show i = 0 ∨ i = 1 ∨ i = 2 by omega) with rfl | rfl | rfl <;> omega⟩
  obtain ⟨⟨g1, g2, g3, g4, g5⟩, hc2, e1, e2⟩ := rot_one m h hm hr
  rw [← e1, ← e2]
  refine ho k _ _ ⟨g1, g2, g3, g4, g5, fun i hi hk => ?_⟩ hc2
  show D ((0 + m) % k) < D ((i + m) % k)
  rw [Nat.zero_add, Nat.mod_eq_of_lt hm]
  refine hl _ (Nat.mod_lt _ (by omega)) fun e => ?_
  rcases (show k = 2 ∨ k = 3 ∨ k = 4 by omega) with rfl | rfl | rfl <;> omega
/-- ways: to a party's place from a district's, and back; nodes 0 .. 3 and 4 .. 7 -/
def aW (c : Tb) (D P : Nat → Nat) (i : Nat) : Int := c (4 * D i + P i)
def bW (t : Tb) (D P : Nat → Nat) (i : Nat) : Int := 2 * t (4 * D i + P i) + 1
def gW (t : Tb) (D P : Nat → Nat) (i : Nat) : Int := 2 * t (4 * D (i + 1) + P i) - 1
def hW (c : Tb) (D P : Nat → Nat) (i : Nat) : Int := c (4 * D (i + 1) + P i)
def alW (c t : Tb) (D P : Nat → Nat) (n : Nat) : Int := pr n (fun i => aW c D P i * gW t D P i)
def beW (c t : Tb) (D P : Nat → Nat) (n : Nat) : Int := pr n (fun i => bW t D P i * hW c D P i)
/-- a way to the district D n -/
def toD (c t : Tb) (n : Nat) (D P : Nat → Nat) : Prop := (∀ i, i ≤ n → D i < 4) ∧ (∀ i, i < n → P i < 4 ∧ 0 < c (4 * D i + P i) ∧ 0 < t (4 * D (i + 1) + P i) ∧ 0 < c (4 * D (i + 1) + P i))
/-- a way to the party P n -/
def toP (c t : Tb) (n : Nat) (D P : Nat → Nat) : Prop := toD c t n D P ∧ P n < 4 ∧ 0 < c (4 * D n + P n)
theorem w_pos {c t : Tb} (h0 : ∀ l, l < 16 → 0 ≤ t l) {n : Nat} {D P : Nat → Nat} (h : toD c t n D P) : 0 < alW c t D P n ∧ 0 < beW c t D P n := by
  constructor
  · refine pr_pos fun i hi => Int.mul_pos (h.2 i hi).2.1 ?_
    have := (h.2 i hi).2.2.1
    unfold gW; omega
  · refine pr_pos fun i hi => Int.mul_pos ?_ (h.2 i hi).2.2.2
    have h1 := (h.2 i hi).1
    have h2 := h.1 i (by omega)
    have := h0 (4 * D i + P i) (by omega)
    unfold bW; omega
theorem w_bound {c t : Tb} (hc : ∀ l, l < 16 → 0 ≤ c l ∧ c l ≤ 500) (h0 : ∀ l, l < 16 → 0 ≤ t l ∧ t l ≤ 20) {n : Nat} {D P : Nat → Nat} (h : toD c t n D P) : alW c t D P n ≤ pr n (fun _ => 19500) ∧ beW c t D P n ≤ pr n (fun _ => 20500) := by
  constructor
  · refine (pr_le fun i hi => ⟨?_, ?_⟩).2
    · exact Int.mul_nonneg (by have := (h.2 i hi).2.1; unfold aW; omega) (by have := (h.2 i hi).2.2.1; unfold gW; omega)
    · have h1 := (h.2 i hi).1
      have h2 := h.1 i (by omega)
      have h3 := h.1 (i + 1) (by omega)
      have a1 := hc (4 * D i + P i) (by omega)
      have a2 := h0 (4 * D (i + 1) + P i) (by omega)
      have a3 := (h.2 i hi).2.2.1
      show aW c D P i * gW t D P i ≤ 500 * 39
      exact Int.mul_le_mul (by unfold aW; omega) (by unfold gW; omega) (by unfold gW; omega) (by omega)
  · refine (pr_le fun i hi => ⟨?_, ?_⟩).2
    · have h1 := (h.2 i hi).1
      have h2 := h.1 i (by omega)
      have a2 := h0 (4 * D i + P i) (by omega)
      exact Int.mul_nonneg (by unfold bW; omega) (by have := (h.2 i hi).2.2.2; unfold hW; omega)
    · have h1 := (h.2 i hi).1
      have h2 := h.1 i (by omega)
      have h3 := h.1 (i + 1) (by omega)
      have a1 := hc (4 * D (i + 1) + P i) (by omega)
      have a2 := h0 (4 * D i + P i) (by omega)
      show bW t D P i * hW c D P i ≤ 41 * 500
      exact Int.mul_le_mul (by unfold bW; omega) (by unfold hW; omega) (by unfold hW; omega) (by omega)
/-- back from the party P n to the district D j: nothing is gained -/
theorem back_D {c t : Tb} (ho : obeyT c t) (h0 : ∀ l, l < 16 → 0 ≤ t l) {n : Nat} {D P : Nat → Nat} (h : toP c t n D P) (iD : ∀ i j, i ≤ n → j ≤ n → D i = D j → i = j) (iP : ∀ i j, i ≤ n → j ≤ n → P i = P j → i = j) {j : Nat} (hj : j ≤ n) (ht : 0 < t (4 * D j + P n)) (hcj : 0 < c (4 * D j + P n)) (hn : n ≤ 3) :
    alW c t D P n * aW c D P n * (2 * t (4 * D j + P n) - 1) * beW c t D P j ≤ alW c t D P j * (beW c t D P n * bW t D P n * c (4 * D j + P n)) := by
  obtain ⟨hd, hpn, hcn⟩ := h
  have pj := w_pos h0 (n := j) (D := D) (P := P) ⟨fun i hi => hd.1 i (by omega), fun i hi => hd.2 i (by omega)⟩
  have q : pr (n - j) (fun i => aW c D P (j + i) * gW t D P (j + i)) * (aW c D P n * (2 * t (4 * D j + P n) - 1)) ≤ pr (n - j) (fun i => bW t D P (j + i) * hW c D P (j + i)) * (bW t D P n * c (4 * D j + P n)) := by
    by_cases e : j = n
    · subst e
      rw [Nat.sub_self]
      simp only [pr, Int.one_mul]
      unfold aW bW
      have : c (4 * D j + P j) * (2 * t (4 * D j + P j) - 1) ≤ c (4 * D j + P j) * (2 * t (4 * D j + P j) + 1) := Int.mul_le_mul_of_nonneg_left (by omega) (by omega)
      rw [Int.mul_comm (2 * t (4 * D j + P j) + 1)]
      exact this
    · have hR : isRing0 (n - j + 1) (fun i => D (j + i)) (fun i => P (j + i)) := ⟨by omega, by omega, fun i hi => ⟨hd.1 _ (by omega), by
          by_cases e2 : j + i = n
          · show P (j + i) < 4
            rw [e2]; exact hpn
          · exact (hd.2 (j + i) (by omega)).1⟩, fun a b ha hb he => by have := iD _ _ (by omega) (by omega) he; omega, fun a b ha hb he => by have := iP _ _ (by omega) (by omega) he; omega⟩
      have em : ∀ i, mo (fun i => D (j + i)) (fun i => P (j + i)) i = 4 * D (j + i) + P (j + i) := fun i => rfl
      have el : ∀ i, i < n - j → le (n - j + 1) (fun i => D (j + i)) (fun i => P (j + i)) i = 4 * D (j + i + 1) + P (j + i) := by
        intro i hi
        unfold le nxt
        rw [if_pos (by omega)]
        rfl
      have eL : le (n - j + 1) (fun i => D (j + i)) (fun i => P (j + i)) (n - j) = 4 * D j + P n := by
        unfold le nxt
        rw [if_neg (by omega)]
        dsimp only
        rw [Nat.add_zero, show j + (n - j) = n by omega]
      have hcan : canT c t (n - j + 1) (fun i => D (j + i)) (fun i => P (j + i)) := by
        intro i hi
        by_cases e2 : i = n - j
        · subst e2
          rw [eL, em, show j + (n - j) = n by omega]
          exact ⟨hcn, ht⟩
        · rw [em, el i (by omega)]
          have := hd.2 (j + i) (by omega)
          exact ⟨this.2.1, this.2.2.1⟩
      have hob := ob_any ho hR hcan
      unfold upR dnR at hob
      simp only [pr] at hob
      rw [eL, em, show j + (n - j) = n by omega] at hob
      rw [pr_ext (n := n - j) (f := fun i => c (mo (fun i => D (j + i)) (fun i => P (j + i)) i) * (2 * t (le (n - j + 1) (fun i => D (j + i)) (fun i => P (j + i)) i) - 1)) (g := fun i => aW c D P (j + i) * gW t D P (j + i)) (fun i hi => by rw [em, el i hi]; rfl)] at hob
      rw [pr_ext (n := n - j) (f := fun i => c (le (n - j + 1) (fun i => D (j + i)) (fun i => P (j + i)) i) * (2 * t (mo (fun i => D (j + i)) (fun i => P (j + i)) i) + 1)) (g := fun i => bW t D P (j + i) * hW c D P (j + i)) (fun i hi => by rw [em, el i hi]; exact Int.mul_comm _ _)] at hob
      unfold aW bW
      rw [Int.mul_comm (2 * t (4 * D n + P n) + 1)]
      exact hob
  have s1 := pr_split (fun i => aW c D P i * gW t D P i) j (n - j)
  have s2 := pr_split (fun i => bW t D P i * hW c D P i) j (n - j)
  rw [show j + (n - j) = n by omega] at s1 s2
  unfold alW beW at pj ⊢
  rw [s1, s2]
  generalize pr j (fun i => aW c D P i * gW t D P i) = A at *
  generalize pr j (fun i => bW t D P i * hW c D P i) = B at *
  generalize pr (n - j) (fun i => aW c D P (j + i) * gW t D P (j + i)) = A2 at *
  generalize pr (n - j) (fun i => bW t D P (j + i) * hW c D P (j + i)) = B2 at *
  have := Int.mul_le_mul_of_nonneg_left q (show 0 ≤ A * B from Int.mul_nonneg (by omega) (by omega))
  grind
/-- back from the district D n to the party P j -/
theorem back_P {c t : Tb} (ho : obeyT c t) (h0 : ∀ l, l < 16 → 0 ≤ t l) {n : Nat} {D P : Nat → Nat} (hd : toD c t n D P) (iD : ∀ i j, i ≤ n → j ≤ n → D i = D j → i = j) (iP : ∀ i j, i < n → j < n → P i = P j → i = j) {j : Nat} (hj : j < n) (hcj : 0 < c (4 * D n + P j)) (hn : n ≤ 3) :
    alW c t D P n * c (4 * D n + P j) * (beW c t D P j * bW t D P j) ≤ alW c t D P j * aW c D P j * (beW c t D P n * (2 * t (4 * D n + P j) + 1)) := by
  have pj := w_pos h0 (n := j) (D := D) (P := P) ⟨fun i hi => hd.1 i (by omega), fun i hi => hd.2 i (by omega)⟩
  have hjv := hd.2 j hj
  have tj : 0 ≤ t (4 * D j + P j) := h0 _ (by have := hd.1 j (by omega); omega)
  have q : gW t D P j * pr (n - (j + 1)) (fun i => aW c D P (j + 1 + i) * gW t D P (j + 1 + i)) * c (4 * D n + P j) ≤ hW c D P j * pr (n - (j + 1)) (fun i => bW t D P (j + 1 + i) * hW c D P (j + 1 + i)) * (2 * t (4 * D n + P j) + 1) := by
    by_cases e : j + 1 = n
    · subst e
      rw [Nat.sub_self]
      simp only [pr, Int.mul_one]
      unfold gW hW
      have : (2 * t (4 * D (j + 1) + P j) - 1) * c (4 * D (j + 1) + P j) ≤ (2 * t (4 * D (j + 1) + P j) + 1) * c (4 * D (j + 1) + P j) := Int.mul_le_mul_of_nonneg_right (by omega) (by omega)
      rw [Int.mul_comm (c (4 * D (j + 1) + P j))]
      exact this
    · obtain ⟨m, hm⟩ : ∃ m, n = j + 1 + (m + 1) := ⟨n - (j + 2), by omega⟩
      let P' : Nat → Nat := fun i => if i = m + 1 then P j else P (j + 1 + i)
      have hR : isRing0 (m + 2) (fun i => D (j + 1 + i)) P' := by
        refine ⟨by omega, by omega, fun i hi => ⟨hd.1 _ (by omega), ?_⟩, fun a b ha hb he => by have := iD _ _ (by omega) (by omega) he; omega, fun a b ha hb he => ?_⟩
        · simp only [P']; split
          · exact hjv.1
          · exact (hd.2 (j + 1 + i) (by omega)).1
        · simp only [P'] at he
          split at he <;> split at he
          · omega
          · have := iP _ _ (by omega) (by omega) he; omega
          · have := iP _ _ (by omega) (by omega) he; omega
          · have := iP _ _ (by omega) (by omega) he; omega
      have em : ∀ i, i < m + 1 → mo (fun i => D (j + 1 + i)) P' i = 4 * D (j + 1 + i) + P (j + 1 + i) := by
        intro i hi
        simp only [mo, P', if_neg (show i ≠ m + 1 by omega)]
      have eM : mo (fun i => D (j + 1 + i)) P' (m + 1) = 4 * D n + P j := by
        simp only [mo, P', if_true]
        rw [← hm]
      have el : ∀ i, i < m + 1 → le (m + 2) (fun i => D (j + 1 + i)) P' i = 4 * D (j + 1 + i + 1) + P (j + 1 + i) := by
        intro i hi
        unfold le nxt
        rw [if_pos (by omega)]
        simp only [P', if_neg (show i ≠ m + 1 by omega)]
        rfl
      have eL : le (m + 2) (fun i => D (j + 1 + i)) P' (m + 1) = 4 * D (j + 1) + P j := by
        unfold le nxt
        rw [if_neg (by omega), Nat.add_zero]
        simp only [P', if_true]
      have hcan : canT c t (m + 2) (fun i => D (j + 1 + i)) P' := by
        intro i hi
        by_cases e2 : i = m + 1
        · subst e2
          rw [eL, eM]
          exact ⟨hcj, hjv.2.2.1⟩
        · rw [em i (by omega), el i (by omega)]
          have := hd.2 (j + 1 + i) (by omega)
          exact ⟨this.2.1, this.2.2.1⟩
      have hob := ob_any ho hR hcan
      unfold upR dnR at hob
      rw [show m + 2 = (m + 1) + 1 from rfl] at hob
      simp only [pr.eq_2 (n := m + 1)] at hob
      rw [show m + 1 + 1 = m + 2 from rfl, eL, eM] at hob
      rw [pr_ext (n := m + 1) (f := fun i => c (mo (fun i => D (j + 1 + i)) P' i) * (2 * t (le (m + 2) (fun i => D (j + 1 + i)) P' i) - 1)) (g := fun i => aW c D P (j + 1 + i) * gW t D P (j + 1 + i)) (fun i hi => by rw [em i hi, el i hi]; rfl)] at hob
      rw [pr_ext (n := m + 1) (f := fun i => c (le (m + 2) (fun i => D (j + 1 + i)) P' i) * (2 * t (mo (fun i => D (j + 1 + i)) P' i) + 1)) (g := fun i => bW t D P (j + 1 + i) * hW c D P (j + 1 + i)) (fun i hi => by rw [em i hi, el i hi]; exact Int.mul_comm _ _)] at hob
      rw [show n - (j + 1) = m + 1 by omega]
      unfold gW hW
      unfold gW hW at hob
      generalize pr (m + 1) (fun i => aW c D P (j + 1 + i) * (2 * t (4 * D (j + 1 + i + 1) + P (j + 1 + i)) - 1)) = U at *
      generalize pr (m + 1) (fun i => bW t D P (j + 1 + i) * c (4 * D (j + 1 + i + 1) + P (j + 1 + i))) = V at *
      generalize t (4 * D (j + 1) + P j) = w1 at *
      generalize c (4 * D (j + 1) + P j) = w2 at *
      generalize c (4 * D n + P j) = w3 at *
      generalize t (4 * D n + P j) = w4 at *
      grind
  have s1 := pr_split (fun i => aW c D P i * gW t D P i) (j + 1) (n - (j + 1))
  have s2 := pr_split (fun i => bW t D P i * hW c D P i) (j + 1) (n - (j + 1))
  rw [show j + 1 + (n - (j + 1)) = n by omega] at s1 s2
  simp only [pr.eq_2 (n := j)] at s1 s2
  unfold alW beW at pj ⊢
  rw [s1, s2]
  have pa : 0 < aW c D P j := hjv.2.1
  have pb : 0 < bW t D P j := by unfold bW; omega
  generalize pr j (fun i => aW c D P i * gW t D P i) = A at *
  generalize pr j (fun i => bW t D P i * hW c D P i) = B at *
  generalize pr (n - (j + 1)) (fun i => aW c D P (j + 1 + i) * gW t D P (j + 1 + i)) = A2 at *
  generalize pr (n - (j + 1)) (fun i => bW t D P (j + 1 + i) * hW c D P (j + 1 + i)) = B2 at *
  generalize aW c D P j = a at *
  generalize bW t D P j = b at *
  have := Int.mul_le_mul_of_nonneg_left q (show 0 ≤ A * B * a * b from Int.mul_nonneg (Int.mul_nonneg (Int.mul_nonneg (by omega) (by omega)) (by omega)) (by omega))
  grind
