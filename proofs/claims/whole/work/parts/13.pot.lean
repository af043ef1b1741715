/-! ===== mathematics: going along a ring ===== -/
def inc (t : Tb) (l : Nat) (z : Int) : Tb := fun j => if j = l then t j + z else t j
def goN (t : Tb) (k : Nat) (D P : Nat → Nat) : Nat → Tb
  | 0 => t
  | n + 1 => inc (inc (goN t k D P n) (mo D P n) 1) (le k D P n) (-1)
theorem mo_inj {k : Nat} {D P : Nat → Nat} (h : isRing k D P) {i j : Nat} (hi : i < k) (hj : j < k) (e : mo D P i = mo D P j) : i = j := by
  have h1 := h.2.2.1 i hi
  have h2 := h.2.2.1 j hj
  unfold mo at e
  exact h.2.2.2.1 i j hi hj (by omega)
theorem le_inj {k : Nat} {D P : Nat → Nat} (h : isRing k D P) {i j : Nat} (hi : i < k) (hj : j < k) (e : le k D P i = le k D P j) : i = j := by
  have h1 := h.2.2.1 i hi
  have h2 := h.2.2.1 j hj
  unfold le at e
  exact h.2.2.2.2.1 i j hi hj (by omega)
theorem mo_ne_le {k : Nat} {D P : Nat → Nat} (h : isRing k D P) {i j : Nat} (hi : i < k) (hj : j < k) : mo D P i ≠ le k D P j := by
  intro e
  have h1 := h.2.2.1 i hi
  have h2 := h.2.2.1 j hj
  unfold mo le at e
  have h3 : i = j := h.2.2.2.2.1 i j hi hj (by omega)
  subst h3
  obtain ⟨h4, h5⟩ := lt_nxt h.1 hi
  have := h.2.2.2.1 i _ hi h4 (by omega)
  omega
theorem goN_val {k : Nat} {D P : Nat → Nat} (h : isRing k D P) (t : Tb) : ∀ n, n ≤ k → (∀ i, i < n → goN t k D P n (mo D P i) = t (mo D P i) + 1) ∧ (∀ i, i < n → goN t k D P n (le k D P i) = t (le k D P i) - 1) ∧ ∀ l, (∀ i, i < n → l ≠ mo D P i ∧ l ≠ le k D P i) → goN t k D P n l = t l := by
  intro n
  induction n with
  | zero => intro _; exact ⟨fun i hi => by omega, fun i hi => by omega, fun l _ => rfl⟩
  | succ n ih =>
    intro hn
    obtain ⟨a1, a2, a3⟩ := ih (by omega)
    have hn' : n < k := by omega
    refine ⟨fun i hi => ?_, fun i hi => ?_, fun l hl => ?_⟩
    · have n1 : mo D P i ≠ le k D P n := mo_ne_le h (by omega) hn'
      simp only [goN, inc, if_neg n1]
      by_cases e : i = n
      · subst e
        rw [if_pos rfl, a3 _ fun j hj => ⟨fun q => by have := mo_inj h hn' (by omega) q; omega, mo_ne_le h hn' (by omega)⟩]
      · have n2 : mo D P i ≠ mo D P n := fun q => e (mo_inj h (by omega) hn' q)
        rw [if_neg n2]
        exact a1 i (by omega)
    · have n1 : le k D P i ≠ mo D P n := fun q => mo_ne_le h hn' (by omega) q.symm
      simp only [goN, inc, if_neg n1]
      by_cases e : i = n
      · subst e
        rw [if_pos rfl, a3 _ fun j hj => ⟨fun q => mo_ne_le h (by omega) hn' q.symm, fun q => by have := le_inj h hn' (by omega) q; omega⟩]
        omega
      · have n2 : le k D P i ≠ le k D P n := fun q => e (le_inj h (by omega) hn' q)
        rw [if_neg n2]
        exact a2 i (by omega)
    · obtain ⟨n1, n2⟩ := hl n (by omega)
      simp only [goN, inc, if_neg n1, if_neg n2]
      exact a3 l fun i hi => hl i (by omega)
def row (t : Tb) (d : Nat) : Int := t (4 * d) + t (4 * d + 1) + t (4 * d + 2) + t (4 * d + 3)
def col (t : Tb) (p : Nat) : Int := t p + t (4 + p) + t (8 + p) + t (12 + p)
theorem row_inc {t : Tb} {a b d : Nat} {z : Int} (hb : b < 4) : row (inc t (4 * a + b) z) d = row t d + if a = d then z else 0 := by
  unfold row inc
  by_cases h : a = d
  · subst h
    rcases (show b = 0 ∨ b = 1 ∨ b = 2 ∨ b = 3 by omega) with rfl | rfl | rfl | rfl <;> simp <;> omega
  · have e0 : 4 * d ≠ 4 * a + b := by omega
    have e1 : 4 * d + 1 ≠ 4 * a + b := by omega
    have e2 : 4 * d + 2 ≠ 4 * a + b := by omega
    have e3 : 4 * d + 3 ≠ 4 * a + b := by omega
    simp [e0, e1, e2, e3, h]
theorem col_inc {t : Tb} {a b p : Nat} {z : Int} (ha : a < 4) (hb : b < 4) (hp : p < 4) : col (inc t (4 * a + b) z) p = col t p + if b = p then z else 0 := by
  unfold col inc
  by_cases h : b = p
  · subst h
    have e0 : (b = 4 * a + b) ↔ a = 0 := by omega
    have e1 : (4 + b = 4 * a + b) ↔ a = 1 := by omega
    have e2 : (8 + b = 4 * a + b) ↔ a = 2 := by omega
    have e3 : (12 + b = 4 * a + b) ↔ a = 3 := by omega
    simp only [e0, e1, e2, e3]
    rcases (show a = 0 ∨ a = 1 ∨ a = 2 ∨ a = 3 by omega) with rfl | rfl | rfl | rfl <;> simp <;> omega
  · have e0 : p ≠ 4 * a + b := by omega
    have e1 : 4 + p ≠ 4 * a + b := by omega
    have e2 : 8 + p ≠ 4 * a + b := by omega
    have e3 : 12 + p ≠ 4 * a + b := by omega
    simp [e0, e1, e2, e3, h]
theorem go_col {k : Nat} {D P : Nat → Nat} (h : isRing k D P) (t : Tb) {p : Nat} (hp : p < 4) : ∀ n, n ≤ k → col (goN t k D P n) p = col t p := by
  intro n
  induction n with
  | zero => intro _; rfl
  | succ n ih =>
    intro hn
    have h1 := h.2.2.1 n (by omega)
    have h2 := h.2.2.1 _ (lt_nxt h.1 (show n < k by omega)).1
    simp only [goN, mo, le]
    rw [col_inc h2.1 h1.2 hp, col_inc h1.1 h1.2 hp, ih (by omega)]
    split <;> omega
def ind (b : Bool) : Int := if b then 1 else 0
theorem go_row {k : Nat} {D P : Nat → Nat} (h : isRing k D P) (t : Tb) (d : Nat) : ∀ n, n ≤ k → row (goN t k D P n) d = row t d + sm n (fun i => if D i = d then 1 else 0) - sm n (fun i => if D (nxt k i) = d then 1 else 0) := by
  intro n
  induction n with
  | zero => intro _; simp [goN, sm]
  | succ n ih =>
    intro hn
    have h1 := h.2.2.1 n (by omega)
    simp only [goN, mo, le, sm]
    rw [row_inc h1.2, row_inc h1.2, ih (by omega)]
    split <;> split <;> omega
theorem go_fit {c sz sh t : Tb} {k : Nat} {D P : Nat → Nat} (ht : fitT c sz sh t) (h : isRing k D P) (hc : canT c t k D P) : fitT c sz sh (goN t k D P k) := by
  obtain ⟨a1, a2, a3⟩ := goN_val h t k (Nat.le_refl k)
  have any : ∀ l, (∃ i, i < k ∧ l = mo D P i) ∨ (∃ i, i < k ∧ l = le k D P i) ∨ ∀ i, i < k → l ≠ mo D P i ∧ l ≠ le k D P i := by
    intro l
    by_cases q1 : ∃ i, i < k ∧ l = mo D P i
    · exact Or.inl q1
    · by_cases q2 : ∃ i, i < k ∧ l = le k D P i
      · exact Or.inr (Or.inl q2)
      · exact Or.inr (Or.inr fun i hi => ⟨fun e => q1 ⟨i, hi, e⟩, fun e => q2 ⟨i, hi, e⟩⟩)
  refine ⟨fun l hl => ?_, fun l hl hz => ?_, fun d hd => ?_, fun p hp => ?_⟩
  · rcases any l with ⟨i, hi, rfl⟩ | ⟨i, hi, rfl⟩ | hn
    · rw [a1 i hi]; have := ht.1 _ hl; omega
    · rw [a2 i hi]; have := (hc i hi).2; omega
    · rw [a3 l hn]; exact ht.1 l hl
  · rcases any l with ⟨i, hi, rfl⟩ | ⟨i, hi, rfl⟩ | hn
    · have := (hc i hi).1; omega
    · have h1 := (hc i hi).2; have h2 := ht.2.1 _ hl hz; omega
    · rw [a3 l hn]; exact ht.2.1 l hl hz
  · have h1 := go_row h t d k (Nat.le_refl k)
    have h2 := ht.2.2.1 d hd
    have h3 : sm k (fun i => if D i = d then (1 : Int) else 0) = sm k (fun i => if D (nxt k i) = d then 1 else 0) := by
      rcases (show k = 2 ∨ k = 3 ∨ k = 4 by have := h.1; have := h.2.1; omega) with rfl | rfl | rfl <;> simp [sm, nxt] <;> omega
    unfold row at h1
    omega
  · have h1 := go_col h t hp k (Nat.le_refl k)
    have h2 := ht.2.2.2 p hp
    unfold col at h1
    omega
/-! ===== mathematics: the number that grows ===== -/
def df : Nat → Int
  | 0 => 1
  | n + 1 => df n * (2 * n + 1)
def NN (c t : Tb) : Int := pr 16 (fun l => c l ^ (t l).toNat)
def MM (t : Tb) : Int := pr 16 (fun l => df (t l).toNat)
theorem df_pos : ∀ n, 0 < df n
  | 0 => by simp [df]
  | n + 1 => Int.mul_pos (df_pos n) (by omega)
theorem MM_pos (t : Tb) : 0 < MM t := pr_pos fun _ _ => df_pos _
theorem NN_pos {c t : Tb} (h : ∀ l, l < 16 → 0 < c l ∨ t l = 0) : 0 < NN c t := pr_pos fun l hl => by
  rcases h l hl with q | q
  · exact Int.pow_pos q
  · rw [q]; simp
theorem pr_one {f g : Nat → Int} {x : Int} {l : Nat} : ∀ {n : Nat}, l < n → g l = f l * x → (∀ j, j ≠ l → g j = f j) → pr n g = pr n f * x
  | 0, h, _, _ => by omega
  | n + 1, h, h1, h2 => by
    simp only [pr]
    by_cases e : l = n
    · subst e
      rw [pr_ext (f := g) (g := f) (fun i hi => h2 i (by omega)), h1, Int.mul_assoc]
    · rw [pr_one (n := n) (by omega) h1 h2, h2 n (Ne.symm e), Int.mul_assoc, Int.mul_comm x, ← Int.mul_assoc]
theorem NN_inc {c t : Tb} {l : Nat} (hl : l < 16) (h : 0 ≤ t l) : NN c (inc t l 1) = NN c t * c l := by
  refine pr_one hl ?_ fun j hj => ?_
  · simp only [inc, if_true]
    rw [show (t l + 1).toNat = (t l).toNat + 1 by omega, Int.pow_succ]
  · simp [inc, hj]
theorem MM_inc {t : Tb} {l : Nat} (hl : l < 16) (h : 0 ≤ t l) : MM (inc t l 1) = MM t * (2 * t l + 1) := by
  refine pr_one hl ?_ fun j hj => ?_
  · simp only [inc, if_true]
    rw [show (t l + 1).toNat = (t l).toNat + 1 by omega]
    simp only [df]
    rw [show (((t l).toNat : Nat) : Int) = t l by omega]
  · simp [inc, hj]
theorem inc_inc (t : Tb) (l : Nat) : inc (inc t l (-1)) l 1 = t := by
  funext j
  by_cases h : j = l <;> simp [inc, h]
  omega
theorem NN_dec {c t : Tb} {l : Nat} (hl : l < 16) (h : 1 ≤ t l) : NN c (inc t l (-1)) * c l = NN c t := by
  have := NN_inc (c := c) (t := inc t l (-1)) hl (by simp [inc]; omega)
  rw [inc_inc] at this
  exact this.symm
theorem MM_dec {t : Tb} {l : Nat} (hl : l < 16) (h : 1 ≤ t l) : MM (inc t l (-1)) * (2 * t l - 1) = MM t := by
  have := MM_inc (t := inc t l (-1)) hl (by simp [inc]; omega)
  rw [inc_inc] at this
  rw [this]
  congr 1
  simp [inc]
  omega
theorem pr_mul {f g : Nat → Int} : ∀ n, pr n (fun i => f i * g i) = pr n f * pr n g
  | 0 => by simp [pr]
  | n + 1 => by simp only [pr]; rw [pr_mul n]; grind
theorem go_pot {c t : Tb} {k : Nat} {D P : Nat → Nat} (h : isRing k D P) (h0 : ∀ l, l < 16 → 0 ≤ t l) (hc : canT c t k D P) : ∀ n, n ≤ k →
    NN c (goN t k D P n) * pr n (fun i => c (le k D P i)) = NN c t * pr n (fun i => c (mo D P i)) ∧ MM (goN t k D P n) * pr n (fun i => 2 * t (le k D P i) - 1) = MM t * pr n (fun i => 2 * t (mo D P i) + 1) := by
  intro n
  induction n with
  | zero => intro _; exact ⟨rfl, rfl⟩
  | succ n ih =>
    intro hn
    obtain ⟨b1, b2⟩ := ih (by omega)
    have hn' : n < k := by omega
    obtain ⟨a1, a2, a3⟩ := goN_val h t n (by omega)
    have vm : goN t k D P n (mo D P n) = t (mo D P n) := a3 _ fun j hj => ⟨fun q => by have := mo_inj h hn' (by omega) q; omega, mo_ne_le h hn' (by omega)⟩
    have vl : inc (goN t k D P n) (mo D P n) 1 (le k D P n) = t (le k D P n) := by
      have q : le k D P n ≠ mo D P n := fun q => mo_ne_le h hn' hn' q.symm
      simp only [inc, if_neg q]
      exact a3 _ fun j hj => ⟨fun q => mo_ne_le h (by omega) hn' q.symm, fun q => by have := le_inj h hn' (by omega) q; omega⟩
    have l1 := mo_lt h hn'
    have l2 := le_lt h hn'
    have c1 := NN_inc (c := c) (t := goN t k D P n) l1 (by rw [vm]; exact h0 _ l1)
    have c2 := MM_inc (t := goN t k D P n) l1 (by rw [vm]; exact h0 _ l1)
    have c3 := NN_dec (c := c) (t := inc (goN t k D P n) (mo D P n) 1) l2 (by rw [vl]; exact (hc n hn').2)
    have c4 := MM_dec (t := inc (goN t k D P n) (mo D P n) 1) l2 (by rw [vl]; exact (hc n hn').2)
    rw [vm] at c2
    rw [vl] at c4
    simp only [goN, pr]
    constructor
    · generalize NN c (inc (inc (goN t k D P n) (mo D P n) 1) (le k D P n) (-1)) = A at *
      generalize NN c (inc (goN t k D P n) (mo D P n) 1) = B at *
      generalize NN c (goN t k D P n) = G at *
      grind
    · generalize MM (inc (inc (goN t k D P n) (mo D P n) 1) (le k D P n) (-1)) = A at *
      generalize MM (inc (goN t k D P n) (mo D P n) 1) = B at *
      generalize MM (goN t k D P n) = G at *
      grind
theorem go_gain {c t : Tb} {k : Nat} {D P : Nat → Nat} (h : isRing k D P) (h0 : ∀ l, l < 16 → 0 ≤ t l) (hc : canT c t k D P) : NN c (goN t k D P k) * MM t * dnR c t k D P k = NN c t * MM (goN t k D P k) * upR c t k D P k := by
  obtain ⟨b1, b2⟩ := go_pot h h0 hc k (Nat.le_refl k)
  unfold dnR upR
  rw [pr_mul, pr_mul]
  generalize pr k (fun i => c (le k D P i)) = a1 at *
  generalize pr k (fun i => c (mo D P i)) = a2 at *
  generalize pr k (fun i => 2 * t (le k D P i) - 1) = a3 at *
  generalize pr k (fun i => 2 * t (mo D P i) + 1) = a4 at *
  grind
