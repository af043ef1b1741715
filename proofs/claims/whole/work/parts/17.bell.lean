/-! ===== mathematics: the numbers, round by round ===== -/
abbrev impW (A B : Tb) (u v : Nat) (x y : Int) : Prop := A u ≠ 0 ∧ (A v = 0 ∨ A v * (B u * y) < A u * x * B v)
def stA (A B : Tb) (u v : Nat) (x y : Int) : Tb := if impW A B u v x y then (fun j => if j = v then A u * x / (Int.gcd (A u * x) (B u * y) : Int) else A j) else A
def stB (A B : Tb) (u v : Nat) (x y : Int) : Tb := if impW A B u v x y then (fun j => if j = v then B u * y / (Int.gcd (A u * x) (B u * y) : Int) else B j) else B
def PD (c t A B : Tb) (n : Nat) (D P : Nat → Nat) : Prop := (∀ j, j ≤ n → alW c t D P j * B (D j) ≤ A (D j) * beW c t D P j) ∧ ∀ j, j < n → 0 < A (4 + P j) ∧ alW c t D P j * aW c D P j * B (4 + P j) ≤ A (4 + P j) * (beW c t D P j * bW t D P j)
def pathD (c t A B : Tb) (d n : Nat) (D P : Nat → Nat) : Prop := n ≤ 3 ∧ toD c t n D P ∧ D n = d ∧ (∀ i j, i ≤ n → j ≤ n → D i = D j → i = j) ∧ (∀ i j, i < n → j < n → P i = P j → i = j) ∧ A d * beW c t D P n = alW c t D P n * B d ∧ A d ≤ alW c t D P n ∧ B d ≤ beW c t D P n ∧ PD c t A B n D P
def pathP (c t A B : Tb) (p n : Nat) (D P : Nat → Nat) : Prop := n ≤ 3 ∧ toP c t n D P ∧ P n = p ∧ (∀ i j, i ≤ n → j ≤ n → D i = D j → i = j) ∧ (∀ i j, i ≤ n → j ≤ n → P i = P j → i = j) ∧ A (4 + p) * (beW c t D P n * bW t D P n) = alW c t D P n * aW c D P n * B (4 + p) ∧ A (4 + p) ≤ alW c t D P n * aW c D P n ∧ B (4 + p) ≤ beW c t D P n * bW t D P n ∧ PD c t A B n D P
def PI (c t A B : Tb) : Prop := (∀ v, v < 8 → 0 ≤ A v ∧ 0 < B v) ∧ (∀ d, d < 4 → 0 < A d) ∧ (∀ d, d < 4 → ∃ n D P, pathD c t A B d n D P) ∧ ∀ p, p < 4 → 0 < A (4 + p) → ∃ n D P, pathP c t A B p n D P
/-- one state's numbers are not above the other's -/
def leV (A B A' B' : Tb) : Prop := ∀ v, v < 8 → 0 < B v ∧ 0 < B' v ∧ A v * B' v ≤ A' v * B v ∧ (0 < A v → 0 < A' v)
theorem leV.rf {A B : Tb} (h : ∀ v, v < 8 → 0 < B v) : leV A B A B := fun v hv => ⟨h v hv, h v hv, Int.le_refl _, fun q => q⟩
theorem leV.tr {A B A' B' A2 B2 : Tb} (h1 : leV A B A' B') (h2 : leV A' B' A2 B2) : leV A B A2 B2 := fun v hv => by
  obtain ⟨a1, a2, a3, a4⟩ := h1 v hv
  obtain ⟨b1, b2, b3, b4⟩ := h2 v hv
  exact ⟨a1, b2, t_le a3 b3 a1 a2 b2, fun q => b4 (a4 q)⟩
theorem g_pos {a b : Int} (ha : 0 < a) : ∃ g a' b' : Int, (Int.gcd a b : Int) = g ∧ 0 < g ∧ a = g * a' ∧ b = g * b' ∧ a / g = a' ∧ b / g = b' := by
  have hg : 0 < Int.gcd a b := Int.gcd_pos_of_ne_zero_left b (by omega)
  obtain ⟨a', ha'⟩ := Int.gcd_dvd_left (a := a) (b := b)
  obtain ⟨b', hb'⟩ := Int.gcd_dvd_right (a := a) (b := b)
  refine ⟨_, a', b', rfl, by omega, ha', hb', ?_, ?_⟩
  · exact Int.ediv_eq_of_eq_mul_right (by omega) ha'
  · exact Int.ediv_eq_of_eq_mul_right (by omega) hb'
/-- what a step does: the place is raised, or nothing can be gained there -/
theorem st_cases {A B : Tb} {u v : Nat} {x y : Int} (hu : 0 ≤ A u ∧ 0 < B u) (hv : 0 ≤ A v ∧ 0 < B v) (hx : 0 < x) (hy : 0 < y) :
    (¬ impW A B u v x y ∧ stA A B u v x y = A ∧ stB A B u v x y = B ∧ (0 < A u → 0 < A v ∧ A u * x * B v ≤ A v * (B u * y))) ∨
    (impW A B u v x y ∧ 0 < A u ∧ ∃ a' b' g : Int, 0 < g ∧ 0 < a' ∧ 0 < b' ∧ A u * x = g * a' ∧ B u * y = g * b' ∧ a' ≤ A u * x ∧ b' ≤ B u * y ∧ (∀ j, stA A B u v x y j = if j = v then a' else A j) ∧ (∀ j, stB A B u v x y j = if j = v then b' else B j) ∧ A v * b' ≤ a' * B v) := by
  by_cases h : impW A B u v x y
  · right
    have hAu : 0 < A u := by have := h.1; omega
    have hp : 0 < A u * x := Int.mul_pos hAu hx
    have hq : 0 < B u * y := Int.mul_pos hu.2 hy
    obtain ⟨g, a', b', e1, e2, e3, e4, e5, e6⟩ := g_pos (a := A u * x) (b := B u * y) hp
    have ha' : 0 < a' := by
      apply Classical.byContradiction; intro q
      have := Int.mul_nonpos_of_nonneg_of_nonpos (show 0 ≤ g by omega) (show a' ≤ 0 by omega); omega
    have hb' : 0 < b' := by
      apply Classical.byContradiction; intro q
      have := Int.mul_nonpos_of_nonneg_of_nonpos (show 0 ≤ g by omega) (show b' ≤ 0 by omega); omega
    have la : a' ≤ A u * x := by rw [e3]; have := Int.mul_le_mul_of_nonneg_right (show (1 : Int) ≤ g by omega) (show 0 ≤ a' by omega); omega
    have lb : b' ≤ B u * y := by rw [e4]; have := Int.mul_le_mul_of_nonneg_right (show (1 : Int) ≤ g by omega) (show 0 ≤ b' by omega); omega
    refine ⟨h, hAu, a', b', g, e2, ha', hb', e3, e4, la, lb, fun j => ?_, fun j => ?_, ?_⟩
    · unfold stA; rw [if_pos h, e1, e5]
    · unfold stB; rw [if_pos h, e1, e6]
    · rcases h.2 with q | q
      · rw [q, Int.zero_mul]; exact Int.mul_nonneg (by omega) (by omega)
      · rw [e3, e4] at q
        have q2 : (A v * b') * g < (a' * B v) * g := by
          have r1 : A v * (g * b') = A v * b' * g := by grind
          have r2 : g * a' * B v = a' * B v * g := by grind
          omega
        exact Int.le_of_lt (Int.lt_of_mul_lt_mul_right q2 (by omega))
  · left
    refine ⟨h, by unfold stA; rw [if_neg h], by unfold stB; rw [if_neg h], fun hAu => ?_⟩
    have n1 : A v ≠ 0 := fun q => h ⟨by omega, Or.inl q⟩
    have n2 : ¬ A v * (B u * y) < A u * x * B v := fun q => h ⟨by omega, Or.inr q⟩
    exact ⟨by omega, by omega⟩
theorem st_le {A B : Tb} {u v : Nat} {x y : Int} (h : ∀ w, w < 8 → 0 ≤ A w ∧ 0 < B w) (hu : u < 8) (hv : v < 8) (hx : 0 < x) (hy : 0 < y) :
    leV A B (stA A B u v x y) (stB A B u v x y) ∧ (∀ w, w < 8 → 0 ≤ stA A B u v x y w ∧ 0 < stB A B u v x y w) ∧ (0 < A u → 0 < stA A B u v x y v ∧ A u * x * stB A B u v x y v ≤ stA A B u v x y v * (B u * y)) := by
  rcases st_cases (h u hu) (h v hv) hx hy with ⟨n, e1, e2, e3⟩ | ⟨i, hAu, a', b', g, hg, ha, hb, e1, e2, l1, l2, e3, e4, e5⟩
  · rw [e1, e2]
    exact ⟨leV.rf fun w hw => (h w hw).2, h, e3⟩
  · refine ⟨fun w hw => ?_, fun w hw => ?_, fun _ => ?_⟩
    · rw [e3, e4]
      by_cases q : w = v
      · subst q; rw [if_pos rfl, if_pos rfl]; exact ⟨(h w hw).2, hb, e5, fun _ => ha⟩
      · rw [if_neg q, if_neg q]; exact ⟨(h w hw).2, (h w hw).2, Int.le_refl _, fun z => z⟩
    · rw [e3, e4]
      by_cases q : w = v
      · subst q; rw [if_pos rfl, if_pos rfl]; exact ⟨by omega, hb⟩
      · rw [if_neg q, if_neg q]; exact h w hw
    · rw [e3, e4, if_pos rfl, if_pos rfl]
      refine ⟨ha, ?_⟩
      rw [e1, e2]
      have : g * a' * b' = a' * (g * b') := by grind
      omega
theorem PD.mono {c t A B A' B' : Tb} (h0 : ∀ l, l < 16 → 0 ≤ t l) {n : Nat} {D P : Nat → Nat} (hd : toD c t n D P) (hl : leV A B A' B') (h : PD c t A B n D P) : PD c t A' B' n D P := by
  refine ⟨fun j hj => ?_, fun j hj => ?_⟩
  · have pj := w_pos h0 (n := j) (D := D) (P := P) ⟨fun i hi => hd.1 i (by omega), fun i hi => hd.2 i (by omega)⟩
    obtain ⟨b1, b2, b3, -⟩ := hl (D j) (by have := hd.1 j hj; omega)
    exact t_le (h.1 j hj) b3 pj.2 b1 b2
  · have pj := w_pos h0 (n := j) (D := D) (P := P) ⟨fun i hi => hd.1 i (by omega), fun i hi => hd.2 i (by omega)⟩
    obtain ⟨b1, b2, b3, b4⟩ := hl (4 + P j) (by have := (hd.2 j hj).1; omega)
    have hb : 0 < bW t D P j := by
      have := h0 (4 * D j + P j) (by have := hd.1 j (by omega); have := (hd.2 j hj).1; omega)
      unfold bW; omega
    refine ⟨b4 (h.2 j hj).1, t_le (h.2 j hj).2 b3 (Int.mul_pos pj.2 hb) b1 b2⟩
theorem al_ext {c t : Tb} {n : Nat} {D P D' P' : Nat → Nat} (hD : ∀ i, i ≤ n → D' i = D i) (hP : ∀ i, i < n → P' i = P i) : ∀ j, j ≤ n → alW c t D' P' j = alW c t D P j ∧ beW c t D' P' j = beW c t D P j := by
  intro j hj
  constructor
  · exact pr_ext fun i hi => by unfold aW gW; rw [hD i (by omega), hD (i + 1) (by omega), hP i (by omega)]
  · exact pr_ext fun i hi => by unfold bW hW; rw [hD i (by omega), hD (i + 1) (by omega), hP i (by omega)]
theorem pig {f : Nat → Nat} : ∀ {m n : Nat}, (∀ i, i < n → f i < m) → (∀ i j, i < n → j < n → f i = f j → i = j) → n ≤ m := by
  intro m
  induction m generalizing f with
  | zero => intro n h _; cases n with
    | zero => exact Nat.le_refl _
    | succ n => have := h 0 (by omega); omega
  | succ m ih =>
    intro n h hi
    by_cases q : ∃ i, i < n ∧ f i = m
    · obtain ⟨i0, hi0, e0⟩ := q
      have := ih (f := fun i => f (if i < i0 then i else i + 1)) (n := n - 1) (fun i hlt => by
        have h1 := h (if i < i0 then i else i + 1) (by split <;> omega)
        have h2 : f (if i < i0 then i else i + 1) ≠ m := fun e => by
          have := hi _ _ (show (if i < i0 then i else i + 1) < n by split <;> omega) hi0 (by rw [e, e0])
          split at this <;> omega
        omega) (fun i j h1 h2 he => by
        have := hi _ _ (show (if i < i0 then i else i + 1) < n by split <;> omega) (show (if j < i0 then j else j + 1) < n by split <;> omega) he
        split at this <;> split at this <;> omega)
      omega
    · have := ih (f := f) (n := n) (fun i hlt => by
        have h1 := h i hlt
        have : f i ≠ m := fun e => q ⟨i, hlt, e⟩
        omega) hi
      omega
/-- a district's way goes on to a party, and what that gains -/
theorem ext_P {c t A B : Tb} (h0 : ∀ l, l < 16 → 0 ≤ t l) {d p n : Nat} {D P : Nat → Nat} (h : pathD c t A B d n D P) (hp : p < 4) (hc : 0 < c (4 * d + p)) : ∃ P' : Nat → Nat, toP c t n D P' ∧ P' n = p ∧ (∀ i, i < n → P' i = P i) ∧ (∀ j, j ≤ n → alW c t D P' j = alW c t D P j ∧ beW c t D P' j = beW c t D P j) ∧ aW c D P' n = c (4 * d + p) ∧ bW t D P' n = 2 * t (4 * d + p) + 1 := by
  obtain ⟨h1, h2, h3, -⟩ := h
  refine ⟨fun i => if i = n then p else P i, ⟨⟨h2.1, fun i hi => ?_⟩, ?_, ?_⟩, by simp, fun i hi => by simp [show i ≠ n by omega], ?_, ?_, ?_⟩
  · simp only [if_neg (show i ≠ n by omega)]; exact h2.2 i hi
  · simp only [if_true]; exact hp
  · simp only [if_true]; rw [h3]; exact hc
  · exact al_ext (fun _ _ => rfl) (fun i hi => by simp [show i ≠ n by omega])
  · unfold aW; simp only [if_true]; rw [h3]
  · unfold bW; simp only [if_true]; rw [h3]
theorem ext_D {c t A B : Tb} {d p n : Nat} {D P : Nat → Nat} (h : pathP c t A B p n D P) (hd : d < 4) (ht : 0 < t (4 * d + p)) (hc : 0 < c (4 * d + p)) : ∃ D' : Nat → Nat, toD c t (n + 1) D' P ∧ D' (n + 1) = d ∧ (∀ i, i ≤ n → D' i = D i) ∧ (∀ j, j ≤ n → alW c t D' P j = alW c t D P j ∧ beW c t D' P j = beW c t D P j) ∧ alW c t D' P (n + 1) = alW c t D P n * aW c D P n * (2 * t (4 * d + p) - 1) ∧ beW c t D' P (n + 1) = beW c t D P n * bW t D P n * c (4 * d + p) := by
  obtain ⟨h1, ⟨h2, h2p, h2c⟩, h3, -⟩ := h
  have key : ∀ j, j ≤ n → alW c t (fun i => if i = n + 1 then d else D i) P j = alW c t D P j ∧ beW c t (fun i => if i = n + 1 then d else D i) P j = beW c t D P j := al_ext (fun i hi => by simp [show i ≠ n + 1 by omega]) (fun _ _ => rfl)
  have dn : (fun i => if i = n + 1 then d else D i) n = D n := by simp
  have dn1 : (fun i => if i = n + 1 then d else D i) (n + 1) = d := by simp
  refine ⟨fun i => if i = n + 1 then d else D i, ⟨fun i hi => ?_, fun i hi => ?_⟩, by simp, fun i hi => by simp [show i ≠ n + 1 by omega], key, ?_, ?_⟩
  · dsimp only
    split
    · exact hd
    · exact h2.1 i (by omega)
  · dsimp only
    rw [if_neg (show i ≠ n + 1 by omega)]
    by_cases e : i = n
    · subst e
      rw [if_pos rfl, h3]
      exact ⟨by rw [← h3]; exact h2p, by rw [← h3]; exact h2c, ht, hc⟩
    · rw [if_neg (by omega)]
      exact h2.2 i (by omega)
  · have := (key n (Nat.le_refl n)).1
    unfold alW at this ⊢
    simp only [pr]
    rw [this]
    unfold aW gW
    rw [dn, dn1, h3, Int.mul_assoc]
  · have := (key n (Nat.le_refl n)).2
    unfold beW at this ⊢
    simp only [pr]
    rw [this]
    unfold bW hW
    rw [dn, dn1, h3, Int.mul_assoc]
/-- value of a place against a way: what is known of the way's end bounds what the step would bring -/
theorem no_gain {a b al be x y Av Bv : Int} (e : a * be = al * b) (hbe : 0 < be) (hb : 0 < b) (h : al * x * Bv ≤ Av * (be * y)) : a * x * Bv ≤ Av * (b * y) := by
  have h1 : a * x * Bv * be ≤ Av * (b * y) * be := by
    have e1 : a * x * Bv * be = al * x * Bv * b := by grind
    have e2 : Av * (b * y) * be = Av * (be * y) * b := by grind
    rw [e1, e2]
    exact Int.mul_le_mul_of_nonneg_right h (by omega)
  exact Int.le_of_mul_le_mul_right h1 hbe
