/-! ===== class: what a call changes; the model: what it holds ===== -/
section MA
variable {d : Nat} {σ ρ : HP} {Q : MQt} {X : MXt} {D P : Nat}
theorem Sol0 {σ : HP} (h : σ 0 11 = 0) : SolX σ D := fun g => by rw [h] at g; exact absurd g (by decide)
theorem XI_district {n : Int} (h : XI σ D P) (hD : D < 4) (h1 : 1 ≤ n) (h2 : n ≤ 20) (h3 : sm 4 (σ 1) + n ≤ 20) : XI (up (up (up σ 1 D n) 0 0 ((D : Int) + 1)) 0 11 0) (D + 1) P := by
  obtain ⟨⟨a1, a2, a3, a4, a5, a6, a7, a8⟩, b, c, e, f, g, i, j, k, l, -⟩ := h
  have v0 : ∀ x, x ≠ 0 → x ≠ 11 → up (up (up σ 1 D n) 0 0 ((D : Int) + 1)) 0 11 0 0 x = σ 0 x := fun x p q => by rw [up_nj q, up_nj p, up_nr (by decide)]
  have vr : ∀ r, r ≠ 0 → r ≠ 1 → up (up (up σ 1 D n) 0 0 ((D : Int) + 1)) 0 11 0 r = σ r := fun r p q => by rw [up_ne p, up_ne p, up_ne q]
  have v1 : ∀ x, up (up (up σ 1 D n) 0 0 ((D : Int) + 1)) 0 11 0 1 x = if x = D then n else σ 1 x := fun x => by
    rw [up_nr (by decide), up_nr (by decide)]
    by_cases q : x = D
    · subst q; rw [up_at, if_pos rfl]
    · rw [up_nj q, if_neg q]
  have e0 := e D hD (Nat.le_refl D)
  refine ⟨⟨by omega, ?_, ?_, ?_, fun x hx => ?_, ?_, ?_, ?_⟩, b, ?_, fun x hx q => ?_, fun x hx => ?_, ?_, ?_, ?_, ?_, ?_, Sol0 up_at⟩
  · rw [up_nj (by decide), up_at]; rfl
  · rw [v0 2 (by decide) (by decide)]; exact a3
  · rw [v0 3 (by decide) (by decide)]; exact a4
  · rw [v1]; split
    · omega
    · exact a5 x hx
  · rw [sum4] at h3 ⊢
    rw [v1, v1, v1, v1]
    rcases (show D = 0 ∨ D = 1 ∨ D = 2 ∨ D = 3 by omega) with rfl | rfl | rfl | rfl <;> simp <;> omega
  · rw [vr 2 (by decide) (by decide)]; exact a7
  · rw [vr 4 (by decide) (by decide)]; exact a8
  · rw [v0 1 (by decide) (by decide)]; exact c
  · rw [v1, if_neg (by omega)]; exact e x hx (by omega)
  · rw [v1]; split
    · exact h1
    · exact f x (by omega)
  · rw [vr 2 (by decide) (by decide), vr 3 (by decide) (by decide)]
    intro x hx q
    exact g x hx (by omega)
  · rw [vr 3 (by decide) (by decide)]; exact i
  · unfold XR at j ⊢; rw [vr 4 (by decide) (by decide)]; exact j
  · exact Or.inl up_at
  · rw [v0 12 (by decide) (by decide)]; exact l
theorem XI_party (h : XI σ D P) (hP : P < 4) : XI (up (up σ 0 1 ((P : Int) + 1)) 0 11 0) D (P + 1) := by
  obtain ⟨⟨a1, a2, a3, a4, a5, a6, a7, a8⟩, b, c, e, f, g, i, j, k, l, -⟩ := h
  have v0 : ∀ x, x ≠ 1 → x ≠ 11 → up (up σ 0 1 ((P : Int) + 1)) 0 11 0 0 x = σ 0 x := fun x p q => by rw [up_nj q, up_nj p]
  have vr : ∀ r, r ≠ 0 → up (up σ 0 1 ((P : Int) + 1)) 0 11 0 r = σ r := fun r p => by rw [up_ne p, up_ne p]
  refine ⟨⟨a1, ?_, ?_, ?_, ?_, ?_, ?_, ?_⟩, by omega, ?_, ?_, ?_, ?_, ?_, ?_, Or.inl up_at, ?_, Sol0 up_at⟩
  · rw [v0 0 (by decide) (by decide)]; exact a2
  · rw [v0 2 (by decide) (by decide)]; exact a3
  · rw [v0 3 (by decide) (by decide)]; exact a4
  · rw [vr 1 (by decide)]; exact a5
  · rw [vr 1 (by decide)]; exact a6
  · rw [vr 2 (by decide)]; exact a7
  · rw [vr 4 (by decide)]; exact a8
  · rw [up_nj (by decide), up_at]; rfl
  · rw [vr 1 (by decide)]; exact e
  · rw [vr 1 (by decide)]; exact f
  · rw [vr 2 (by decide), vr 3 (by decide)]; exact fun x hx q => g x hx (by omega)
  · rw [vr 3 (by decide)]; exact i
  · unfold XR at j ⊢; rw [vr 4 (by decide)]; exact ⟨fun p hp => by have := j.1 p hp; omega, j.2⟩
  · rw [v0 12 (by decide) (by decide)]; exact l
theorem XI_votes {a b : Nat} {n : Int} (h : XI σ D P) (ha : a < D) (hb : b < P) (h1 : 0 ≤ n) (h2 : n ≤ 500) : XI (up (up σ 2 (4 * a + b) n) 0 11 0) D P := by
  obtain ⟨⟨a1, a2, a3, a4, a5, a6, a7, a8⟩, bb, c, e, f, g, i, j, k, l, -⟩ := h
  have v0 : ∀ x, x ≠ 11 → up (up σ 2 (4 * a + b) n) 0 11 0 0 x = σ 0 x := fun x q => by rw [up_nj q, up_nr (by decide)]
  have vr : ∀ r, r ≠ 0 → r ≠ 2 → up (up σ 2 (4 * a + b) n) 0 11 0 r = σ r := fun r p q => by rw [up_ne p, up_ne q]
  have v2 : ∀ x, up (up σ 2 (4 * a + b) n) 0 11 0 2 x = if x = 4 * a + b then n else σ 2 x := fun x => by
    rw [up_nr (by decide)]
    by_cases q : x = 4 * a + b
    · subst q; rw [up_at, if_pos rfl]
    · rw [up_nj q, if_neg q]
  refine ⟨⟨a1, ?_, ?_, ?_, ?_, ?_, fun x hx => ?_, ?_⟩, bb, ?_, ?_, ?_, fun x hx q => ?_, ?_, ?_, Or.inl up_at, ?_, Sol0 up_at⟩
  · rw [v0 0 (by decide)]; exact a2
  · rw [v0 2 (by decide)]; exact a3
  · rw [v0 3 (by decide)]; exact a4
  · rw [vr 1 (by decide) (by decide)]; exact a5
  · rw [vr 1 (by decide) (by decide)]; exact a6
  · rw [v2]; split
    · omega
    · exact a7 x hx
  · rw [vr 4 (by decide) (by decide)]; exact a8
  · rw [v0 1 (by decide)]; exact c
  · rw [vr 1 (by decide) (by decide)]; exact e
  · rw [vr 1 (by decide) (by decide)]; exact f
  · rw [v2, vr 3 (by decide) (by decide), if_neg (by omega)]; exact g x hx q
  · rw [vr 3 (by decide) (by decide)]; exact i
  · unfold XR at j ⊢; rw [vr 4 (by decide) (by decide)]; exact j
  · rw [v0 12 (by decide)]; exact l
theorem XI_propose {a b : Nat} {n : Int} (h : XI σ D P) (ha : a < D) (hb : b < P) (h1 : 0 ≤ n) (h2 : n ≤ 20) : XI (up σ 3 (4 * a + b) n) D P := by
  obtain ⟨a0, bb, c, e, f, g, i, j, k, l, m⟩ := h
  have vr : ∀ r, r ≠ 3 → up σ 3 (4 * a + b) n r = σ r := fun r q => by rw [up_ne q]
  have v3 : ∀ x, up σ 3 (4 * a + b) n 3 x = if x = 4 * a + b then n else σ 3 x := fun x => by
    by_cases q : x = 4 * a + b
    · subst q; rw [up_at, if_pos rfl]
    · rw [up_nj q, if_neg q]
  refine ⟨a0.same (vr 0 (by decide)) (vr 1 (by decide)) (vr 2 (by decide)) (vr 4 (by decide)), bb, ?_, ?_, ?_, fun x hx q => ?_, fun x hx => ?_, ?_, ?_, ?_, ?_⟩
  · rw [vr 0 (by decide)]; exact c
  · rw [vr 1 (by decide)]; exact e
  · rw [vr 1 (by decide)]; exact f
  · rw [v3, vr 2 (by decide), if_neg (by omega)]; exact g x hx q
  · rw [v3]; split
    · omega
    · exact i x hx
  · unfold XR at j ⊢; rw [vr 4 (by decide)]; exact j
  · rw [vr 0 (by decide)]; exact k
  · rw [vr 0 (by decide)]; exact l
  · unfold SolX nobad TB BK at m ⊢
    rw [cF_s (vr 0 (by decide)) (vr 2 (by decide)), wF_s (vr 0 (by decide)) (vr 1 (by decide)) (vr 2 (by decide)), sF_s (vr 0 (by decide)) (vr 1 (by decide)) (vr 2 (by decide)) (vr 4 (by decide)), vr 0 (by decide), vr 1 (by decide), vr 8 (by decide), vr 9 (by decide), vr 16 (by decide), vr 17 (by decide)]
    exact m
theorem XI_thr {n : Int} (h : XI σ D P) (h1 : 0 ≤ n) (h2 : n ≤ 1000) : XI (up (up σ 0 2 n) 0 11 0) D P := by
  obtain ⟨⟨a1, a2, a3, a4, a5, a6, a7, a8⟩, b, c, e, f, g, i, j, k, l, -⟩ := h
  have v0 : ∀ x, x ≠ 2 → x ≠ 11 → up (up σ 0 2 n) 0 11 0 0 x = σ 0 x := fun x p q => by rw [up_nj q, up_nj p]
  have vr : ∀ r, r ≠ 0 → up (up σ 0 2 n) 0 11 0 r = σ r := fun r p => by rw [up_ne p, up_ne p]
  refine ⟨⟨a1, ?_, ?_, ?_, ?_, ?_, ?_, ?_⟩, b, ?_, ?_, ?_, ?_, ?_, ?_, Or.inl up_at, ?_, Sol0 up_at⟩
  · rw [v0 0 (by decide) (by decide)]; exact a2
  · rw [up_nj (by decide), up_at]; exact ⟨h1, h2⟩
  · rw [v0 3 (by decide) (by decide)]; exact a4
  · rw [vr 1 (by decide)]; exact a5
  · rw [vr 1 (by decide)]; exact a6
  · rw [vr 2 (by decide)]; exact a7
  · rw [vr 4 (by decide)]; exact a8
  · rw [v0 1 (by decide) (by decide)]; exact c
  · rw [vr 1 (by decide)]; exact e
  · rw [vr 1 (by decide)]; exact f
  · rw [vr 2 (by decide), vr 3 (by decide)]; exact g
  · rw [vr 3 (by decide)]; exact i
  · unfold XR at j ⊢; rw [vr 4 (by decide)]; exact j
  · rw [v0 12 (by decide) (by decide)]; exact l
theorem XI_weigh {n : Int} (h : XI σ D P) (h1 : n = 0 ∨ n = 1) : XI (up (up σ 0 3 n) 0 11 0) D P := by
  obtain ⟨⟨a1, a2, a3, a4, a5, a6, a7, a8⟩, b, c, e, f, g, i, j, k, l, -⟩ := h
  have v0 : ∀ x, x ≠ 3 → x ≠ 11 → up (up σ 0 3 n) 0 11 0 0 x = σ 0 x := fun x p q => by rw [up_nj q, up_nj p]
  have vr : ∀ r, r ≠ 0 → up (up σ 0 3 n) 0 11 0 r = σ r := fun r p => by rw [up_ne p, up_ne p]
  refine ⟨⟨a1, ?_, ?_, ?_, ?_, ?_, ?_, ?_⟩, b, ?_, ?_, ?_, ?_, ?_, ?_, Or.inl up_at, ?_, Sol0 up_at⟩
  · rw [v0 0 (by decide) (by decide)]; exact a2
  · rw [v0 2 (by decide) (by decide)]; exact a3
  · rw [up_nj (by decide), up_at]; exact h1
  · rw [vr 1 (by decide)]; exact a5
  · rw [vr 1 (by decide)]; exact a6
  · rw [vr 2 (by decide)]; exact a7
  · rw [vr 4 (by decide)]; exact a8
  · rw [v0 1 (by decide) (by decide)]; exact c
  · rw [vr 1 (by decide)]; exact e
  · rw [vr 1 (by decide)]; exact f
  · rw [vr 2 (by decide), vr 3 (by decide)]; exact g
  · rw [vr 3 (by decide)]; exact i
  · unfold XR at j ⊢; rw [vr 4 (by decide)]; exact j
  · rw [v0 12 (by decide) (by decide)]; exact l
theorem XI_lot {σ' : HP} {a : Int} {b : Nat} (h : XI σ D P) (ha : 0 ≤ a ∧ a < 4) (hb : b < P) (k1 : ∀ r, r ≠ 0 → r ≠ 4 → σ' r = σ r) (k2 : ∀ j, σ' 0 j = if j = 11 then 0 else σ 0 j) (k3 : ∀ q, q < 4 → σ' 4 q = lotR (σ 4) a b q) : XI σ' D P := by
  obtain ⟨⟨a1, a2, a3, a4, a5, a6, a7, a8⟩, bb, c, e, f, g, i, j, k, l, -⟩ := h
  refine ⟨⟨a1, ?_, ?_, ?_, ?_, ?_, ?_, fun p hp => ?_⟩, bb, ?_, ?_, ?_, ?_, ?_, ⟨fun p hp => ?_, fun p q hp hq hpq => ?_⟩, ?_, ?_, Sol0 (k2 11)⟩
  · rw [k2, if_neg (by decide)]; exact a2
  · rw [k2, if_neg (by decide)]; exact a3
  · rw [k2, if_neg (by decide)]; exact a4
  · rw [k1 1 (by decide) (by decide)]; exact a5
  · rw [k1 1 (by decide) (by decide)]; exact a6
  · rw [k1 2 (by decide) (by decide)]; exact a7
  · rw [k3 p hp]; unfold lotR
    have := a8 p hp
    split
    · omega
    · split <;> omega
  · rw [k2, if_neg (by decide)]; exact c
  · rw [k1 1 (by decide) (by decide)]; exact e
  · rw [k1 1 (by decide) (by decide)]; exact f
  · rw [k1 2 (by decide) (by decide), k1 3 (by decide) (by decide)]; exact g
  · rw [k1 3 (by decide) (by decide)]; exact i
  · rw [k3 p hp]; unfold lotR
    split
    · next q => subst q; exact Or.inr ⟨ha.1, ha.2, hb⟩
    · split
      · exact Or.inl rfl
      · exact j.1 p hp
  · rw [k3 p hp, k3 q hq] at hpq
    have jp := j.1 p hp
    have jq := j.1 q hq
    have jj := j.2 p q hp hq
    unfold lotR at hpq
    by_cases p1 : p = b <;> by_cases q1 : q = b
    · omega
    · rw [if_pos p1, if_neg q1] at hpq
      by_cases q2 : σ 4 q = a
      · rw [if_pos q2] at hpq; omega
      · rw [if_neg q2] at hpq; exact absurd hpq.symm q2
    · rw [if_neg p1, if_pos q1] at hpq
      by_cases p2 : σ 4 p = a
      · rw [if_pos p2] at hpq; omega
      · rw [if_neg p2] at hpq; exact absurd hpq p2
    · rw [if_neg p1, if_neg q1] at hpq
      by_cases p2 : σ 4 p = a <;> by_cases q2 : σ 4 q = a
      · rw [if_pos p2, if_pos q2] at hpq; omega
      · rw [if_pos p2, if_neg q2] at hpq; omega
      · rw [if_neg p2, if_pos q2] at hpq; omega
      · rw [if_neg p2, if_neg q2] at hpq; exact jj hpq
  · rw [k2, if_pos rfl]; exact Or.inl rfl
  · rw [k2, if_neg (by decide)]; exact l
/-- a number that stands for a ring -/
def isCode (r n : Nat) (D P : Nat → Nat) : Prop := r < 1048576 ∧ r % 8 = n ∧ ∀ i, i < n → r / 2 ^ (4 + 2 * i) % 4 = D i ∧ r / 2 ^ (12 + 2 * i) % 4 = P i
def RG (ρ : HP) : Prop := ρ 0 14 = 408 ∧ (∀ k, k < 408 → ∃ r n D P, ρ 7 k = (r : Nat) ∧ isRing n D P ∧ isCode r n D P) ∧ ∀ n D P, isRing n D P → ∃ k r, k < 408 ∧ ρ 7 k = (r : Nat) ∧ isCode r n D P
/-- the model was told what the class was told -/
def MIn (ρ σ : HP) (D P : Nat) : Prop := ρ 0 1 = D ∧ ρ 0 2 = P ∧ ρ 0 5 = σ 0 3 ∧ ρ 0 6 = σ 0 2 ∧ (∀ e, e < 4 → ρ 1 e = σ 1 e) ∧ (∀ l, l < 16 → ρ 2 l = σ 2 l ∧ ρ 10 l = σ 3 l) ∧ (∀ i, i < 4 → -1 ≤ ρ 3 i ∧ ρ 3 i < 4) ∧ (∀ p i : Nat, p < 4 → i < 4 → (ρ 3 i = p ↔ σ 4 p = i)) ∧ (∀ l, l < 16 → D ≤ l / 4 → ρ 4 l = 0) ∧ RG ρ ∧ ρ 0 8 = σ 0 11 ∧ (ρ 0 9 = 0 ∨ ρ 0 9 = 1)
def MSol (ρ σ : HP) : Prop := σ 0 11 = 1 → ρ 0 9 = σ 0 12 ∧ (∀ l, l < 16 → ρ 4 l = cF σ l) ∧ (σ 0 12 = 1 → (∀ l, l < 16 → ρ 8 l = σ 8 l ∧ ρ 9 l = σ 9 l) ∧ ∀ j, j < 8 → ρ 14 j = σ 16 j ∧ ρ 15 j = σ 17 j) ∧ (σ 0 12 = 0 → ρ 0 10 = σ 0 13)
theorem mok_total {D : Nat} (hD : σ 0 1 = D) (hD4 : D ≤ 4) : Ok d Y4_total SM [vr 0] σ (qi fun z σ' => σ' = σ ∧ z = sm D (σ 1)) := by
  refine Ok.ofWp (by decide) (Nat.le_of_ble_eq_true rfl) ?_
  have lp : ∀ k i : Nat, i + k = D → Wp d Y4_total SM 4 [some (vr 0), some (vi (sm i (σ 1))), some (vi (i : Int))] [] σ (qi fun z σ' => σ' = σ ∧ z = sm D (σ 1)) (fun _ _ _ _ => False) := by
    intro k
    induction k with
    | zero =>
      intro i hi
      have e : i = D := by omega
      subst e
      exact b4_total_4 _ _ ⟨by omega, by omega⟩ (by rw [hD]; exact ⟨by omega, by omega⟩) (fun _ => b4_total_27 _ ⟨_, rfl, rfl, rfl⟩) (fun q => by rw [hD] at q; omega)
    | succ k ih =>
      intro i hi
      refine b4_total_4 _ _ ⟨by omega, by omega⟩ (by rw [hD]; exact ⟨by omega, by omega⟩) (fun q => by rw [hD] at q; omega) (fun _ => ?_)
      refine b4_total_12 _ _ ⟨by omega, by omega⟩ ?_
      rw [Int.toNat_natCast]
      exact ih (i + 1) (by omega)
  exact b4_total_0 (lp D 0 (by omega))
theorem mok_isList {D P : Nat} {a b : Int} (ha : in32 a) (hb : in32 b) (hD : σ 0 1 = D) (hD4 : D ≤ 4) (hP : σ 0 2 = P) (hP4 : P ≤ 4) : Ok d Y4_isList SM [vr 0, vi a, vi b] σ (qi fun z σ' => σ' = σ ∧ ((z = 1 ∧ (0 ≤ a ∧ a < D ∧ 0 ≤ b ∧ b < P)) ∨ (z = 0 ∧ ¬ (0 ≤ a ∧ a < D ∧ 0 ≤ b ∧ b < P)))) := by
  refine Ok.ofWp (by decide) (Nat.le_of_ble_eq_true rfl) ?_
  have no : ¬ (0 ≤ a ∧ a < D ∧ 0 ≤ b ∧ b < P) → Wp d Y4_isList SM 28 [none, none, none] [] σ (qi fun z σ' => σ' = σ ∧ ((z = 1 ∧ (0 ≤ a ∧ a < D ∧ 0 ≤ b ∧ b < P)) ∨ (z = 0 ∧ ¬ (0 ≤ a ∧ a < D ∧ 0 ≤ b ∧ b < P)))) (fun _ _ _ _ => False) := fun q => b4_isList_28 (b4_isList_29 _ (Or.inl rfl) ⟨0, rfl, rfl, Or.inr ⟨rfl, q⟩⟩)
  have iD : in32 (σ 0 1) := by rw [hD]; exact ⟨by omega, by omega⟩
  have iP : in32 (σ 0 2) := by rw [hP]; exact ⟨by omega, by omega⟩
  refine b4_isList_0 _ _ ha (fun q => no (by omega)) (fun q1 => b4_isList_4 _ _ ha iD (fun q => no (by rw [hD] at q; omega)) (fun q2 => b4_isList_12 _ hb (fun q => no (by omega)) (fun q3 => b4_isList_16 _ hb iP (fun q => no (by rw [hP] at q; omega)) (fun q4 => ?_))))
  rw [hD] at q2
  rw [hP] at q4
  exact b4_isList_24 (b4_isList_29 _ (Or.inr rfl) ⟨1, rfl, rfl, Or.inl ⟨rfl, q1, q2, q3, q4⟩⟩)
theorem mok_votesOf {p : Nat} (hp : p < 4) : Ok d Y4_votesOf SM [vr 0, vi p] σ (qi fun z σ' => σ' = σ ∧ z = own (σ 2) p) := by
  refine Ok.ofWp (by decide) (Nat.le_of_ble_eq_true rfl) ?_
  refine b4_votesOf_0 _ ⟨by omega, by omega⟩ ⟨by omega, by omega⟩ ⟨by omega, by omega⟩ ⟨by omega, by omega⟩ ⟨_, rfl, rfl, ?_⟩
  unfold own
  rw [show (p : Int).toNat = p by omega, show (4 + (p : Int)).toNat = 4 + p by omega, show (8 + (p : Int)).toNat = 8 + p by omega, show (12 + (p : Int)).toNat = 12 + p by omega]
end MA
