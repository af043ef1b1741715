/-! ===== the class: the numbers ===== -/
def fb : Nat → Nat
  | 0 => 0
  | 1 => 1
  | n + 2 => fb n + fb (n + 1)
theorem fb100 : fb 100 = 354224848179261915075 := by simp [fb]
def EU (n a b : Nat) : Prop := b ≤ a ∧ (a < fb (n + 2) ∨ b < fb (n + 1))
theorem EU.st {n a b : Nat} (h : EU (n + 1) a b) (hb : 0 < b) : EU n b (a % b) := by
  obtain ⟨h1, h2⟩ := h
  have h3 := Nat.mod_lt a hb
  refine ⟨by omega, ?_⟩
  have e : fb (n + 3) = fb (n + 1) + fb (n + 2) := rfl
  by_cases q : b < fb (n + 2)
  · exact Or.inl q
  · rcases h2 with h2 | h2
    · right
      have : a % b ≤ a - b := by
        rw [Nat.mod_eq_sub_mod h1]
        exact Nat.mod_le _ _
      have h4 : a < fb (n + 3) := h2
      omega
    · exact absurd h2 q
theorem EU.z {a b : Nat} (h : EU 0 a b) : b = 0 := by
  obtain ⟨h1, h2⟩ := h
  simp [fb] at h2
  omega
theorem EU.top {a b : Nat} (hb : b < 9223372036854775808) (h0 : 0 < b) : EU 98 b (a % b) := by
  have := Nat.mod_lt a h0
  refine ⟨by omega, Or.inl ?_⟩
  rw [fb100]; omega
section XJ
variable {d : Nat} {σ : HP} {Q : MQt} {X : MXt}
theorem wp_gcd : ∀ (n i a b : Nat), i + n ≤ 100 → EU n a b → a < 9223372036854775808 → 0 < a → ∀ g : Nat, Nat.gcd a b = g → Wp d Y1_greatestDivisor SX 3 [some (vl (a : Int)), none, some (vl (b : Int)), none, some (vi (i : Int)), none, none] [] σ (ql fun z σ' => σ' = σ ∧ z = (g : Int)) (fun _ _ _ _ => False) := by
  intro n
  induction n with
  | zero =>
    intro i a b hi h ha h0 g hg
    have e := h.z
    subst e
    rw [Nat.gcd_zero_right] at hg
    subst hg
    have fin : Wp d Y1_greatestDivisor SX 32 [some (vl (a : Int)), none, none, none, none, none, none] [] σ (ql fun z σ' => σ' = σ ∧ z = (a : Int)) (fun _ _ _ _ => False) :=
      b1_greatestDivisor_32 _ ⟨by omega, by omega⟩ (fun q => absurd q (by omega)) (fun _ => b1_greatestDivisor_38 _ (b1_greatestDivisor_43 _ ⟨_, rfl, rfl, rfl⟩))
    exact b1_greatestDivisor_3 _ _ _ ⟨by omega, by omega⟩ (fun _ => fin) (fun _ => b1_greatestDivisor_10 _ _ _ ⟨by omega, by omega⟩ (fun _ => fin) (fun q => absurd q (by omega)))
  | succ n ih =>
    intro i a b hi h ha h0 g hg
    by_cases e : b = 0
    · subst e
      rw [Nat.gcd_zero_right] at hg
      subst hg
      have fin : Wp d Y1_greatestDivisor SX 32 [some (vl (a : Int)), none, none, none, none, none, none] [] σ (ql fun z σ' => σ' = σ ∧ z = (a : Int)) (fun _ _ _ _ => False) :=
        b1_greatestDivisor_32 _ ⟨by omega, by omega⟩ (fun q => absurd q (by omega)) (fun _ => b1_greatestDivisor_38 _ (b1_greatestDivisor_43 _ ⟨_, rfl, rfl, rfl⟩))
      exact b1_greatestDivisor_3 _ _ _ ⟨by omega, by omega⟩ (fun _ => fin) (fun _ => b1_greatestDivisor_10 _ _ _ ⟨by omega, by omega⟩ (fun _ => fin) (fun q => absurd q (by omega)))
    · have hb : 0 < b := by omega
      have hle := h.1
      refine b1_greatestDivisor_3 _ _ _ ⟨by omega, by omega⟩ (fun q => absurd q (by omega)) (fun _ => b1_greatestDivisor_10 _ _ _ ⟨by omega, by omega⟩ (fun q => absurd q (by omega)) (fun _ => ?_))
      refine b1_greatestDivisor_16 _ _ _ ⟨by omega, by omega⟩ ⟨by omega, by omega⟩ ?_
      exact ih (i + 1) b (a % b) (by omega) (h.st hb) (by omega) hb g (by rw [← hg, Nat.gcd_comm a b, Nat.gcd_rec b a, Nat.gcd_comm])
theorem ok_gcd {a b : Nat} (ha : 0 < a) (hb : 0 < b) (ha2 : a < 9223372036854775808) (hb2 : b < 9223372036854775808) : Ok d Y1_greatestDivisor SX [vl a, vl b] σ (ql fun z σ' => σ' = σ ∧ z = (Nat.gcd a b : Int)) := by
  refine Ok.ofWp (by decide) (Nat.le_of_ble_eq_true rfl) ?_
  refine b1_greatestDivisor_0 _ _ ?_
  refine b1_greatestDivisor_3 _ _ _ ⟨by decide, by decide⟩ (fun q => absurd q (by decide)) (fun _ => b1_greatestDivisor_10 _ _ _ ⟨by omega, by omega⟩ (fun q => absurd q (by omega)) (fun _ => ?_))
  refine b1_greatestDivisor_16 _ _ _ ⟨by omega, by omega⟩ ⟨by omega, by omega⟩ ?_
  exact wp_gcd 98 1 b (a % b) (by omega) (EU.top hb2 hb) hb2 hb (Nat.gcd a b) (by rw [Nat.gcd_comm a b, Nat.gcd_rec b a, Nat.gcd_comm])
theorem lt_quo {a b c e : Nat} (hb : 0 < b) (he : 0 < e) (h : a / b < c / e) : a * e < c * b := by
  have h1 : a < b * (a / b + 1) := Nat.lt_mul_div_succ a hb
  have h2 : e * (c / e) ≤ c := Nat.mul_div_le c e
  calc a * e < b * (a / b + 1) * e := Nat.mul_lt_mul_of_pos_right h1 he
    _ ≤ b * (c / e) * e := Nat.mul_le_mul_right e (Nat.mul_le_mul_left b h)
    _ = (e * (c / e)) * b := by rw [Nat.mul_assoc, Nat.mul_comm b, Nat.mul_comm (c / e)]
    _ ≤ c * b := Nat.mul_le_mul_right b h2
theorem eq_quo {a b c e : Nat} (h : a / b = c / e) : a * e < c * b ↔ (a % b) * e < (c % e) * b := by
  have h1 := Nat.div_add_mod a b
  have h2 := Nat.div_add_mod c e
  have k1 : a * e = b * (a / b) * e + (a % b) * e := by rw [← Nat.add_mul, h1]
  have k2 : c * b = b * (a / b) * e + (c % e) * b := by
    rw [h, show b * (c / e) * e = e * (c / e) * b by rw [Nat.mul_assoc, Nat.mul_comm b, Nat.mul_comm (c / e)], ← Nat.add_mul, h2]
  omega
theorem wp_isLess : ∀ (n i a b c e : Nat), i + n ≤ 100 → (EU n a b ∨ EU n c e) → a < 9223372036854775808 → b < 9223372036854775808 → c < 9223372036854775808 → e < 9223372036854775808 → 0 < b → 0 < e → ∀ r : Prop, (r ↔ a * e < c * b) → Wp d Y1_isLess SX 3 [some (vl (a : Int)), none, some (vl (b : Int)), none, some (vl (c : Int)), none, some (vl (e : Int)), none, some (vi (i : Int)), none, none, none, none, none, none, none, none] [] σ (qi fun z σ' => σ' = σ ∧ ((z = 1 ∧ r) ∨ (z = 0 ∧ ¬ r))) (fun _ _ _ _ => False) := by
  intro n
  induction n with
  | zero =>
    intro i a b c e hi h ha hb hc he b0 e0
    rcases h with h | h
    · have := h.z; omega
    · have := h.z; omega
  | succ n ih =>
    intro i a b c e hi h ha hb hc he b0 e0 r hr
    have q1 : a / b ≤ a := Nat.div_le_self a b
    have q2 : c / e ≤ c := Nat.div_le_self c e
    have m1 := Nat.mod_lt a b0
    have m2 := Nat.mod_lt c e0
    have l1 : ((a : Int) - (a : Int) / (b : Int) * (b : Int)) = ((a % b : Nat) : Int) := by
      have := Int.mul_ediv_add_emod (a : Int) (b : Int)
      rw [Int.mul_comm] at this
      rw [Int.natCast_emod]; omega
    have l2 : ((c : Int) - (c : Int) / (e : Int) * (e : Int)) = ((c % e : Nat) : Int) := by
      have := Int.mul_ediv_add_emod (c : Int) (e : Int)
      rw [Int.mul_comm] at this
      rw [Int.natCast_emod]; omega
    have d1 : (a : Int) / (b : Int) = ((a / b : Nat) : Int) := (Int.natCast_ediv a b).symm
    have d2 : (c : Int) / (e : Int) = ((c / e : Nat) : Int) := (Int.natCast_ediv c e).symm
    have n1 : (0 : Int) ≤ (a : Int) / (b : Int) := by rw [d1]; exact Int.natCast_nonneg _
    have n2 : (0 : Int) ≤ (c : Int) / (e : Int) := by rw [d2]; exact Int.natCast_nonneg _
    refine b1_isLess_3 _ _ _ _ _ ⟨by omega, by omega⟩ (fun q => absurd q (by omega)) (fun _ => ?_)
    refine b1_isLess_10 _ _ _ _ _ ⟨by omega, by omega⟩ (fun q => absurd q (by omega)) (fun _ => ?_)
    refine b1_isLess_16 _ _ _ _ _ ⟨by omega, by omega⟩ (fun q => absurd q (by omega)) (fun _ => ?_)
    refine b1_isLess_23 _ _ _ _ _ ⟨by omega, by omega⟩ ⟨by omega, by omega⟩ ⟨by omega, by omega⟩ ⟨by omega, by omega⟩ (by rw [d1]; exact ⟨by omega, by omega⟩) (by rw [d2]; exact ⟨by omega, by omega⟩) (fun g => ?_) (fun g => ?_)
    · have g2 : a / b = c / e := by rw [d1, d2] at g; omega
      have hr2 := hr.trans (eq_quo g2)
      have fin : ∀ s : Nat, s = c % e → (a % b = 0 ∨ s = 0) → Wp d Y1_isLess SX 89 [none, none, none, none, none, none, none, none, none, none, none, none, none, none, none, some (vl (s : Int)), none] [] σ (qi fun z σ' => σ' = σ ∧ ((z = 1 ∧ r) ∨ (z = 0 ∧ ¬ r))) (fun _ _ _ _ => False) := by
        intro s hs hz
        rw [← hs] at hr2
        refine b1_isLess_89 _ ⟨by omega, by omega⟩ (fun q => ?_) (fun q => ?_)
        · refine b1_isLess_100 (b1_isLess_101 _ (Or.inl rfl) ⟨0, rfl, rfl, Or.inr ⟨rfl, fun hh => ?_⟩⟩)
          have := hr2.1 hh
          rw [show s = 0 by omega] at this
          omega
        · refine b1_isLess_96 (b1_isLess_101 _ (Or.inr rfl) ⟨1, rfl, rfl, Or.inl ⟨rfl, hr2.2 ?_⟩⟩)
          rcases hz with hz | hz
          · rw [hz, Nat.zero_mul]
            exact Nat.mul_pos (by omega) b0
          · omega
      refine b1_isLess_57 _ _ _ _ _ _ _ (by rw [l1]; exact ⟨by omega, by omega⟩) (fun q => ?_) (fun q => ?_)
      · rw [l1] at q
        rw [l2]
        exact fin _ rfl (Or.inl (by omega))
      · rw [l1] at q ⊢
        rw [l2]
        refine b1_isLess_82 _ _ _ _ _ ⟨by omega, by omega⟩ (fun q2 => ?_) (fun q2 => fin _ rfl (Or.inr (by omega)))
        refine b1_isLess_102 _ _ _ _ _ ?_
        refine ih (i + 1) e (c % e) b (a % b) (by omega) ?_ he (by omega) hb (by omega) (by omega) (by omega) r ?_
        · rcases h with h | h
          · exact Or.inr (h.st b0)
          · exact Or.inl (h.st e0)
        · rw [hr2, Nat.mul_comm (a % b), Nat.mul_comm (c % e)]
    · have g2 : ¬ a / b = c / e := by rw [d1, d2] at g; omega
      rw [d1, d2]
      refine b1_isLess_43 _ _ ⟨by omega, by omega⟩ ⟨by omega, by omega⟩ (fun q => ?_) (fun q => ?_)
      · refine b1_isLess_55 (b1_isLess_56 _ (Or.inl rfl) ⟨0, rfl, rfl, Or.inr ⟨rfl, fun hh => ?_⟩⟩)
        have := hr.1 hh
        have := lt_quo e0 b0 (show c / e < a / b by omega)
        omega
      · exact b1_isLess_51 (b1_isLess_56 _ (Or.inr rfl) ⟨1, rfl, rfl, Or.inl ⟨rfl, hr.2 (lt_quo b0 e0 (by omega))⟩⟩)
end XJ
