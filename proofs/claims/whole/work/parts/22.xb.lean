/-! ===== the class: shares ===== -/
theorem bstF_ext {w w' s s' rk rk' : Tb} (hw : ∀ p, p < 4 → w p = w' p) (hs : ∀ p, p < 4 → s p = s' p) (hr : ∀ p, p < 4 → rk p = rk' p) : ∀ n, n < 4 → bstF w s rk n = bstF w' s' rk' n
  | 0, _ => rfl
  | n + 1, h => by
    have ih := bstF_ext hw hs hr n (by omega)
    have hb := bstF_le w' s' rk' n
    simp only [bstF]
    rw [ih]
    unfold gbF
    rw [hw (n + 1) h, hw _ (show bstF w' s' rk' n < 4 by omega), hs (n + 1) h, hs _ (show bstF w' s' rk' n < 4 by omega), hr (n + 1) h, hr _ (show bstF w' s' rk' n < 4 by omega)]
theorem shF_ext {w w' rk rk' : Tb} (hw : ∀ p, p < 4 → w p = w' p) (hr : ∀ p, p < 4 → rk p = rk' p) : ∀ n p, p < 4 → shF w rk n p = shF w' rk' n p
  | 0, _, _ => rfl
  | n + 1, p, h => by
    have ih := shF_ext hw hr n
    simp only [shF]
    rw [ih p h, bstF_ext hw ih hr 3 (by omega)]
theorem wtF_ext {D : Nat} {wg : Int} {sz c c' : Tb} (hD : D ≤ 4) (hc : ∀ l, l < 16 → c l = c' l) {p : Nat} (hp : p < 4) : wtF D wg sz c p = wtF D wg sz c' p := sm_ext fun d hd => by rw [hc _ (by omega)]
theorem wtF_bd {D : Nat} {wg : Int} {sz c : Tb} (hD : D ≤ 4) (hs : ∀ e, e < 4 → 0 ≤ sz e ∧ sz e ≤ 20) (hc : ∀ l, l < 16 → 0 ≤ c l ∧ c l ≤ 500) {p : Nat} (hp : p < 4) : 0 ≤ wtF D wg sz c p ∧ wtF D wg sz c p ≤ 320000000 := by
  have h := sm_bd (f := fun d => if wg = 0 then c (d * 4 + p) else c (d * 4 + p) * mulF sz d D) (m := 80000000) D (fun i hi => by
    have h1 := hc (i * 4 + p) (by omega)
    have h2 := mulF_bd (dd := i) hs D hD
    have h3 : (20 : Int) ^ D ≤ 160000 := by
      rcases (show D = 0 ∨ D = 1 ∨ D = 2 ∨ D = 3 ∨ D = 4 by omega) with rfl | rfl | rfl | rfl | rfl <;> decide
    split
    · omega
    · have h4 := Int.mul_le_mul h1.2 (show mulF sz i D ≤ 160000 by omega) h2.1 (by omega)
      have h5 := Int.mul_nonneg h1.1 h2.1
      omega)
  unfold wtF
  have h6 : (D : Int) * 80000000 ≤ 4 * 80000000 := by omega
  omega
section XB
variable {d : Nat} {σ : HP} {Q : MQt} {X : MXt}
def WSok (σ : HP) : Prop := (∀ p, p < 4 → 0 ≤ σ 6 p ∧ σ 6 p ≤ 320000000) ∧ (∀ p, p < 4 → 0 ≤ σ 7 p ∧ σ 7 p ≤ 20)
theorem ws_mul (h : WSok σ) {p q : Nat} (hp : p < 4) (hq : q < 4) : in32 (2 * σ 7 q + 1) ∧ in32 (2 * σ 7 q - 1) ∧ in64 (σ 6 p * (2 * σ 7 q + 1)) ∧ in64 (σ 6 p * (2 * σ 7 q - 1)) := by
  have h1 := h.1 p hp
  have h2 := h.2 q hq
  have h3 := Int.mul_le_mul h1.2 (show 2 * σ 7 q + 1 ≤ 41 by omega) (by omega) (by omega)
  have h4 := Int.mul_nonneg h1.1 (show 0 ≤ 2 * σ 7 q + 1 by omega)
  have h5 : σ 6 p * (2 * σ 7 q - 1) = σ 6 p * (2 * σ 7 q + 1) - 2 * σ 6 p := by rw [Int.mul_sub, Int.mul_add]; omega
  exact ⟨⟨by omega, by omega⟩, ⟨by omega, by omega⟩, ⟨by omega, by omega⟩, ⟨by omega, by omega⟩⟩
theorem ok_goesBefore {p q : Nat} (hp : p < 4) (hq : q < 4) (h : WSok σ) (hr : ∀ p, p < 4 → 0 ≤ σ 4 p ∧ σ 4 p ≤ 7) : Ok d Y3_goesBefore SX [vr 0, vi p, vi q] σ (qi fun z σ' => σ' = σ ∧ z = if gbF (σ 6) (σ 7) (σ 4) p q then 1 else 0) := by
  refine Ok.ofWp (by decide) (Nat.le_of_ble_eq_true rfl) ?_
  have m1 := ws_mul h hp hq
  have m2 := ws_mul h hq hp
  have r1 := hr p hp
  have r2 := hr q hq
  have fin1 : gbF (σ 6) (σ 7) (σ 4) p q → Wp d Y3_goesBefore SX 68 [none, none, none, none, none, none, none] [] σ (qi fun z σ' => σ' = σ ∧ z = if gbF (σ 6) (σ 7) (σ 4) p q then 1 else 0) (fun _ _ _ _ => False) := fun h => b3_goesBefore_68 (b3_goesBefore_73 _ (Or.inr rfl) ⟨1, rfl, rfl, by rw [if_pos h]⟩)
  have fin0 : ¬ gbF (σ 6) (σ 7) (σ 4) p q → Wp d Y3_goesBefore SX 72 [none, none, none, none, none, none, none] [] σ (qi fun z σ' => σ' = σ ∧ z = if gbF (σ 6) (σ 7) (σ 4) p q then 1 else 0) (fun _ _ _ _ => False) := fun h => b3_goesBefore_72 (b3_goesBefore_73 _ (Or.inl rfl) ⟨0, rfl, rfl, by rw [if_neg h]⟩)
  refine b3_goesBefore_0 _ _ ⟨by omega, by omega⟩ ⟨by omega, by omega⟩ m1.1 m2.1 m1.2.2.1 m2.2.2.1 (fun g => fin1 (Or.inl g)) (fun g => ?_)
  refine b3_goesBefore_46 _ _ _ _ m1.2.2.1 m2.2.2.1 (fun g2 => fin0 ?_) (fun g2 => ?_)
  · rintro (z | z)
    · exact absurd z (Int.not_lt.mpr g)
    · exact g2 z.1
  · refine b3_goesBefore_53 _ _ ⟨by omega, by omega⟩ ⟨by omega, by omega⟩ ⟨by show _ ≤ σ 4 p; omega, by show σ 4 p ≤ _; omega⟩ ⟨by show _ ≤ σ 4 q; omega, by show σ 4 q ≤ _; omega⟩ (fun g3 => fin0 ?_) (fun g3 => fin1 (Or.inr ⟨g2, g3⟩))
    rintro (z | z)
    · exact absurd z (Int.not_lt.mpr g)
    · exact absurd z.2 (Int.not_lt.mpr g3)
theorem ok_nextParty (h : WSok σ) (hr : ∀ p, p < 4 → 0 ≤ σ 4 p ∧ σ 4 p ≤ 7) : Ok (d + 1) Y3_nextParty SX [vr 0] σ (qi fun z σ' => σ' = σ ∧ z = (bstF (σ 6) (σ 7) (σ 4) 3 : Int)) := by
  refine Ok.ofWp (by decide) (Nat.le_of_ble_eq_true rfl) ?_
  have lp : ∀ k i : Nat, i + k = 3 → Wp (d + 1) Y3_nextParty SX 4 [some (vr 0), some (vi (bstF (σ 6) (σ 7) (σ 4) i : Int)), some (vi ((i + 1 : Nat) : Int))] [] σ (qi fun z σ' => σ' = σ ∧ z = (bstF (σ 6) (σ 7) (σ 4) 3 : Int)) (fun _ _ _ _ => False) := by
    intro k
    induction k with
    | zero =>
      intro i hi
      have e : i = 3 := by omega
      subst e
      exact b3_nextParty_4 _ _ ⟨by omega, by omega⟩ (fun _ => b3_nextParty_26 _ ⟨_, rfl, rfl, rfl⟩) (fun h => absurd h (by omega))
    | succ k ih =>
      intro i hi
      have hb := bstF_le (σ 6) (σ 7) (σ 4) i
      have hi1 := ih (i + 1) (by omega)
      simp only [bstF] at hi1
      refine b3_nextParty_4 _ _ ⟨by omega, by omega⟩ (fun h => absurd h (by omega)) (fun _ => ?_)
      refine b3_nextParty_9 _ _ (ok_goesBefore (show i + 1 < 4 by omega) (show bstF (σ 6) (σ 7) (σ 4) i < 4 by omega) h hr) (fun z σ' hz => ?_)
      obtain ⟨rfl, hz⟩ := hz
      by_cases g : gbF (σ' 6) (σ' 7) (σ' 4) (i + 1) (bstF (σ' 6) (σ' 7) (σ' 4) i)
      · rw [if_pos g] at hz hi1
        subst hz
        exact b3_nextParty_15 _ _ _ ⟨by decide, by decide⟩ (fun q => absurd q (by decide)) (fun _ => b3_nextParty_18 _ (b3_nextParty_20 _ _ hi1))
      · rw [if_neg g] at hz hi1
        subst hz
        exact b3_nextParty_15 _ _ _ ⟨by decide, by decide⟩ (fun _ => b3_nextParty_20 _ _ hi1) (fun q => absurd rfl q)
  exact b3_nextParty_0 (lp 3 0 rfl)
theorem ok_couldHandOver {p q : Nat} (hp : p < 4) (hq : q < 4) (h : WSok σ) : Ok d Y3_couldHandOver SX [vr 0, vi p, vi q] σ (qi fun z σ' => σ' = σ ∧ z = if 0 < σ 7 p ∧ 0 < σ 6 p ∧ σ 6 p * (2 * σ 7 q + 1) = σ 6 q * (2 * σ 7 p - 1) then 1 else 0) := by
  refine Ok.ofWp (by decide) (Nat.le_of_ble_eq_true rfl) ?_
  have m1 := ws_mul h hp hq
  have m2 := ws_mul h hq hp
  have w1 := h.1 p hp
  have s1 := h.2 p hp
  have fin1 : (0 < σ 7 p ∧ 0 < σ 6 p ∧ σ 6 p * (2 * σ 7 q + 1) = σ 6 q * (2 * σ 7 p - 1)) → Wp d Y3_couldHandOver SX 60 [none, none, none] [] σ (qi fun z σ' => σ' = σ ∧ z = if 0 < σ 7 p ∧ 0 < σ 6 p ∧ σ 6 p * (2 * σ 7 q + 1) = σ 6 q * (2 * σ 7 p - 1) then 1 else 0) (fun _ _ _ _ => False) := fun h => b3_couldHandOver_60 (b3_couldHandOver_65 _ (Or.inr rfl) ⟨1, rfl, rfl, by rw [if_pos h]⟩)
  have fin0 : ¬ (0 < σ 7 p ∧ 0 < σ 6 p ∧ σ 6 p * (2 * σ 7 q + 1) = σ 6 q * (2 * σ 7 p - 1)) → Wp d Y3_couldHandOver SX 64 [none, none, none] [] σ (qi fun z σ' => σ' = σ ∧ z = if 0 < σ 7 p ∧ 0 < σ 6 p ∧ σ 6 p * (2 * σ 7 q + 1) = σ 6 q * (2 * σ 7 p - 1) then 1 else 0) (fun _ _ _ _ => False) := fun h => b3_couldHandOver_64 (b3_couldHandOver_65 _ (Or.inl rfl) ⟨0, rfl, rfl, by rw [if_neg h]⟩)
  refine b3_couldHandOver_0 _ _ ⟨by omega, by omega⟩ ⟨by show _ ≤ σ 7 p; omega, by show σ 7 p ≤ _; omega⟩ (fun g => fin0 fun z => absurd z.1 (Int.not_lt.mpr g)) (fun g1 => ?_)
  refine b3_couldHandOver_9 _ _ ⟨by omega, by omega⟩ ⟨by show _ ≤ σ 6 p; omega, by show σ 6 p ≤ _; omega⟩ (fun g => fin0 fun z => absurd z.2.1 (Int.not_lt.mpr g)) (fun g2 => ?_)
  exact b3_couldHandOver_20 _ _ ⟨by omega, by omega⟩ ⟨by omega, by omega⟩ m1.1 m2.2.1 m1.2.2.1 m2.2.2.2 (fun g => fin0 fun z => g z.2.2) (fun g => fin1 ⟨g1, g2, g⟩)
/-- what the class holds between calls, as far as shares need it -/
def XV (σ : HP) (D : Nat) : Prop := D ≤ 4 ∧ σ 0 0 = D ∧ (0 ≤ σ 0 2 ∧ σ 0 2 ≤ 1000) ∧ (σ 0 3 = 0 ∨ σ 0 3 = 1) ∧ (∀ e, e < 4 → 0 ≤ σ 1 e ∧ σ 1 e ≤ 20) ∧ sm 4 (σ 1) ≤ 20 ∧ (∀ l, l < 16 → 0 ≤ σ 2 l ∧ σ 2 l ≤ 500) ∧ ∀ p, p < 4 → 0 ≤ σ 4 p ∧ σ 4 p ≤ 7
def cF (σ : HP) : Tb := cntF (σ 2) (σ 0 2)
def wF (σ : HP) (D : Nat) : Tb := wtF D (σ 0 3) (σ 1) (cF σ)
def sF (σ : HP) (D : Nat) : Tb := shF (wF σ D) (σ 4) (sm 4 (σ 1)).toNat
def shPost (σ : HP) (D : Nat) (z : Int) (σ' : HP) : Prop := (∀ r, r ≠ 5 → r ≠ 6 → r ≠ 7 → σ' r = σ r) ∧ (∀ l, l < 16 → σ' 5 l = cF σ l) ∧ (∀ p, p < 4 → σ' 6 p = wF σ D p) ∧ ((z = 1 ∧ (∃ p, p < 4 ∧ 0 < wF σ D p) ∧ ∀ p, p < 4 → σ' 7 p = sF σ D p) ∨ (z = 0 ∧ (∀ p, p < 4 → wF σ D p = 0) ∧ ∀ p, p < 4 → σ' 7 p = 0))
theorem cF_bd {D : Nat} (h : XV σ D) : ∀ l, l < 16 → 0 ≤ cF σ l ∧ cF σ l ≤ 500 := by
  intro l hl
  have := h.2.2.2.2.2.2.1 l hl
  unfold cF cntF
  split
  · omega
  · exact this
theorem wp_shareOut {D : Nat} (h : XV σ D) (K : ∀ z σ', shPost σ D z σ' → Q (some (vi z)) σ') : Wp (d + 2) Y3_shareOut SX 0 [some (vr 0), none, none] [] σ Q X := by
  obtain ⟨hD4, hD, hb, hw, hs, h20, hv, hr⟩ := id h
  have hcb := cF_bd h
  have hwb : ∀ p, p < 4 → 0 ≤ wF σ D p ∧ wF σ D p ≤ 320000000 := fun p hp => wtF_bd hD4 hs hcb hp
  have hn := (sm_bd (f := σ 1) 4 hs).1
  -- the seats one by one
  have l2 : (∃ p, p < 4 ∧ 0 < wF σ D p) → ∀ k j : Nat, j + k = (sm 4 (σ 1)).toNat → ∀ τ : HP, (∀ r, r ≠ 5 → r ≠ 6 → r ≠ 7 → τ r = σ r) → (∀ l, l < 16 → τ 5 l = cF σ l) → (∀ p, p < 4 → τ 6 p = wF σ D p) → (∀ p, p < 4 → τ 7 p = shF (wF σ D) (σ 4) j p) →
      Wp (d + 2) Y3_shareOut SX 69 [some (vr 0), none, some (vi (k : Int))] [] τ Q X := by
    intro hpos k
    induction k with
    | zero =>
      intro j hj τ h0 h5 h6 h7
      refine b3_shareOut_69 _ ⟨by omega, by omega⟩ (fun _ => b3_shareOut_92 (K 1 τ ⟨h0, h5, h6, Or.inl ⟨rfl, hpos, fun p hp => ?_⟩⟩)) (fun q => absurd q (by omega))
      rw [h7 p hp]
      unfold sF
      rw [show j = (sm 4 (σ 1)).toNat by omega]
    | succ k ih =>
      intro j hj τ h0 h5 h6 h7
      have hws : WSok τ := ⟨fun p hp => by rw [h6 p hp]; exact hwb p hp, fun p hp => by
        rw [h7 p hp]
        have := shF_bd (wF σ D) (σ 4) j p
        omega⟩
      have hrk : ∀ p, p < 4 → τ 4 p = σ 4 p := fun p _ => by rw [h0 4 (by decide) (by decide) (by decide)]
      refine b3_shareOut_69 _ ⟨by omega, by omega⟩ (fun q => absurd q (by omega)) (fun _ => ?_)
      refine b3_shareOut_73 _ (ok_nextParty hws (fun p hp => by rw [hrk p hp]; exact hr p hp)) (fun z τ' hz => ?_)
      obtain ⟨rfl, rfl⟩ := hz
      have hbl := bstF_le (τ' 6) (τ' 7) (τ' 4) 3
      have heq : bstF (τ' 6) (τ' 7) (τ' 4) 3 = bstF (wF σ D) (shF (wF σ D) (σ 4) j) (σ 4) 3 := bstF_ext h6 h7 hrk 3 (by omega)
      refine b3_shareOut_81 _ _ ⟨by omega, by omega⟩ ?_
      have e1 : ((k + 1 : Nat) : Int) + (-1) = (k : Int) := by omega
      have e2 : ((bstF (τ' 6) (τ' 7) (τ' 4) 3 : Nat) : Int).toNat = bstF (τ' 6) (τ' 7) (τ' 4) 3 := by omega
      rw [e1, e2]
      refine ih (j + 1) (by omega) _ (fun r a b c => ?_) (fun l hl => ?_) (fun p hp => ?_) (fun p hp => ?_)
      · rw [up_ne c]; exact h0 r a b c
      · rw [up_nr (by decide)]; exact h5 l hl
      · rw [up_nr (by decide)]; exact h6 p hp
      · simp only [shF]
        rw [← heq]
        by_cases q : p = bstF (τ' 6) (τ' 7) (τ' 4) 3
        · rw [if_pos q, q, up_at, ← q, h7 p hp]
        · rw [if_neg q, up_nj q, h7 p hp]
  -- the weights
  have l1 : ∀ k i : Nat, i + k = 4 → ∀ (τ : HP) (a : Int), (∀ r, r ≠ 5 → r ≠ 6 → r ≠ 7 → τ r = σ r) → (∀ l, l < 16 → τ 5 l = cF σ l) → (∀ p, p < i → τ 6 p = wF σ D p) → (∀ p, p < i → τ 7 p = 0) → ((a = 1 ∧ ∃ p, p < i ∧ 0 < wF σ D p) ∨ (a = 0 ∧ ∀ p, p < i → wF σ D p = 0)) →
      Wp (d + 2) Y3_shareOut SX 8 [some (vr 0), some (vi a), some (vi (i : Int))] [] τ Q X := by
    intro k
    induction k with
    | zero =>
      intro i hi τ a h0 h5 h6 h7 ha
      have e : i = 4 := by omega
      subst e
      refine b3_shareOut_8 _ _ ⟨by omega, by omega⟩ (fun _ => ?_) (fun q => absurd q (by omega))
      refine b3_shareOut_58 _ (by rcases ha with ⟨rfl, -⟩ | ⟨rfl, -⟩ <;> exact ⟨by decide, by decide⟩) (fun q => ?_) (fun q => ?_)
      · rcases ha with ⟨ha, hp⟩ | ⟨ha, -⟩
        · refine b3_shareOut_64 (ok_allSeats (d := d + 1)) (fun z τ' hz => ?_)
          obtain ⟨rfl, rfl⟩ := hz
          rw [h0 1 (by decide) (by decide) (by decide)]
          have e2 : sm 4 (σ 1) = (((sm 4 (σ 1)).toNat : Nat) : Int) := by omega
          rw [e2]
          exact b3_shareOut_68 _ (l2 hp _ 0 (by omega) τ' h0 h5 h6 h7)
        · exact absurd ha q
      · rcases ha with ⟨ha, -⟩ | ⟨-, hz⟩
        · omega
        · exact b3_shareOut_62 (K 0 τ ⟨h0, h5, h6, Or.inr ⟨rfl, hz, h7⟩⟩)
    | succ k ih =>
      intro i hi τ a h0 h5 h6 h7 ha
      have hi4 : i < 4 := by omega
      refine b3_shareOut_8 _ _ ⟨by omega, by omega⟩ (fun q => absurd q (by omega)) (fun _ => ?_)
      have t00 : τ 0 = σ 0 := h0 0 (by decide) (by decide) (by decide)
      have t01 : τ 1 = σ 1 := h0 1 (by decide) (by decide) (by decide)
      refine b3_shareOut_13 _ _ (ok_weightOf (d := d) (D := D) (pp := i) (by rw [t00]; exact hD) hD4 hi4 (by rw [t01]; exact hs) (fun l hl => by rw [h5 l hl]; exact hcb l hl) (by rw [t00]; exact hw)) (fun z τ' hz => ?_)
      obtain ⟨rfl, hz⟩ := hz
      have hzw : z = wF σ D i := by rw [hz, t00, t01]; exact wtF_ext hD4 h5 hi4
      clear hz
      subst hzw
      have hwi := hwb i hi4
      have p0 : ∀ r, r ≠ 5 → r ≠ 6 → r ≠ 7 → up (up τ' 6 i (wF σ D i)) 7 i 0 r = σ r := fun r x y z => by rw [up_ne z, up_ne y]; exact h0 r x y z
      have p5 : ∀ l, l < 16 → up (up τ' 6 i (wF σ D i)) 7 i 0 5 l = cF σ l := fun l hl => by rw [up_nr (by decide), up_nr (by decide)]; exact h5 l hl
      have p6 : ∀ p, p < i + 1 → up (up τ' 6 i (wF σ D i)) 7 i 0 6 p = wF σ D p := fun p hp => by
        rw [up_nr (by decide)]
        by_cases q : p = i
        · rw [q, up_at]
        · rw [up_nj q]; exact h6 p (by omega)
      have p7 : ∀ p, p < i + 1 → up (up τ' 6 i (wF σ D i)) 7 i 0 7 p = 0 := fun p hp => by
        by_cases q : p = i
        · rw [q, up_at]
        · rw [up_nj q, up_nr (by decide)]; exact h7 p (by omega)
      have yes : (∃ p, p < i + 1 ∧ 0 < wF σ D p) → Wp (d + 2) Y3_shareOut SX 46 [some (vr 0), none, some (vi (i : Int))] [] (up (up τ' 6 i (wF σ D i)) 7 i 0) Q X := fun q => b3_shareOut_46 _ (b3_shareOut_51 _ _ (ih (i + 1) (by omega) _ 1 p0 p5 p6 p7 (Or.inl ⟨rfl, q⟩)))
      refine b3_shareOut_23 _ _ _ _ ⟨by omega, by omega⟩ ⟨by omega, by omega⟩ (by rcases ha with ⟨rfl, -⟩ | ⟨rfl, -⟩ <;> exact ⟨by decide, by decide⟩) (fun q => ?_) (fun q => ?_)
      · rcases ha with ⟨-, p, hp, hp2⟩ | ⟨ha, -⟩
        · exact yes ⟨p, by omega, hp2⟩
        · exact absurd ha q
      · rcases ha with ⟨ha, -⟩ | ⟨-, hz⟩
        · omega
        · have e6 : up (up τ' 6 i (wF σ D i)) 7 i 0 6 i = wF σ D i := p6 i (by omega)
          refine b3_shareOut_35 _ ⟨by omega, by omega⟩ (show in64 (up (up τ' 6 i (wF σ D i)) 7 i 0 6 i) from by rw [e6]; exact ⟨by omega, by omega⟩) (fun g => ?_) (fun g => ?_)
          · have g' : up (up τ' 6 i (wF σ D i)) 7 i 0 6 i ≤ 0 := g
            rw [e6] at g'
            exact b3_shareOut_50 _ (b3_shareOut_51 _ _ (ih (i + 1) (by omega) _ 0 p0 p5 p6 p7 (Or.inr ⟨rfl, fun p hp => by
              by_cases q2 : p = i
              · rw [q2]; omega
              · exact hz p (by omega)⟩)))
          · have g' : 0 < up (up τ' 6 i (wF σ D i)) 7 i 0 6 i := g
            rw [e6] at g'
            exact yes ⟨i, by omega, g'⟩
  refine b3_shareOut_0 (ok_countVotes (d := d + 1) hv hb) (fun τ hτ => ?_)
  obtain ⟨h1, h2⟩ := hτ
  exact b3_shareOut_4 (l1 4 0 rfl τ 0 (fun r a _ _ => h1 r a) h2 (fun p hp => by omega) (fun p hp => by omega) (Or.inr ⟨rfl, fun p hp => by omega⟩))
theorem ok_shareOut {D : Nat} (h : XV σ D) : Ok (d + 2) Y3_shareOut SX [vr 0] σ (qi fun z σ' => shPost σ D z σ') :=
  Ok.ofWp (by decide) (Nat.le_of_ble_eq_true rfl) (wp_shareOut h fun z σ' q => ⟨z, rfl, q⟩)
end XB
