/-! ===== the class: the block ===== -/
def rchB (c : Tb) (A q : Nat) : Bool := (A.testBit 0 && decide (0 < c q)) || (A.testBit 1 && decide (0 < c (4 + q))) || (A.testBit 2 && decide (0 < c (8 + q))) || (A.testBit 3 && decide (0 < c (12 + q)))
theorem rchB_iff {c : Tb} {A q : Nat} (hq : q < 4) : rchB c A q = true ↔ ∃ l, l < 16 ∧ l % 4 = q ∧ 0 < c l ∧ A.testBit (l / 4) = true := by
  unfold rchB
  simp only [Bool.or_eq_true, Bool.and_eq_true, decide_eq_true_eq]
  constructor
  · rintro (((h | h) | h) | h)
    · exact ⟨q, by omega, by omega, h.2, by rw [show q / 4 = 0 by omega]; exact h.1⟩
    · exact ⟨4 + q, by omega, by omega, h.2, by rw [show (4 + q) / 4 = 1 by omega]; exact h.1⟩
    · exact ⟨8 + q, by omega, by omega, h.2, by rw [show (8 + q) / 4 = 2 by omega]; exact h.1⟩
    · exact ⟨12 + q, by omega, by omega, h.2, by rw [show (12 + q) / 4 = 3 by omega]; exact h.1⟩
  · rintro ⟨l, h1, h2, h3, h4⟩
    rcases (show l / 4 = 0 ∨ l / 4 = 1 ∨ l / 4 = 2 ∨ l / 4 = 3 by omega) with e | e | e | e
    · rw [e] at h4; rw [show l = q by omega] at h3; exact Or.inl (Or.inl (Or.inl ⟨h4, h3⟩))
    · rw [e] at h4; rw [show l = 4 + q by omega] at h3; exact Or.inl (Or.inl (Or.inr ⟨h4, h3⟩))
    · rw [e] at h4; rw [show l = 8 + q by omega] at h3; exact Or.inl (Or.inr ⟨h4, h3⟩)
    · rw [e] at h4; rw [show l = 12 + q by omega] at h3; exact Or.inr ⟨h4, h3⟩
def demS (sz : Tb) (A : Nat) : Int := sm 4 (fun e => if A.testBit e = true then sz e else 0)
def supS (c sh : Tb) (A : Nat) : Int := sm 4 (fun q => if rchB c A q = true then sh q else 0)
def badS (c sz sh : Tb) (A : Nat) : Prop := supS c sh A < demS sz A
section XC
variable {d : Nat} {σ : HP} {Q : MQt} {X : MXt}
theorem ok_pwvi {A : Nat} (hA : A < 16) (hc : ∀ l, l < 16 → 0 ≤ σ 5 l ∧ σ 5 l ≤ 500) : Ok (d + 1) Y3_partiesWithVotesIn SX [vr 0, vi A] σ (qi fun z σ' => σ' = σ ∧ ∃ B : Nat, z = B ∧ B < 16 ∧ ∀ q, q < 4 → B.testBit q = rchB (σ 5) A q) := by
  refine Ok.ofWp (by decide) (Nat.le_of_ble_eq_true rfl) ?_
  have lp : ∀ k i B : Nat, i + k = 16 → B < 16 → (∀ q, q < 4 → (B.testBit q = true ↔ ∃ l, l < i ∧ l % 4 = q ∧ 0 < σ 5 l ∧ A.testBit (l / 4) = true)) → Wp (d + 1) Y3_partiesWithVotesIn SX 4 [some (vr 0), some (vi (A : Int)), some (vi (B : Int)), some (vi (i : Int))] [] σ (qi fun z σ' => σ' = σ ∧ ∃ B : Nat, z = B ∧ B < 16 ∧ ∀ q, q < 4 → B.testBit q = rchB (σ 5) A q) (fun _ _ _ _ => False) := by
    intro k
    induction k with
    | zero =>
      intro i B hi hB hb
      have e : i = 16 := by omega
      subst e
      refine b3_partiesWithVotesIn_4 _ _ _ ⟨by omega, by omega⟩ (fun _ => b3_partiesWithVotesIn_43 _ ⟨_, rfl, rfl, B, rfl, hB, fun q hq => ?_⟩) (fun h => absurd h (by omega))
      rw [Bool.eq_iff_iff, hb q hq, rchB_iff hq]
    | succ k ih =>
      intro i B hi hB hb
      have hci := hc i (by omega)
      refine b3_partiesWithVotesIn_4 _ _ _ ⟨by omega, by omega⟩ (fun h => absurd h (by omega)) (fun _ => ?_)
      have skip : ¬ (0 < σ 5 i ∧ A.testBit (i / 4) = true) → Wp (d + 1) Y3_partiesWithVotesIn SX 37 [some (vr 0), some (vi (A : Int)), some (vi (B : Int)), some (vi (i : Int))] [] σ (qi fun z σ' => σ' = σ ∧ ∃ B : Nat, z = B ∧ B < 16 ∧ ∀ q, q < 4 → B.testBit q = rchB (σ 5) A q) (fun _ _ _ _ => False) := by
        intro hn
        refine b3_partiesWithVotesIn_37 _ _ _ (ih (i + 1) B (by omega) hB (fun q hq => ?_))
        rw [hb q hq]
        constructor
        · rintro ⟨l, h1, h2⟩; exact ⟨l, by omega, h2⟩
        · rintro ⟨l, h1, h2, h3, h4⟩
          by_cases e : l = i
          · subst e; exact absurd ⟨h3, h4⟩ hn
          · exact ⟨l, by omega, h2, h3, h4⟩
      refine b3_partiesWithVotesIn_10 _ _ _ ⟨by omega, by omega⟩ (show in32 (σ 5 i) from ⟨by omega, by omega⟩) (fun h => skip (fun q => by have h' : σ 5 i ≤ 0 := h; omega)) (fun h => ?_)
      have h' : 0 < σ 5 i := h
      have ed : (i : Int) / 4 = ((i / 4 : Nat) : Int) := by omega
      have em : (i : Int) % 4 = ((i % 4 : Nat) : Int) := by omega
      refine b3_partiesWithVotesIn_19 (d := d) _ _ _ ⟨by omega, by omega⟩ (P := fun z σ' => σ' = σ ∧ z = if A.testBit (i / 4) then 1 else 0) (by rw [ed]; exact ok_isIn (by omega) (by omega)) (fun z σ' hz => ?_)
      obtain ⟨rfl, hz⟩ := hz
      by_cases t : A.testBit (i / 4) = true
      · rw [if_pos t] at hz
        subst hz
        refine b3_partiesWithVotesIn_26 _ _ _ _ ⟨by decide, by decide⟩ (fun q => absurd q (by decide)) (fun _ => ?_)
        refine b3_partiesWithVotesIn_29 _ _ _ ⟨by omega, by omega⟩ ?_
        have hp : 2 ^ (i % 4) < 16 := Nat.pow_lt_pow_right (a := 2) (n := 4) (by omega) (by omega)
        have e1 : bL 1 ((i % 4 : Nat) : Int) = ((2 ^ (i % 4) : Nat) : Int) := by
          have := bL_N (a := 1) (k := i % 4) (by omega) (by omega)
          rw [Nat.one_mul] at this
          exact this
        rw [em, e1, bO_N (by omega) (by omega)]
        refine b3_partiesWithVotesIn_37 _ _ _ (ih (i + 1) _ (by omega) (Nat.or_lt_two_pow (n := 4) hB hp) (fun q hq => ?_))
        rw [Nat.testBit_or, Nat.testBit_two_pow, Bool.or_eq_true, hb q hq, decide_eq_true_eq]
        constructor
        · rintro (⟨l, h1, h2⟩ | h1)
          · exact ⟨l, by omega, h2⟩
          · exact ⟨i, by omega, h1, h', t⟩
        · rintro ⟨l, h1, h2, h3, h4⟩
          by_cases e : l = i
          · subst e; exact Or.inr h2
          · exact Or.inl ⟨l, by omega, h2, h3, h4⟩
      · rw [if_neg t] at hz
        subst hz
        exact b3_partiesWithVotesIn_26 _ _ _ _ ⟨by decide, by decide⟩ (fun _ => skip (fun q => t q.2)) (fun q => absurd rfl q)
  exact b3_partiesWithVotesIn_0 _ (lp 16 0 0 rfl (by omega) (fun q hq => by simp))
theorem ok_seatsOf {A r : Nat} (hA : A < 16) (hr : SX[r]? = some (.inl (.inl 4))) : Ok (d + 1) Y3_seatsOf SX [vi A, vr r] σ (qi fun z σ' => σ' = σ ∧ z = demS (σ r) A) := by
  refine Ok.ofWp (by decide) (Nat.le_of_ble_eq_true rfl) ?_
  have lp : ∀ k i : Nat, i + k = 4 → Wp (d + 1) Y3_seatsOf SX 4 [some (vi (A : Int)), some (vr r), some (vi (sm i (fun e => if A.testBit e = true then σ r e else 0))), some (vi (i : Int))] [] σ (qi fun z σ' => σ' = σ ∧ z = demS (σ r) A) (fun _ _ _ _ => False) := by
    intro k
    induction k with
    | zero =>
      intro i hi
      have e : i = 4 := by omega
      subst e
      exact b3_seatsOf_4 _ _ _ _ ⟨by omega, by omega⟩ (fun _ => b3_seatsOf_29 _ ⟨_, rfl, rfl, rfl⟩) (fun h => absurd h (by omega))
    | succ k ih =>
      intro i hi
      have hi1 := ih (i + 1) (by omega)
      simp only [sm] at hi1
      refine b3_seatsOf_4 _ _ _ _ ⟨by omega, by omega⟩ (fun h => absurd h (by omega)) (fun _ => ?_)
      refine b3_seatsOf_9 _ _ _ _ (ok_isIn (d := d) (σ := σ) (a := A) (k := i) (by omega) (by omega)) (fun z σ' hz => ?_)
      obtain ⟨rfl, hz⟩ := hz
      by_cases t : A.testBit i = true
      · rw [if_pos t] at hz hi1
        subst hz
        exact b3_seatsOf_14 _ _ _ _ _ ⟨by decide, by decide⟩ (fun q => absurd q (by decide)) (fun _ => b3_seatsOf_17 _ _ _ _ hr ⟨by omega, by omega⟩ (b3_seatsOf_23 _ _ _ _ hi1))
      · rw [if_neg t] at hz hi1
        subst hz
        rw [Int.add_zero] at hi1
        exact b3_seatsOf_14 _ _ _ _ _ ⟨by decide, by decide⟩ (fun _ => b3_seatsOf_23 _ _ _ _ hi1) (fun q => absurd rfl q)
  exact b3_seatsOf_0 _ _ (lp 4 0 rfl)
theorem dem_bd {sz : Tb} {m : Int} (hm : 0 ≤ m) (h : ∀ e, e < 4 → 0 ≤ sz e ∧ sz e ≤ m) (A : Nat) : 0 ≤ demS sz A ∧ demS sz A ≤ 4 * m := by
  have := sm_bd (f := fun e => if A.testBit e = true then sz e else 0) (m := m) 4 (fun i hi => by
    have := h i hi
    split <;> omega)
  exact this
theorem sup_dem {c sh : Tb} {A B : Nat} (h : ∀ q, q < 4 → B.testBit q = rchB c A q) : demS sh B = supS c sh A := sm_ext fun q hq => by rw [h q hq]
/-- the first set that blocks, and the parties that it reaches; or none -/
def blkPost (c sz sh : Tb) (D : Nat) (A B : Nat) : Prop := (A = 0 ∧ B = 0 ∧ ∀ s, 1 ≤ s → s < 2 ^ D → ¬ badS c sz sh s) ∨ (1 ≤ A ∧ A < 2 ^ D ∧ badS c sz sh A ∧ (∀ s, 1 ≤ s → s < A → ¬ badS c sz sh s) ∧ B < 16 ∧ ∀ q, q < 4 → B.testBit q = rchB c A q)
theorem wp_findBlock {D : Nat} (hD : σ 0 0 = D) (hD4 : D ≤ 4) (hs : ∀ e, e < 4 → 0 ≤ σ 1 e ∧ σ 1 e ≤ 20) (hc : ∀ l, l < 16 → 0 ≤ σ 5 l ∧ σ 5 l ≤ 500) (hsh : ∀ p, p < 4 → 0 ≤ σ 7 p ∧ σ 7 p ≤ 20) (K : ∀ A B : Nat, blkPost (σ 5) (σ 1) (σ 7) D A B → Q none (up (up σ 0 13 A) 0 14 B)) : Wp (d + 2) Y3_findBlock SX 0 [some (vr 0), none, none] [] σ Q X := by
  have h16 : 2 ^ D ≤ 16 := Nat.pow_le_pow_right (n := 2) (i := D) (j := 4) (by omega) hD4
  have eL : bL 1 (σ 0 0) = ((2 ^ D : Nat) : Int) := by
    rw [hD]
    have := bL_N (a := 1) (k := D) (by omega) (by omega)
    rw [Nat.one_mul] at this
    exact this
  have lp : ∀ k i : Nat, i + k = 2 ^ D → 1 ≤ i → (∀ s, 1 ≤ s → s < i → ¬ badS (σ 5) (σ 1) (σ 7) s) → Wp (d + 2) Y3_findBlock SX 2 [some (vr 0), some (vi (i : Int)), none] [] σ Q X := by
    intro k
    induction k with
    | zero =>
      intro i hi h1 hn
      refine b3_findBlock_2 _ ⟨by omega, by omega⟩ (by rw [eL]; exact ⟨by omega, by omega⟩) (fun _ => b3_findBlock_54 (K 0 0 (Or.inl ⟨rfl, rfl, fun s hs1 hs2 => hn s hs1 (by omega)⟩))) (fun h => absurd h (by rw [eL]; omega))
    | succ k ih =>
      intro i hi h1 hn
      refine b3_findBlock_2 _ ⟨by omega, by omega⟩ (by rw [eL]; exact ⟨by omega, by omega⟩) (fun h => absurd h (by rw [eL]; omega)) (fun _ => ?_)
      refine b3_findBlock_12 _ (ok_pwvi (d := d) (A := i) (by omega) hc) (fun z σ' hz => ?_)
      obtain ⟨rfl, B, rfl, hB, hb⟩ := hz
      refine b3_findBlock_17 _ _ (ok_seatsOf (d := d) (A := i) (r := 1) (by omega) rfl) (fun z σ1 hz => ?_)
      obtain ⟨rfl, rfl⟩ := hz
      refine b3_findBlock_26 _ _ _ (ok_seatsOf (d := d) (A := B) (r := 7) hB rfl) (fun z σ2 hz => ?_)
      obtain ⟨rfl, rfl⟩ := hz
      have d1 := dem_bd (by omega) hs i
      have d2 := dem_bd (by omega) hsh B
      refine b3_findBlock_34 _ _ _ _ ⟨by omega, by omega⟩ ⟨by omega, by omega⟩ (fun q => ?_) (fun q => ?_)
      · refine b3_findBlock_48 _ (ih (i + 1) (by omega) (by omega) (fun s hs1 hs2 => ?_))
        by_cases e : s = i
        · subst e
          unfold badS
          rw [← sup_dem hb]
          omega
        · exact hn s hs1 (by omega)
      · refine b3_findBlock_37 _ _ (K i B (Or.inr ⟨h1, by omega, ?_, hn, hB, hb⟩))
        unfold badS
        rw [← sup_dem hb]
        exact q
  have h2 : 1 ≤ 2 ^ D := Nat.one_le_two_pow
  exact b3_findBlock_0 (lp (2 ^ D - 1) 1 (by omega) (by omega) (fun s a b => by omega))
theorem ok_findBlock {D : Nat} (hD : σ 0 0 = D) (hD4 : D ≤ 4) (hs : ∀ e, e < 4 → 0 ≤ σ 1 e ∧ σ 1 e ≤ 20) (hc : ∀ l, l < 16 → 0 ≤ σ 5 l ∧ σ 5 l ≤ 500) (hsh : ∀ p, p < 4 → 0 ≤ σ 7 p ∧ σ 7 p ≤ 20) : Ok (d + 2) Y3_findBlock SX [vr 0] σ (qv fun σ' => ∃ A B : Nat, blkPost (σ 5) (σ 1) (σ 7) D A B ∧ σ' = up (up σ 0 13 A) 0 14 B) :=
  Ok.ofWp (by decide) (Nat.le_of_ble_eq_true rfl) (wp_findBlock hD hD4 hs hc hsh fun A B h => ⟨rfl, A, B, h, rfl⟩)
end XC
