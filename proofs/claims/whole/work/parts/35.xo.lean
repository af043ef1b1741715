/-! ===== the class: reading what was worked out, and judging ===== -/
section XO
variable {d : Nat} {σ : HP} {Q : MQt} {X : MXt} {D P : Nat}
def hasT (σ : HP) : Prop := σ 0 11 = 1 ∧ σ 0 12 = 1
theorem fl_in (h : XI σ D P) : in32 (σ 0 11) ∧ in32 (σ 0 12) := by
  have a := h.2.2.2.2.2.2.2.2.1
  have b := h.2.2.2.2.2.2.2.2.2.1
  exact ⟨⟨by omega, by omega⟩, ⟨by omega, by omega⟩⟩
theorem XI.tb (h : XI σ D P) (ht : hasT σ) : TB σ D := by
  rcases (h.2.2.2.2.2.2.2.2.2.2 ht.1).2 with ⟨-, -, g⟩ | ⟨g, -⟩
  · exact g
  · rw [ht.2] at g; exact absurd g (by decide)
theorem XI.t20 (h : XI σ D P) (ht : hasT σ) : (∀ l, l < 16 → 0 ≤ σ 8 l ∧ σ 8 l ≤ 20) ∧ ∀ l, l < 16 → 0 ≤ σ 9 l ∧ σ 9 l ≤ 20 := by
  obtain ⟨a, -, b, -⟩ := h.tb ht
  exact ⟨fit_20 a (fun e he => (h.1.2.2.2.2.1 e he).2), fit_20 b (fun e he => (h.1.2.2.2.2.1 e he).2)⟩
theorem fit_z {c sz sh t : Tb} (hc : ∀ l, l < 16 → 0 ≤ c l) (hf : fitT c sz sh t) : ∀ l, l < 16 → 0 < t l → 0 < c l := fun l hl q => by
  have a := hc l hl
  have b := hf.2.1 l hl
  omega
theorem XI.nbd (h : XI σ D P) (ht : hasT σ) : ∀ v, v < 8 → 0 ≤ σ 16 v ∧ σ 16 v ≤ 3707437500000000 := by
  obtain ⟨a, b, -, -, e⟩ := h.tb ht
  have c := cF_bd h.1
  have t := (h.t20 ht).1
  have g := PI_bd c t (nums_PI (best_obey b) (fun l hl => (t l hl).1) (fit_z (fun l hl => (c l hl).1) a) 8)
  intro v hv
  rw [(e v hv).1]
  exact ⟨(g v hv).1, (g v hv).2.1⟩
def rSeats (σ : HP) (D P : Nat) (a b w : Int) (k : Nat) (z : Int) (σ' : HP) : Prop := σ' = σ ∧ ((k = 1 ∧ ¬ hasT σ) ∨ (hasT σ ∧ ((k = 2 ∧ ¬ (0 ≤ a ∧ a < D ∧ 0 ≤ b ∧ b < P)) ∨ (k = 0 ∧ (0 ≤ a ∧ a < D ∧ 0 ≤ b ∧ b < P) ∧ z = if w = 0 then σ 8 (4 * a.toNat + b.toNat) else σ 9 (4 * a.toNat + b.toNat)))))
theorem wp_seats {a b w : Int} (h : XI σ D P) (ha : in32 a) (hb : in32 b) (hw : w = 0 ∨ w = 1) : Wp (d + 1) Y3_seats SX 0 [some (vr 0), some (vi a), some (vi b), some (vi w), none] [] σ (qi fun z σ' => rSeats σ D P a b w 0 z σ') (exX [eIS, eIB] fun k σ' => rSeats σ D P a b w k 0 σ') := by
  have hD := h.1.2.1
  have hD4 := h.1.1
  have hP := h.2.2.1
  have hP4 := h.2.1
  obtain ⟨i0, i1⟩ := in_DP h
  obtain ⟨f11, f12⟩ := fl_in h
  have g11 := h.2.2.2.2.2.2.2.2.1
  have g12 := h.2.2.2.2.2.2.2.2.2.1
  have no : ¬ hasT σ → Wp (d + 1) Y3_seats SX 14 [none, none, none, none, none] [] σ (qi fun z σ' => rSeats σ D P a b w 0 z σ') (exX [eIS, eIB] fun k σ' => rSeats σ D P a b w k 0 σ') := fun q => b3_seats_14 ⟨0, rfl, rfl, Or.inl ⟨rfl, q⟩⟩
  refine b3_seats_0 _ _ _ f11 (fun q => no (fun g => by have := g.1; omega)) (fun q => b3_seats_7 _ _ _ f12 (fun q2 => ?_) (fun q2 => no (fun g => by have := g.2; omega)))
  have hT : hasT σ := ⟨by omega, by omega⟩
  have bad : ¬ (0 ≤ a ∧ a < D ∧ 0 ≤ b ∧ b < P) → Wp (d + 1) Y3_seats SX 40 [none, none, none, none, none] [] σ (qi fun z σ' => rSeats σ D P a b w 0 z σ') (exX [eIS, eIB] fun k σ' => rSeats σ D P a b w k 0 σ') := fun q => b3_seats_40 ⟨1, rfl, rfl, Or.inr ⟨hT, Or.inl ⟨rfl, q⟩⟩⟩
  refine b3_seats_22 (d := d) _ _ _ (ok_isThere (Or.inl rfl) ha i0 i1) (fun z σ' hz => ?_)
  obtain ⟨rfl, hz⟩ := hz
  rw [if_pos rfl, hD] at hz
  by_cases q3 : 0 ≤ a ∧ a < D
  · rw [if_pos q3] at hz
    subst hz
    refine b3_seats_28 _ _ _ _ ⟨by decide, by decide⟩ (fun g => absurd g (by decide)) (fun _ => ?_)
    refine b3_seats_31 (d := d) _ _ _ (ok_isThere (Or.inr rfl) hb i0 i1) (fun z σ' hz => ?_)
    obtain ⟨rfl, hz⟩ := hz
    rw [if_neg (show ¬ (1 : Int) = 0 by decide), hP] at hz
    by_cases q4 : 0 ≤ b ∧ b < P
    · rw [if_pos q4] at hz
      subst hz
      refine b3_seats_37 _ _ _ _ ⟨by decide, by decide⟩ (fun _ => ?_) (fun g => absurd g (by decide))
      have el : (a * 4 + b).toNat = 4 * a.toNat + b.toNat := by omega
      refine b3_seats_48 _ _ _ ⟨by omega, by omega⟩ (fun g => b3_seats_69 _ ⟨by omega, by omega⟩ (b3_seats_76 _ ⟨_, rfl, rfl, Or.inr ⟨hT, Or.inr ⟨rfl, ⟨q3.1, q3.2, q4.1, q4.2⟩, by rw [if_pos g, el]⟩⟩⟩)) (fun g => b3_seats_59 _ ⟨by omega, by omega⟩ (b3_seats_76 _ ⟨_, rfl, rfl, Or.inr ⟨hT, Or.inr ⟨rfl, ⟨q3.1, q3.2, q4.1, q4.2⟩, by rw [if_neg g, el]⟩⟩⟩))
    · rw [if_neg q4] at hz
      subst hz
      exact b3_seats_37 _ _ _ _ ⟨by decide, by decide⟩ (fun g => absurd rfl g) (fun _ => bad (by omega))
  · rw [if_neg q3] at hz
    subst hz
    exact b3_seats_28 _ _ _ _ ⟨by decide, by decide⟩ (fun _ => bad (by omega)) (fun g => absurd rfl g)
def rUnique (σ : HP) (k : Nat) (z : Int) (σ' : HP) : Prop := σ' = σ ∧ ((k = 1 ∧ ¬ hasT σ) ∨ (hasT σ ∧ k = 0 ∧ ((z = 1 ∧ ∀ l, l < 16 → σ 8 l = σ 9 l) ∨ (z = 0 ∧ ¬ ∀ l, l < 16 → σ 8 l = σ 9 l))))
theorem wp_unique (h : XI σ D P) : Wp d Y3_unique SX 0 [some (vr 0), none] [] σ (qi fun z σ' => rUnique σ 0 z σ') (exX [eIS] fun k σ' => rUnique σ k 0 σ') := by
  obtain ⟨f11, f12⟩ := fl_in h
  have g11 := h.2.2.2.2.2.2.2.2.1
  have g12 := h.2.2.2.2.2.2.2.2.2.1
  have no : ¬ hasT σ → Wp d Y3_unique SX 14 [none, none] [] σ (qi fun z σ' => rUnique σ 0 z σ') (exX [eIS] fun k σ' => rUnique σ k 0 σ') := fun q => b3_unique_14 ⟨0, rfl, rfl, Or.inl ⟨rfl, q⟩⟩
  refine b3_unique_0 f11 (fun q => no (fun g => by have := g.1; omega)) (fun q => b3_unique_7 f12 (fun q2 => ?_) (fun q2 => no (fun g => by have := g.2; omega)))
  have hT : hasT σ := ⟨by omega, by omega⟩
  obtain ⟨b8, b9⟩ := h.t20 hT
  have lp : ∀ k i : Nat, i + k = 16 → (∀ l, l < i → σ 8 l = σ 9 l) → Wp d Y3_unique SX 24 [some (vr 0), some (vi (i : Int))] [] σ (qi fun z σ' => rUnique σ 0 z σ') (exX [eIS] fun k σ' => rUnique σ k 0 σ') := by
    intro k
    induction k with
    | zero =>
      intro i hi hq
      have e : i = 16 := by omega
      subst e
      exact b3_unique_24 _ ⟨by omega, by omega⟩ (fun _ => b3_unique_53 ⟨1, rfl, rfl, Or.inr ⟨hT, rfl, Or.inl ⟨rfl, hq⟩⟩⟩) (fun g => absurd g (by omega))
    | succ k ih =>
      intro i hi hq
      have ei : (i : Int).toNat = i := Int.toNat_natCast i
      have a := b8 i (by omega)
      have b := b9 i (by omega)
      refine b3_unique_24 _ ⟨by omega, by omega⟩ (fun g => absurd g (by omega)) (fun _ => ?_)
      refine b3_unique_30 _ ⟨by omega, by omega⟩ (by rw [ei]; exact ⟨by omega, by omega⟩) (by rw [ei]; exact ⟨by omega, by omega⟩) (fun g => ?_) (fun g => ?_)
      · rw [ei] at g
        refine b3_unique_47 _ (ih (i + 1) (by omega) (fun l hl => ?_))
        by_cases e : l = i
        · subst e; exact g
        · exact hq l (by omega)
      · rw [ei] at g
        exact b3_unique_45 ⟨0, rfl, rfl, Or.inr ⟨hT, rfl, Or.inr ⟨rfl, fun hh => g (hh i (by omega))⟩⟩⟩
  exact b3_unique_22 (lp 16 0 rfl (fun l hl => by omega))
def plc (b k : Int) : Nat := if b = 0 then k.toNat else 4 + k.toNat
def rNumber (σ : HP) (b a w : Int) (k : Nat) (z : Int) (σ' : HP) : Prop := σ' = σ ∧ ((k = 1 ∧ ¬ hasT σ) ∨ (hasT σ ∧ ((k = 2 ∧ ¬ isTh σ b a) ∨ (isTh σ b a ∧ ((k = 3 ∧ σ 16 (plc b a) = 0) ∨ (k = 0 ∧ 0 < σ 16 (plc b a) ∧ z = if w = 0 then σ 16 (plc b a) else σ 17 (plc b a)))))))
theorem ok_isReached {v : Nat} (hv : v < 8) (h : 0 ≤ σ 16 v ∧ σ 16 v ≤ 3707437500000000) : Ok d Y1_isReached SX [vr 15, vi v] σ (qi fun z σ' => σ' = σ ∧ z = if 0 < σ 16 v then 1 else 0) := by
  refine Ok.ofWp (by decide) (Nat.le_of_ble_eq_true rfl) ?_
  have ev : (v : Int).toNat = v := Int.toNat_natCast v
  refine b1_isReached_0 _ ⟨by omega, by omega⟩ (by rw [ev]; exact ⟨by omega, by omega⟩) (fun q => ?_) (fun q => ?_)
  · rw [ev] at q
    exact b1_isReached_15 (b1_isReached_16 _ (Or.inl rfl) ⟨0, rfl, rfl, by rw [if_neg (by omega)]⟩)
  · rw [ev] at q
    exact b1_isReached_11 (b1_isReached_16 _ (Or.inr rfl) ⟨1, rfl, rfl, by rw [if_pos q]⟩)
theorem ok_upper {v : Nat} (hv : v < 8) : Ok d Y1_upper SX [vr 15, vi v] σ (ql fun z σ' => σ' = σ ∧ z = σ 16 v) := by
  refine Ok.ofWp (by decide) (Nat.le_of_ble_eq_true rfl) ?_
  exact b1_upper_0 _ ⟨by omega, by omega⟩ ⟨_, rfl, rfl, by rw [Int.toNat_natCast]⟩
theorem ok_lower {v : Nat} (hv : v < 8) : Ok d Y1_lower SX [vr 15, vi v] σ (ql fun z σ' => σ' = σ ∧ z = σ 17 v) := by
  refine Ok.ofWp (by decide) (Nat.le_of_ble_eq_true rfl) ?_
  exact b1_lower_0 _ ⟨by omega, by omega⟩ ⟨_, rfl, rfl, by rw [Int.toNat_natCast]⟩
theorem wp_number {b a w : Int} (h : XI σ D P) (hb : b = 0 ∨ b = 1) (ha : in32 a) (hw : w = 0 ∨ w = 1) : Wp (d + 1) Y3_number SX 0 [some (vr 0), some (vi b), some (vi a), some (vi w), none] [] σ (ql fun z σ' => rNumber σ b a w 0 z σ') (exX [eIS, eIB, eNE] fun k σ' => rNumber σ b a w k 0 σ') := by
  have hD := h.1.2.1
  have hD4 := h.1.1
  have hP := h.2.2.1
  have hP4 := h.2.1
  obtain ⟨i0, i1⟩ := in_DP h
  obtain ⟨f11, f12⟩ := fl_in h
  have g11 := h.2.2.2.2.2.2.2.2.1
  have g12 := h.2.2.2.2.2.2.2.2.2.1
  have no : ¬ hasT σ → Wp (d + 1) Y3_number SX 14 [none, none, none, none, none] [] σ (ql fun z σ' => rNumber σ b a w 0 z σ') (exX [eIS, eIB, eNE] fun k σ' => rNumber σ b a w k 0 σ') := fun q => b3_number_14 ⟨0, rfl, rfl, Or.inl ⟨rfl, q⟩⟩
  refine b3_number_0 _ _ _ f11 (fun q => no (fun g => by have := g.1; omega)) (fun q => b3_number_7 _ _ _ f12 (fun q2 => ?_) (fun q2 => no (fun g => by have := g.2; omega)))
  have hT : hasT σ := ⟨by omega, by omega⟩
  have hn := h.nbd hT
  refine b3_number_22 (d := d) _ _ _ (ok_isThere hb ha i0 i1) (fun z σ' hz => ?_)
  obtain ⟨rfl, hz⟩ := hz
  by_cases q3 : isTh σ' b a
  · have hz2 : z = 1 := by rw [hz]; exact if_pos q3
    subst hz2
    refine b3_number_28 _ _ _ _ ⟨by decide, by decide⟩ (fun _ => ?_) (fun g => absurd g (by decide))
    have main : plc b a < 8 → Wp (d + 1) Y3_number SX 50 [some (vr 0), none, none, some (vi w), none] [vi (plc b a : Int)] σ' (ql fun z σ'_1 => rNumber σ' b a w 0 z σ'_1) (exX [eIS, eIB, eNE] fun k σ'_1 => rNumber σ' b a w k 0 σ'_1) := by
      intro hp
      refine b3_number_50 (d := d) _ _ (ok_isReached hp (hn _ hp)) (fun z τ hz => ?_)
      obtain ⟨rfl, hz⟩ := hz
      by_cases q4 : 0 < τ 16 (plc b a)
      · rw [if_pos q4] at hz
        subst hz
        refine b3_number_61 _ _ _ ⟨by decide, by decide⟩ (fun _ => ?_) (fun g => absurd g (by decide))
        refine b3_number_72 _ _ ⟨by omega, by omega⟩ (fun g => ?_) (fun g => ?_)
        · refine b3_number_88 (d := d) _ (ok_upper hp) (fun z τ' hz => ?_)
          obtain ⟨rfl, rfl⟩ := hz
          exact b3_number_97 _ ⟨_, rfl, rfl, Or.inr ⟨hT, Or.inr ⟨q3, Or.inr ⟨rfl, q4, by rw [if_pos g]⟩⟩⟩⟩
        · refine b3_number_76 (d := d) _ (ok_lower hp) (fun z τ' hz => ?_)
          obtain ⟨rfl, rfl⟩ := hz
          exact b3_number_85 _ (b3_number_97 _ ⟨_, rfl, rfl, Or.inr ⟨hT, Or.inr ⟨q3, Or.inr ⟨rfl, q4, by rw [if_neg g]⟩⟩⟩⟩)
      · rw [if_neg q4] at hz
        subst hz
        have := (hn _ hp).1
        exact b3_number_61 _ _ _ ⟨by decide, by decide⟩ (fun g => absurd rfl g) (fun _ => b3_number_64 ⟨2, rfl, rfl, Or.inr ⟨hT, Or.inr ⟨q3, Or.inl ⟨rfl, by omega⟩⟩⟩⟩)
    have q5 := q3
    unfold isTh at q5
    rcases hb with rfl | rfl
    · rw [if_pos rfl, hD] at q5
      have e : plc 0 a = a.toNat := by unfold plc; rw [if_pos rfl]
      have m := main (by rw [e]; omega)
      rw [e, show ((a.toNat : Nat) : Int) = a by omega] at m
      exact b3_number_39 _ _ _ ⟨by decide, by decide⟩ (fun _ => b3_number_49 _ _ m) (fun g => absurd rfl g)
    · rw [if_neg (show ¬ (1 : Int) = 0 by decide), hP] at q5
      have e : plc 1 a = 4 + a.toNat := by unfold plc; rw [if_neg (show ¬ (1 : Int) = 0 by decide)]
      have m := main (by rw [e]; omega)
      rw [e, show ((4 + a.toNat : Nat) : Int) = 4 + a by omega] at m
      exact b3_number_39 _ _ _ ⟨by decide, by decide⟩ (fun g => absurd g (by decide)) (fun _ => b3_number_43 _ _ m)
  · have hz2 : z = 0 := by rw [hz]; exact if_neg q3
    subst hz2
    exact b3_number_28 _ _ _ _ ⟨by decide, by decide⟩ (fun g => absurd rfl g) (fun _ => b3_number_31 ⟨1, rfl, rfl, Or.inr ⟨hT, Or.inl ⟨rfl, q3⟩⟩⟩)
def blkd (σ : HP) : Prop := σ 0 11 = 1 ∧ σ 0 12 = 0
def rBlocks (σ : HP) (D : Nat) (b a : Int) (k : Nat) (z : Int) (σ' : HP) : Prop := σ' = σ ∧ ((k = 1 ∧ ¬ blkd σ) ∨ (blkd σ ∧ ((k = 2 ∧ ¬ isTh σ b a) ∨ (k = 0 ∧ isTh σ b a ∧ ∃ A B : Nat, 1 ≤ A ∧ blkPost (cF σ) (σ 1) (sF σ D) D A B ∧ z = if (if b = 0 then A else B).testBit a.toNat then 1 else 0))))
theorem wp_blocks {b a : Int} (h : XI σ D P) (hb : b = 0 ∨ b = 1) (ha : in32 a) : Wp (d + 1) Y3_blocks SX 0 [some (vr 0), some (vi b), some (vi a)] [] σ (qi fun z σ' => rBlocks σ D b a 0 z σ') (exX [eIS, eIB] fun k σ' => rBlocks σ D b a k 0 σ') := by
  have hD := h.1.2.1
  have hD4 := h.1.1
  have hP := h.2.2.1
  have hP4 := h.2.1
  obtain ⟨i0, i1⟩ := in_DP h
  obtain ⟨f11, f12⟩ := fl_in h
  have g11 := h.2.2.2.2.2.2.2.2.1
  have g12 := h.2.2.2.2.2.2.2.2.2.1
  have no : ¬ blkd σ → Wp (d + 1) Y3_blocks SX 14 [none, none, none] [] σ (qi fun z σ' => rBlocks σ D b a 0 z σ') (exX [eIS, eIB] fun k σ' => rBlocks σ D b a k 0 σ') := fun q => b3_blocks_14 ⟨0, rfl, rfl, Or.inl ⟨rfl, q⟩⟩
  refine b3_blocks_0 _ _ f11 (fun q => no (fun g => by have := g.1; omega)) (fun q => b3_blocks_7 _ _ f12 (fun q2 => ?_) (fun q2 => no (fun g => by have := g.2; omega)))
  have hT : blkd σ := ⟨by omega, by omega⟩
  have hK : BK σ D := by
    rcases (h.2.2.2.2.2.2.2.2.2.2 hT.1).2 with ⟨g, -⟩ | ⟨-, g⟩
    · rw [hT.2] at g; exact absurd g (by decide)
    · exact g
  obtain ⟨A, B, e13, e14, a1, hbp⟩ := hK
  have hAB : A < 2 ^ 4 ∧ B < 16 := by
    rcases hbp with ⟨g, -⟩ | ⟨-, g, -, -, g2, -⟩
    · omega
    · exact ⟨Nat.lt_of_lt_of_le g (Nat.pow_le_pow_right (by decide) hD4), g2⟩
  refine b3_blocks_22 (d := d) _ _ (ok_isThere hb ha i0 i1) (fun z σ' hz => ?_)
  obtain ⟨rfl, hz⟩ := hz
  by_cases q3 : isTh σ' b a
  · have hz2 : z = 1 := by rw [hz]; exact if_pos q3
    subst hz2
    refine b3_blocks_28 _ _ _ ⟨by decide, by decide⟩ (fun _ => ?_) (fun g => absurd g (by decide))
    have q5 := q3
    unfold isTh at q5
    have a4 : 0 ≤ a ∧ a < 4 := by
      rcases hb with rfl | rfl
      · rw [if_pos rfl, hD] at q5; omega
      · rw [if_neg (show ¬ (1 : Int) = 0 by decide), hP] at q5; omega
    have ea : ((a.toNat : Nat) : Int) = a := by omega
    have fin : ∀ C : Nat, C < 2147483648 → C = (if b = 0 then A else B) → Wp (d + 1) Y3_blocks SX 54 [none, none, some (vi a)] [vi (C : Int)] σ' (qi fun z τ => rBlocks σ' D b a 0 z τ) (exX [eIS, eIB] fun k τ => rBlocks σ' D b a k 0 τ) := by
      intro C hC e
      refine b3_blocks_54 (d := d) _ _ (P := fun z τ => τ = σ' ∧ z = if C.testBit a.toNat then 1 else 0) (by have := ok_isIn (d := d) (σ := σ') (a := C) (k := a.toNat) hC (by omega); rw [ea] at this; exact this) (fun z τ hz => ?_)
      obtain ⟨rfl, rfl⟩ := hz
      refine b3_blocks_58 _ (by split <;> simp) ⟨_, rfl, rfl, Or.inr ⟨hT, Or.inr ⟨rfl, q3, A, B, a1, hbp, by rw [← e]⟩⟩⟩
    rcases hb with rfl | rfl
    · refine b3_blocks_39 _ _ ⟨by decide, by decide⟩ (fun _ => b3_blocks_50 _ ?_) (fun g => absurd rfl g)
      rw [e13]
      exact fin A (by omega) (by rw [if_pos rfl])
    · refine b3_blocks_39 _ _ ⟨by decide, by decide⟩ (fun g => absurd g (by decide)) (fun _ => b3_blocks_43 _ ?_)
      rw [e14]
      exact fin B (by omega) (by rw [if_neg (show ¬ (1 : Int) = 0 by decide)])
  · have hz2 : z = 0 := by rw [hz]; exact if_neg q3
    subst hz2
    exact b3_blocks_28 _ _ _ ⟨by decide, by decide⟩ (fun g => absurd rfl g) (fun _ => b3_blocks_31 ⟨1, rfl, rfl, Or.inr ⟨hT, Or.inl ⟨rfl, q3⟩⟩⟩)
end XO
