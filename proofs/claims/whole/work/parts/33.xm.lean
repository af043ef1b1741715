/-! ===== the class: what it is asked for ===== -/
abbrev XK : Type := String × Nat × Nat
def eIA : XK := ("java/lang/IllegalArgumentException", 63, 65)
def eUO : XK := ("java/lang/UnsupportedOperationException", 70, 72)
def eIB : XK := ("java/lang/IndexOutOfBoundsException", 84, 86)
def eIS : XK := ("java/lang/IllegalStateException", 97, 99)
def eNE : XK := ("java/util/NoSuchElementException", 120, 122)
/-- thrown: the n-th of these -/
def exX (L : List XK) (R : Nat → HP → Prop) : MXt := fun E i j σ' => ∃ n, L[n]? = some (E, i, j) ∧ R (n + 1) σ'
def isTh (σ : HP) (b k : Int) : Prop := 0 ≤ k ∧ k < (if b = 0 then σ 0 0 else σ 0 1)
section XM
variable {d : Nat} {σ : HP} {Q : MQt} {X : MXt} {D P : Nat}
def rDistrict (σ : HP) (D : Nat) (n : Int) (k : Nat) (z : Int) (σ' : HP) : Prop := (k = 1 ∧ σ' = σ ∧ ¬ (1 ≤ n ∧ n ≤ 20 ∧ sm 4 (σ 1) + n ≤ 20)) ∨ ((1 ≤ n ∧ n ≤ 20 ∧ sm 4 (σ 1) + n ≤ 20) ∧ ((k = 2 ∧ D = 4 ∧ σ' = σ) ∨ (k = 0 ∧ D < 4 ∧ z = D ∧ σ' = up (up (up σ 1 D n) 0 0 ((D : Int) + 1)) 0 11 0)))
theorem wp_district {n : Int} (h : XI σ D P) (hn : in32 n) : Wp (d + 1) Y3_district SX 0 [some (vr 0), some (vi n)] [] σ (qi fun z σ' => rDistrict σ D n 0 z σ') (exX [eIA, eUO] fun k σ' => rDistrict σ D n k 0 σ') := by
  have hD := h.1.2.1
  have hD4 := h.1.1
  have hb := sm_bd (f := σ 1) (m := 20) 4 (fun i hi => h.1.2.2.2.2.1 i hi)
  have bad : ¬ (1 ≤ n ∧ n ≤ 20 ∧ sm 4 (σ 1) + n ≤ 20) → Wp (d + 1) Y3_district SX 22 [none, none] [] σ (qi fun z σ' => rDistrict σ D n 0 z σ') (exX [eIA, eUO] fun k σ' => rDistrict σ D n k 0 σ') := fun q => b3_district_22 ⟨0, rfl, Or.inl ⟨rfl, rfl, q⟩⟩
  refine b3_district_0 _ hn (fun q => bad (by omega)) (fun q => b3_district_5 _ hn (fun q => bad (by omega)) (fun q2 => ?_))
  refine b3_district_11 (d := d) _ ok_allSeats (fun z σ' hz => ?_)
  obtain ⟨rfl, rfl⟩ := hz
  refine b3_district_15 _ _ ⟨by omega, by omega⟩ (fun q3 => ?_) (fun q3 => bad (by omega))
  refine b3_district_30 _ (by rw [hD]; exact ⟨by omega, by omega⟩) (fun q4 => ?_) (fun q4 => b3_district_38 ⟨1, rfl, Or.inr ⟨⟨by omega, by omega, by omega⟩, Or.inl ⟨rfl, by omega, rfl⟩⟩⟩)
  refine b3_district_46 _ (by rw [hD]; exact ⟨by omega, by omega⟩) ⟨_, rfl, Or.inr ⟨⟨by omega, by omega, by omega⟩, Or.inr ⟨rfl, by omega, ?_, ?_⟩⟩⟩
  · rw [up_nj (by decide), up_at, up_nr (by decide), hD]; omega
  · rw [hD, up_nr (by decide), hD, Int.toNat_natCast]
def rParty (σ : HP) (P : Nat) (k : Nat) (z : Int) (σ' : HP) : Prop := (k = 1 ∧ P = 4 ∧ σ' = σ) ∨ (k = 0 ∧ P < 4 ∧ z = P ∧ σ' = up (up σ 0 1 ((P : Int) + 1)) 0 11 0)
theorem wp_party (h : XI σ D P) : Wp d Y3_party SX 0 [some (vr 0)] [] σ (qi fun z σ' => rParty σ P 0 z σ') (exX [eUO] fun k σ' => rParty σ P k 0 σ') := by
  have hP := h.2.2.1
  have hP4 := h.2.1
  refine b3_party_0 (by rw [hP]; exact ⟨by omega, by omega⟩) (fun q => ?_) (fun q => b3_party_8 ⟨0, rfl, Or.inl ⟨rfl, by omega, rfl⟩⟩)
  refine b3_party_16 ⟨_, rfl, Or.inr ⟨rfl, by omega, ?_, ?_⟩⟩
  · rw [up_nj (by decide), up_at, hP]; omega
  · rw [hP]
def rVotes (σ : HP) (D P : Nat) (a b n : Int) (k : Nat) (σ' : HP) : Prop := (k = 1 ∧ ¬ (0 ≤ a ∧ a < D ∧ 0 ≤ b ∧ b < P) ∧ σ' = σ) ∨ ((0 ≤ a ∧ a < D ∧ 0 ≤ b ∧ b < P) ∧ ((k = 2 ∧ ¬ (0 ≤ n ∧ n ≤ 500) ∧ σ' = σ) ∨ (k = 0 ∧ (0 ≤ n ∧ n ≤ 500) ∧ σ' = up (up σ 2 (4 * a.toNat + b.toNat) n) 0 11 0)))
theorem in_DP (h : XI σ D P) : in32 (σ 0 0) ∧ in32 (σ 0 1) := by
  have a := h.1.1
  have b := h.2.1
  rw [h.1.2.1, h.2.2.1]
  exact ⟨⟨by omega, by omega⟩, ⟨by omega, by omega⟩⟩
theorem wp_votes {a b n : Int} (h : XI σ D P) (ha : in32 a) (hb : in32 b) (hn : in32 n) : Wp (d + 1) Y3_votes SX 0 [some (vr 0), some (vi a), some (vi b), some (vi n)] [] σ (qv fun σ' => rVotes σ D P a b n 0 σ') (exX [eIB, eIA] fun k σ' => rVotes σ D P a b n k σ') := by
  have hD := h.1.2.1
  have hD4 := h.1.1
  have hP := h.2.2.1
  have hP4 := h.2.1
  obtain ⟨i0, i1⟩ := in_DP h
  have bad : ¬ (0 ≤ a ∧ a < D ∧ 0 ≤ b ∧ b < P) → Wp (d + 1) Y3_votes SX 18 [none, none, none, none] [] σ (qv fun σ' => rVotes σ D P a b n 0 σ') (exX [eIB, eIA] fun k σ' => rVotes σ D P a b n k σ') := fun q => b3_votes_18 ⟨0, rfl, Or.inl ⟨rfl, q, rfl⟩⟩
  refine b3_votes_0 (d := d) _ _ _ (ok_isThere (Or.inl rfl) ha i0 i1) (fun z σ' hz => ?_)
  obtain ⟨rfl, hz⟩ := hz
  rw [if_pos rfl, hD] at hz
  by_cases q : 0 ≤ a ∧ a < D
  · rw [if_pos q] at hz
    subst hz
    refine b3_votes_6 _ _ _ _ ⟨by decide, by decide⟩ (fun g => absurd g (by decide)) (fun _ => ?_)
    refine b3_votes_9 (d := d) _ _ _ (ok_isThere (Or.inr rfl) hb i0 i1) (fun z σ' hz => ?_)
    obtain ⟨rfl, hz⟩ := hz
    rw [if_neg (show ¬ (1 : Int) = 0 by decide), hP] at hz
    by_cases q2 : 0 ≤ b ∧ b < P
    · rw [if_pos q2] at hz
      subst hz
      refine b3_votes_15 _ _ _ _ ⟨by decide, by decide⟩ (fun _ => ?_) (fun g => absurd g (by decide))
      have bad2 : ¬ (0 ≤ n ∧ n ≤ 500) → Wp (d + 1) Y3_votes SX 37 [none, none, none, none] [] σ' (qv fun τ => rVotes σ' D P a b n 0 τ) (exX [eIB, eIA] fun k τ => rVotes σ' D P a b n k τ) := fun g => b3_votes_37 ⟨1, rfl, Or.inr ⟨⟨q.1, q.2, q2.1, q2.2⟩, Or.inl ⟨rfl, g, rfl⟩⟩⟩
      refine b3_votes_26 _ _ _ hn (fun g => bad2 (by omega)) (fun g => b3_votes_30 _ _ _ hn (fun g2 => ?_) (fun g2 => bad2 (by omega)))
      refine b3_votes_45 _ _ _ ⟨by omega, by omega⟩ ⟨rfl, Or.inr ⟨⟨q.1, q.2, q2.1, q2.2⟩, Or.inr ⟨rfl, ⟨g, g2⟩, ?_⟩⟩⟩
      rw [show (a * 4 + b).toNat = 4 * a.toNat + b.toNat by omega]
    · rw [if_neg q2] at hz
      subst hz
      exact b3_votes_15 _ _ _ _ ⟨by decide, by decide⟩ (fun g => absurd rfl g) (fun _ => bad (by omega))
  · rw [if_neg q] at hz
    subst hz
    exact b3_votes_6 _ _ _ _ ⟨by decide, by decide⟩ (fun _ => bad (by omega)) (fun g => absurd rfl g)
def rPropose (σ : HP) (D P : Nat) (a b n : Int) (k : Nat) (σ' : HP) : Prop := (k = 1 ∧ ¬ (0 ≤ a ∧ a < D ∧ 0 ≤ b ∧ b < P) ∧ σ' = σ) ∨ ((0 ≤ a ∧ a < D ∧ 0 ≤ b ∧ b < P) ∧ ((k = 2 ∧ ¬ (0 ≤ n ∧ n ≤ 20) ∧ σ' = σ) ∨ (k = 0 ∧ (0 ≤ n ∧ n ≤ 20) ∧ σ' = up σ 3 (4 * a.toNat + b.toNat) n)))
theorem wp_propose {a b n : Int} (h : XI σ D P) (ha : in32 a) (hb : in32 b) (hn : in32 n) : Wp (d + 1) Y3_propose SX 0 [some (vr 0), some (vi a), some (vi b), some (vi n)] [] σ (qv fun σ' => rPropose σ D P a b n 0 σ') (exX [eIB, eIA] fun k σ' => rPropose σ D P a b n k σ') := by
  have hD := h.1.2.1
  have hD4 := h.1.1
  have hP := h.2.2.1
  have hP4 := h.2.1
  obtain ⟨i0, i1⟩ := in_DP h
  have bad : ¬ (0 ≤ a ∧ a < D ∧ 0 ≤ b ∧ b < P) → Wp (d + 1) Y3_propose SX 18 [none, none, none, none] [] σ (qv fun σ' => rPropose σ D P a b n 0 σ') (exX [eIB, eIA] fun k σ' => rPropose σ D P a b n k σ') := fun q => b3_propose_18 ⟨0, rfl, Or.inl ⟨rfl, q, rfl⟩⟩
  refine b3_propose_0 (d := d) _ _ _ (ok_isThere (Or.inl rfl) ha i0 i1) (fun z σ' hz => ?_)
  obtain ⟨rfl, hz⟩ := hz
  rw [if_pos rfl, hD] at hz
  by_cases q : 0 ≤ a ∧ a < D
  · rw [if_pos q] at hz
    subst hz
    refine b3_propose_6 _ _ _ _ ⟨by decide, by decide⟩ (fun g => absurd g (by decide)) (fun _ => ?_)
    refine b3_propose_9 (d := d) _ _ _ (ok_isThere (Or.inr rfl) hb i0 i1) (fun z σ' hz => ?_)
    obtain ⟨rfl, hz⟩ := hz
    rw [if_neg (show ¬ (1 : Int) = 0 by decide), hP] at hz
    by_cases q2 : 0 ≤ b ∧ b < P
    · rw [if_pos q2] at hz
      subst hz
      refine b3_propose_15 _ _ _ _ ⟨by decide, by decide⟩ (fun _ => ?_) (fun g => absurd g (by decide))
      have bad2 : ¬ (0 ≤ n ∧ n ≤ 20) → Wp (d + 1) Y3_propose SX 36 [none, none, none, none] [] σ' (qv fun τ => rPropose σ' D P a b n 0 τ) (exX [eIB, eIA] fun k τ => rPropose σ' D P a b n k τ) := fun g => b3_propose_36 ⟨1, rfl, Or.inr ⟨⟨q.1, q.2, q2.1, q2.2⟩, Or.inl ⟨rfl, g, rfl⟩⟩⟩
      refine b3_propose_26 _ _ _ hn (fun g => bad2 (by omega)) (fun g => b3_propose_30 _ _ _ hn (fun g2 => ?_) (fun g2 => bad2 (by omega)))
      refine b3_propose_44 _ _ _ ⟨by omega, by omega⟩ ⟨rfl, Or.inr ⟨⟨q.1, q.2, q2.1, q2.2⟩, Or.inr ⟨rfl, ⟨g, g2⟩, ?_⟩⟩⟩
      rw [show (a * 4 + b).toNat = 4 * a.toNat + b.toNat by omega]
    · rw [if_neg q2] at hz
      subst hz
      exact b3_propose_15 _ _ _ _ ⟨by decide, by decide⟩ (fun g => absurd rfl g) (fun _ => bad (by omega))
  · rw [if_neg q] at hz
    subst hz
    exact b3_propose_6 _ _ _ _ ⟨by decide, by decide⟩ (fun _ => bad (by omega)) (fun g => absurd rfl g)
def rThreshold (σ : HP) (n : Int) (k : Nat) (σ' : HP) : Prop := (k = 1 ∧ ¬ (0 ≤ n ∧ n ≤ 1000) ∧ σ' = σ) ∨ (k = 0 ∧ (0 ≤ n ∧ n ≤ 1000) ∧ σ' = up (up σ 0 2 n) 0 11 0)
theorem wp_threshold {n : Int} (hn : in32 n) : Wp d Y3_threshold SX 0 [some (vr 0), some (vi n)] [] σ (qv fun σ' => rThreshold σ n 0 σ') (exX [eIA] fun k σ' => rThreshold σ n k σ') := by
  refine b3_threshold_0 _ hn (fun q => b3_threshold_11 ⟨0, rfl, Or.inl ⟨rfl, by omega, rfl⟩⟩) (fun q => b3_threshold_4 _ hn (fun q2 => b3_threshold_19 _ ⟨rfl, Or.inr ⟨rfl, ⟨q, q2⟩, rfl⟩⟩) (fun q2 => b3_threshold_11 ⟨0, rfl, Or.inl ⟨rfl, by omega, rfl⟩⟩))
def lotR (rk : Tb) (pos : Int) (pt q : Nat) : Int := if q = pt then pos else if rk q = pos then 4 + (q : Int) else rk q
def rLot (σ : HP) (P : Nat) (a b : Int) (k : Nat) (σ' : HP) : Prop := (k = 1 ∧ ¬ (0 ≤ a ∧ a < 4 ∧ 0 ≤ b ∧ b < P) ∧ σ' = σ) ∨ (k = 0 ∧ (0 ≤ a ∧ a < 4 ∧ 0 ≤ b ∧ b < P) ∧ (∀ r, r ≠ 0 → r ≠ 4 → σ' r = σ r) ∧ (∀ j, σ' 0 j = if j = 11 then 0 else σ 0 j) ∧ ∀ q, q < 4 → σ' 4 q = lotR (σ 4) a b.toNat q)
theorem wp_lot {a b : Int} (h : XI σ D P) (ha : in32 a) (hb : in32 b) : Wp (d + 1) Y3_lot SX 0 [some (vr 0), some (vi a), some (vi b), none] [] σ (qv fun σ' => rLot σ P a b 0 σ') (exX [eIB] fun k σ' => rLot σ P a b k σ') := by
  have hP := h.2.2.1
  have hP4 := h.2.1
  have hrk := h.1.2.2.2.2.2.2.2
  obtain ⟨i0, i1⟩ := in_DP h
  have bad : ¬ (0 ≤ a ∧ a < 4 ∧ 0 ≤ b ∧ b < P) → Wp (d + 1) Y3_lot SX 18 [none, none, none, none] [] σ (qv fun σ' => rLot σ P a b 0 σ') (exX [eIB] fun k σ' => rLot σ P a b k σ') := fun q => b3_lot_18 ⟨0, rfl, Or.inl ⟨rfl, q, rfl⟩⟩
  refine b3_lot_0 _ _ ha (fun q => bad (by omega)) (fun q => b3_lot_4 _ _ ha (fun q => bad (by omega)) (fun q2 => ?_))
  refine b3_lot_9 (d := d) _ _ (ok_isThere (Or.inr rfl) hb i0 i1) (fun z σ' hz => ?_)
  obtain ⟨rfl, hz⟩ := hz
  rw [if_neg (show ¬ (1 : Int) = 0 by decide), hP] at hz
  by_cases q3 : 0 ≤ b ∧ b < P
  · rw [if_pos q3] at hz
    subst hz
    refine b3_lot_15 _ _ _ ⟨by decide, by decide⟩ (fun _ => ?_) (fun g => absurd g (by decide))
    refine b3_lot_26 _ _ ?_
    have lp : ∀ k i : Nat, i + k = 4 → ∀ τ : HP, (∀ r, r ≠ 4 → τ r = σ' r) → (∀ q, q < 4 → τ 4 q = if q < i ∧ σ' 4 q = a then 4 + (q : Int) else σ' 4 q) →
        Wp (d + 1) Y3_lot SX 28 [some (vr 0), some (vi a), some (vi b), some (vi (i : Int))] [] τ (qv fun τ' => rLot σ' P a b 0 τ') (exX [eIB] fun k τ' => rLot σ' P a b k τ') := by
      intro k
      induction k with
      | zero =>
        intro i hi τ h1 h2
        have e : i = 4 := by omega
        subst e
        refine b3_lot_28 _ _ _ ⟨by omega, by omega⟩ (fun _ => ?_) (fun g => absurd g (by omega))
        refine b3_lot_58 _ _ ⟨by omega, by omega⟩ ⟨rfl, Or.inr ⟨rfl, ⟨q, q2, q3.1, q3.2⟩, fun r a' b' => ?_, fun j => ?_, fun p hp => ?_⟩⟩
        · rw [up_ne a', up_ne b']; exact h1 r b'
        · by_cases e : j = 11
          · subst e; rw [up_at, if_pos rfl]
          · rw [up_nj e, up_nr (by decide), h1 0 (by decide), if_neg e]
        · rw [up_nr (by decide)]
          unfold lotR
          by_cases e : p = b.toNat
          · rw [if_pos e, e, up_at]
          · rw [if_neg e, up_nj e, h2 p hp]
            by_cases e2 : σ' 4 p = a
            · rw [if_pos ⟨hp, e2⟩, if_pos e2]
            · rw [if_neg (fun g => e2 g.2), if_neg e2]
      | succ k ih =>
        intro i hi τ h1 h2
        have hi4 : i < 4 := by omega
        have ei : (i : Int).toNat = i := Int.toNat_natCast i
        have r4 := hrk i hi4
        have t4 : τ 4 i = σ' 4 i := by rw [h2 i hi4, if_neg (fun g => by omega)]
        refine b3_lot_28 _ _ _ ⟨by omega, by omega⟩ (fun g => absurd g (by omega)) (fun _ => ?_)
        refine b3_lot_33 _ _ _ ⟨by omega, by omega⟩ (by rw [ei, t4]; exact ⟨by omega, by omega⟩) ha (fun g => ?_) (fun g => ?_)
        · rw [ei, t4] at g
          refine b3_lot_52 _ _ _ (ih (i + 1) (by omega) τ h1 (fun p hp => ?_))
          rw [h2 p hp]
          by_cases e : p = i
          · subst e; rw [if_neg (fun g => by omega), if_neg (fun g' => g g'.2)]
          · by_cases e2 : p < i ∧ σ' 4 p = a
            · rw [if_pos e2, if_pos ⟨by omega, e2.2⟩]
            · rw [if_neg e2, if_neg (fun g' => e2 ⟨by omega, g'.2⟩)]
        · rw [ei, t4] at g
          refine b3_lot_43 _ _ _ ⟨by omega, by omega⟩ (b3_lot_52 _ _ _ (ih (i + 1) (by omega) _ (fun r hr => by rw [up_ne hr]; exact h1 r hr) (fun p hp => ?_)))
          rw [ei]
          by_cases e : p = i
          · subst e; rw [up_at, if_pos ⟨by omega, g⟩]
          · rw [up_nj e, h2 p hp]
            by_cases e2 : p < i ∧ σ' 4 p = a
            · rw [if_pos e2, if_pos ⟨by omega, e2.2⟩]
            · rw [if_neg e2, if_neg (fun g' => e2 ⟨by omega, g'.2⟩)]
    exact lp 4 0 rfl σ' (fun _ _ => rfl) (fun p hp => by rw [if_neg (fun g => by omega)])
  · rw [if_neg q3] at hz
    subst hz
    exact b3_lot_15 _ _ _ ⟨by decide, by decide⟩ (fun g => absurd rfl g) (fun _ => bad (by omega))
theorem wp_weigh {b : Int} (hb : b = 0 ∨ b = 1) : Wp d Y3_weigh SX 0 [some (vr 0), some (vi b)] [] σ (qv fun σ' => σ' = up (up σ 0 3 b) 0 11 0) X := b3_weigh_0 _ hb ⟨rfl, rfl⟩
theorem wp_count {b : Int} (hb : b = 0 ∨ b = 1) : Wp d Y3_count SX 0 [some (vr 0), some (vi b)] [] σ (qi fun z σ' => σ' = σ ∧ z = if b = 0 then σ 0 0 else σ 0 1) X := by
  rcases hb with rfl | rfl
  · exact b3_count_0 _ ⟨by decide, by decide⟩ (fun _ => b3_count_11 (b3_count_15 _ ⟨_, rfl, rfl, rfl⟩)) (fun q => absurd rfl q)
  · exact b3_count_0 _ ⟨by decide, by decide⟩ (fun q => absurd q (by decide)) (fun _ => b3_count_4 (b3_count_15 _ ⟨_, rfl, rfl, rfl⟩))
end XM
