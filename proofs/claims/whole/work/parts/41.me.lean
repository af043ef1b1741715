/-! ===== the model: what it is told ===== -/
section ME
variable {d : Nat} {σ ρ σ' : HP} {Q : MQt} {X : MXt} {D P k : Nat} {z : Int}
theorem MSol0 {ρ' : HP} (h : σ' 0 11 = 0) : MSol ρ' σ' := fun g => by rw [h] at g; exact absurd g (by decide)
theorem Rel.thr {c : Int} (h : Rel ρ σ D P) : Rel (up ρ 0 0 c) σ D P := h.keep sameX.rf (fun r a _ _ _ => up_ne a) (fun j hj => up_nj hj) (Or.inr (up_ne (by decide)))
theorem mok_district {n : Int} (h : Rel ρ σ D P) (hn : in32 n) (hr : rDistrict σ D n k z σ') : Ok (d + 1) Y4_district SM [vr 0, vi n] ρ (qi fun z' ρ' => ρ' 0 0 = k ∧ (k = 0 → z' = z) ∧ RelE ρ' σ') := by
  refine Ok.ofWp (by decide) (Nat.le_of_ble_eq_true rfl) ?_
  obtain ⟨hx, hm, hS⟩ := id h
  have D4 := hx.1.1
  have m1 := hm.1
  have htot := total_eq hx hm
  have hb := sm_bd (f := σ 1) (m := 20) 4 (fun i hi => hx.1.2.2.2.2.1 i hi)
  have bad : ¬ (1 ≤ n ∧ n ≤ 20 ∧ sm 4 (σ 1) + n ≤ 20) → Wp (d + 1) Y4_district SM 23 [some (vr 0), some (vi n)] [vr 0] ρ (qi fun z' ρ' => ρ' 0 0 = k ∧ (k = 0 → z' = z) ∧ RelE ρ' σ') (fun _ _ _ _ => False) := by
    intro q
    rcases hr with ⟨rfl, rfl, -⟩ | ⟨q2, -⟩
    · refine b4_district_23 _ (b4_district_40 _ _ (by rw [up_at]; exact ⟨by decide, by decide⟩) (fun g => by rw [up_at] at g; exact absurd g (by decide)) (fun _ => b4_district_50 ⟨0, rfl, up_at, fun g => absurd g (by decide), D, P, h.thr⟩))
    · exact absurd q2 q
  refine b4_district_0 _ hn (fun q => bad (by omega)) (fun q => b4_district_6 _ hn (fun q => bad (by omega)) (fun q2 => ?_))
  refine b4_district_12 (d := d) _ (mok_total m1 D4) (fun z0 ρ0 hz => ?_)
  obtain ⟨rfl, rfl⟩ := hz
  rw [htot]
  refine b4_district_16 _ _ ⟨by omega, by omega⟩ (fun q3 => ?_) (fun q3 => bad (by omega))
  rcases hr with ⟨-, -, g⟩ | ⟨g, hr⟩
  · exact absurd ⟨q, q2, q3⟩ g
  · rcases hr with ⟨rfl, rfl, rfl⟩ | ⟨rfl, hD, rfl, rfl⟩
    · refine b4_district_27 _ (by rw [m1]; exact ⟨by decide, by decide⟩) (fun g => absurd m1 g) (fun _ => ?_)
      exact b4_district_35 _ (b4_district_40 _ _ (by rw [up_at]; exact ⟨by decide, by decide⟩) (fun g => by rw [up_at] at g; exact absurd g (by decide)) (fun _ => b4_district_50 ⟨0, rfl, up_at, fun g => absurd g (by decide), 4, P, h.thr⟩))
    · refine b4_district_27 _ (by rw [m1]; exact ⟨by omega, by omega⟩) (fun _ => ?_) (fun g => by rw [m1] at g; omega)
      refine b4_district_39 _ (b4_district_40 _ _ (by rw [up_at]; exact ⟨by decide, by decide⟩) (fun _ => ?_) (fun g => by rw [up_at] at g; exact absurd g (by decide)))
      have e1 : up ρ0 0 0 0 0 1 = D := by rw [up_nj (by decide)]; exact m1
      refine b4_district_52 _ (by rw [e1]; omega) ⟨_, rfl, ?_, fun _ => ?_, D + 1, P, XI_district hx hD g.1 g.2.1 g.2.2, ?_, MSol0 up_at⟩
      · rw [up_nj (by decide), up_nj (by decide), up_nr (by decide), up_at]; rfl
      · rw [up_nj (by decide), up_at, up_nr (by decide), e1]; omega
      · rw [e1, up_nr (show (0 : Nat) ≠ 1 by decide), e1, Int.toNat_natCast]
        obtain ⟨a1, a2, a3, a4, a5, a6, a7, a8, a9, a10, a11, a12⟩ := hm
        have v0 : ∀ j, j ≠ 0 → j ≠ 1 → j ≠ 8 → up (up (up (up ρ0 0 0 0) 1 D n) 0 1 ((D : Int) + 1)) 0 8 0 0 j = ρ0 0 j := fun j a b c => by rw [up_nj c, up_nj b, up_nr (by decide), up_nj a]
        have vr : ∀ r, r ≠ 0 → r ≠ 1 → up (up (up (up ρ0 0 0 0) 1 D n) 0 1 ((D : Int) + 1)) 0 8 0 r = ρ0 r := fun r a b => by rw [up_ne a, up_ne a, up_ne b, up_ne a]
        have w0 : ∀ x, x ≠ 0 → x ≠ 11 → up (up (up σ 1 D n) 0 0 ((D : Int) + 1)) 0 11 0 0 x = σ 0 x := fun x p q => by rw [up_nj q, up_nj p, up_nr (by decide)]
        have wr : ∀ r, r ≠ 0 → r ≠ 1 → up (up (up σ 1 D n) 0 0 ((D : Int) + 1)) 0 11 0 r = σ r := fun r p q => by rw [up_ne p, up_ne p, up_ne q]
        have v1 : ∀ e, up (up (up (up ρ0 0 0 0) 1 D n) 0 1 ((D : Int) + 1)) 0 8 0 1 e = if e = D then n else ρ0 1 e := fun e => by
          rw [up_nr (by decide), up_nr (by decide)]
          by_cases q : e = D
          · subst q; rw [up_at, if_pos rfl]
          · rw [up_nj q, if_neg q, up_nr (by decide)]
        have w1 : ∀ e, up (up (up σ 1 D n) 0 0 ((D : Int) + 1)) 0 11 0 1 e = if e = D then n else σ 1 e := fun e => by
          rw [up_nr (by decide), up_nr (by decide)]
          by_cases q : e = D
          · subst q; rw [up_at, if_pos rfl]
          · rw [up_nj q, if_neg q]
        refine ⟨?_, ?_, ?_, ?_, fun e he => ?_, ?_, ?_, ?_, fun l hl q => ?_, ?_, ?_, ?_⟩
        · rw [up_nj (by decide), up_at]; rfl
        · rw [v0 2 (by decide) (by decide) (by decide)]; exact a2
        · rw [v0 5 (by decide) (by decide) (by decide), w0 3 (by decide) (by decide)]; exact a3
        · rw [v0 6 (by decide) (by decide) (by decide), w0 2 (by decide) (by decide)]; exact a4
        · rw [v1, w1, a5 e he]
        · rw [vr 2 (by decide) (by decide), vr 10 (by decide) (by decide), wr 2 (by decide) (by decide), wr 3 (by decide) (by decide)]; exact a6
        · rw [vr 3 (by decide) (by decide)]; exact a7
        · rw [vr 3 (by decide) (by decide), wr 4 (by decide) (by decide)]; exact a8
        · rw [vr 4 (by decide) (by decide)]; exact a9 l hl (by omega)
        · unfold RG at a10 ⊢; rw [v0 14 (by decide) (by decide) (by decide), vr 7 (by decide) (by decide)]; exact a10
        · rw [up_at, up_at]
        · rw [v0 9 (by decide) (by decide) (by decide)]; exact a12
theorem mok_party (h : Rel ρ σ D P) (hr : rParty σ P k z σ') : Ok d Y4_party SM [vr 0] ρ (qi fun z' ρ' => ρ' 0 0 = k ∧ (k = 0 → z' = z) ∧ RelE ρ' σ') := by
  refine Ok.ofWp (by decide) (Nat.le_of_ble_eq_true rfl) ?_
  obtain ⟨hx, hm, hS⟩ := id h
  have P4 := hx.2.1
  have m2 := hm.2.1
  rcases hr with ⟨rfl, rfl, rfl⟩ | ⟨rfl, hP, rfl, rfl⟩
  · refine b4_party_0 (by rw [m2]; exact ⟨by decide, by decide⟩) (fun g => absurd m2 g) (fun _ => b4_party_9 (b4_party_14 _ (by rw [up_at]; exact ⟨by decide, by decide⟩) (fun g => by rw [up_at] at g; exact absurd g (by decide)) (fun _ => b4_party_24 ⟨0, rfl, up_at, fun g => absurd g (by decide), D, 4, h.thr⟩)))
  · refine b4_party_0 (by rw [m2]; exact ⟨by omega, by omega⟩) (fun _ => ?_) (fun g => by rw [m2] at g; omega)
    refine b4_party_13 (b4_party_14 _ (by rw [up_at]; exact ⟨by decide, by decide⟩) (fun _ => ?_) (fun g => by rw [up_at] at g; exact absurd g (by decide)))
    have e1 : up ρ 0 0 0 0 2 = P := by rw [up_nj (by decide)]; exact m2
    refine b4_party_26 ⟨_, rfl, ?_, fun _ => ?_, D, P + 1, XI_party hx hP, ?_, MSol0 up_at⟩
    · rw [up_nj (by decide), up_nj (by decide), up_at]; rfl
    · rw [up_nj (by decide), up_at, e1]; omega
    · rw [e1]
      obtain ⟨a1, a2, a3, a4, a5, a6, a7, a8, a9, a10, a11, a12⟩ := hm
      have v0 : ∀ j, j ≠ 0 → j ≠ 2 → j ≠ 8 → up (up (up ρ 0 0 0) 0 2 ((P : Int) + 1)) 0 8 0 0 j = ρ 0 j := fun j a b c => by rw [up_nj c, up_nj b, up_nj a]
      have vr : ∀ r, r ≠ 0 → up (up (up ρ 0 0 0) 0 2 ((P : Int) + 1)) 0 8 0 r = ρ r := fun r a => by rw [up_ne a, up_ne a, up_ne a]
      have w0 : ∀ x, x ≠ 1 → x ≠ 11 → up (up σ 0 1 ((P : Int) + 1)) 0 11 0 0 x = σ 0 x := fun x p q => by rw [up_nj q, up_nj p]
      have wr : ∀ r, r ≠ 0 → up (up σ 0 1 ((P : Int) + 1)) 0 11 0 r = σ r := fun r p => by rw [up_ne p, up_ne p]
      refine ⟨?_, ?_, ?_, ?_, ?_, ?_, ?_, ?_, ?_, ?_, ?_, ?_⟩
      · rw [v0 1 (by decide) (by decide) (by decide)]; exact a1
      · rw [up_nj (by decide), up_at]; rfl
      · rw [v0 5 (by decide) (by decide) (by decide), w0 3 (by decide) (by decide)]; exact a3
      · rw [v0 6 (by decide) (by decide) (by decide), w0 2 (by decide) (by decide)]; exact a4
      · rw [vr 1 (by decide), wr 1 (by decide)]; exact a5
      · rw [vr 2 (by decide), vr 10 (by decide), wr 2 (by decide), wr 3 (by decide)]; exact a6
      · rw [vr 3 (by decide)]; exact a7
      · rw [vr 3 (by decide), wr 4 (by decide)]; exact a8
      · rw [vr 4 (by decide)]; exact a9
      · unfold RG at a10 ⊢; rw [v0 14 (by decide) (by decide) (by decide), vr 7 (by decide)]; exact a10
      · rw [up_at, up_at]
      · rw [v0 9 (by decide) (by decide) (by decide)]; exact a12
theorem mok_votes {a b n : Int} (h : Rel ρ σ D P) (ha : in32 a) (hb : in32 b) (hn : in32 n) (hr : rVotes σ D P a b n k σ') : Ok (d + 1) Y4_votes SM [vr 0, vi a, vi b, vi n] ρ (qv fun ρ' => ρ' 0 0 = k ∧ RelE ρ' σ') := by
  refine Ok.ofWp (by decide) (Nat.le_of_ble_eq_true rfl) ?_
  obtain ⟨hx, hm, hS⟩ := id h
  have P4 := hx.2.1
  have D4 := hx.1.1
  refine b4_votes_0 (d := d) _ _ _ (mok_isList ha hb hm.1 D4 hm.2.1 P4) (fun z0 ρ0 hz => ?_)
  obtain ⟨rfl, hz⟩ := hz
  rcases hz with ⟨rfl, q⟩ | ⟨rfl, q⟩
  · refine b4_votes_7 _ _ _ _ ⟨by decide, by decide⟩ (fun _ => ?_) (fun g => absurd g (by decide))
    rcases hr with ⟨-, g, -⟩ | ⟨-, hr⟩
    · exact absurd q g
    · rcases hr with ⟨rfl, g, rfl⟩ | ⟨rfl, g, rfl⟩
      · have fin : Wp (d + 1) Y4_votes SM 25 [some (vr 0), some (vi a), some (vi b), some (vi n)] [vr 0] ρ0 (qv fun ρ' => ρ' 0 0 = ((2 : Nat) : Int) ∧ RelE ρ' σ') (fun _ _ _ _ => False) :=
          b4_votes_25 _ _ _ (b4_votes_30 _ _ _ _ (by rw [up_at]; exact ⟨by decide, by decide⟩) (fun _ => b4_votes_56 ⟨rfl, up_at, D, P, h.thr⟩) (fun g => by rw [up_at] at g; exact absurd g (by decide)))
        exact b4_votes_14 _ _ _ hn (fun _ => fin) (fun g1 => b4_votes_18 _ _ _ hn (fun g2 => absurd ⟨g1, g2⟩ g) (fun _ => fin))
      · refine b4_votes_14 _ _ _ hn (fun g1 => absurd g.1 (by omega)) (fun g1 => b4_votes_18 _ _ _ hn (fun g2 => ?_) (fun g2 => absurd g.2 (by omega)))
        refine b4_votes_29 _ _ _ (b4_votes_30 _ _ _ _ (by rw [up_at]; exact ⟨by decide, by decide⟩) (fun g => absurd up_at g) (fun _ => ?_))
        have el : (4 * a + b).toNat = 4 * a.toNat + b.toNat := by omega
        refine b4_votes_40 _ _ _ ⟨by omega, by omega⟩ (b4_votes_56 ⟨rfl, ?_, D, P, XI_votes hx (by omega) (by omega) g.1 g.2, ?_, MSol0 up_at⟩)
        · rw [up_nj (by decide), up_nr (by decide), up_at]; rfl
        · rw [el]
          obtain ⟨a1, a2, a3, a4, a5, a6, a7, a8, a9, a10, a11, a12⟩ := hm
          have v0 : ∀ j, j ≠ 0 → j ≠ 8 → up (up (up ρ0 0 0 0) 2 (4 * a.toNat + b.toNat) n) 0 8 0 0 j = ρ0 0 j := fun j a b => by rw [up_nj b, up_nr (by decide), up_nj a]
          have vr : ∀ r, r ≠ 0 → r ≠ 2 → up (up (up ρ0 0 0 0) 2 (4 * a.toNat + b.toNat) n) 0 8 0 r = ρ0 r := fun r a b => by rw [up_ne a, up_ne b, up_ne a]
          have w0 : ∀ x, x ≠ 11 → up (up σ 2 (4 * a.toNat + b.toNat) n) 0 11 0 0 x = σ 0 x := fun x q => by rw [up_nj q, up_nr (by decide)]
          have wr : ∀ r, r ≠ 0 → r ≠ 2 → up (up σ 2 (4 * a.toNat + b.toNat) n) 0 11 0 r = σ r := fun r p q => by rw [up_ne p, up_ne q]
          have v1 : ∀ e, up (up (up ρ0 0 0 0) 2 (4 * a.toNat + b.toNat) n) 0 8 0 2 e = if e = 4 * a.toNat + b.toNat then n else ρ0 2 e := fun e => by
            rw [up_nr (by decide)]
            by_cases q : e = 4 * a.toNat + b.toNat
            · subst q; rw [up_at, if_pos rfl]
            · rw [up_nj q, if_neg q, up_nr (by decide)]
          have w1 : ∀ e, up (up σ 2 (4 * a.toNat + b.toNat) n) 0 11 0 2 e = if e = 4 * a.toNat + b.toNat then n else σ 2 e := fun e => by
            rw [up_nr (by decide)]
            by_cases q : e = 4 * a.toNat + b.toNat
            · subst q; rw [up_at, if_pos rfl]
            · rw [up_nj q, if_neg q]
          refine ⟨?_, ?_, ?_, ?_, ?_, fun l hl => ⟨?_, ?_⟩, ?_, ?_, ?_, ?_, ?_, ?_⟩
          · rw [v0 1 (by decide) (by decide)]; exact a1
          · rw [v0 2 (by decide) (by decide)]; exact a2
          · rw [v0 5 (by decide) (by decide), w0 3 (by decide)]; exact a3
          · rw [v0 6 (by decide) (by decide), w0 2 (by decide)]; exact a4
          · rw [vr 1 (by decide) (by decide), wr 1 (by decide) (by decide)]; exact a5
          · rw [v1, w1, (a6 l hl).1]
          · rw [vr 10 (by decide) (by decide), wr 3 (by decide) (by decide)]; exact (a6 l hl).2
          · rw [vr 3 (by decide) (by decide)]; exact a7
          · rw [vr 3 (by decide) (by decide), wr 4 (by decide) (by decide)]; exact a8
          · rw [vr 4 (by decide) (by decide)]; exact a9
          · unfold RG at a10 ⊢; rw [v0 14 (by decide) (by decide), vr 7 (by decide) (by decide)]; exact a10
          · rw [up_at, up_at]
          · rw [v0 9 (by decide) (by decide)]; exact a12
  · refine b4_votes_7 _ _ _ _ ⟨by decide, by decide⟩ (fun g => absurd rfl g) (fun _ => ?_)
    rcases hr with ⟨rfl, -, rfl⟩ | ⟨g, -⟩
    · exact b4_votes_10 _ _ _ (b4_votes_30 _ _ _ _ (by rw [up_at]; exact ⟨by decide, by decide⟩) (fun _ => b4_votes_56 ⟨rfl, up_at, D, P, h.thr⟩) (fun g => by rw [up_at] at g; exact absurd g (by decide)))
    · exact absurd g q
theorem mok_propose {a b n : Int} (h : Rel ρ σ D P) (ha : in32 a) (hb : in32 b) (hn : in32 n) (hr : rPropose σ D P a b n k σ') : Ok (d + 1) Y4_propose SM [vr 0, vi a, vi b, vi n] ρ (qv fun ρ' => ρ' 0 0 = k ∧ RelE ρ' σ') := by
  refine Ok.ofWp (by decide) (Nat.le_of_ble_eq_true rfl) ?_
  obtain ⟨hx, hm, hS⟩ := id h
  have P4 := hx.2.1
  have D4 := hx.1.1
  refine b4_propose_0 (d := d) _ _ _ (mok_isList ha hb hm.1 D4 hm.2.1 P4) (fun z0 ρ0 hz => ?_)
  obtain ⟨rfl, hz⟩ := hz
  rcases hz with ⟨rfl, q⟩ | ⟨rfl, q⟩
  · refine b4_propose_7 _ _ _ _ ⟨by decide, by decide⟩ (fun _ => ?_) (fun g => absurd g (by decide))
    rcases hr with ⟨-, g, -⟩ | ⟨-, hr⟩
    · exact absurd q g
    · rcases hr with ⟨rfl, g, rfl⟩ | ⟨rfl, g, rfl⟩
      · have fin : Wp (d + 1) Y4_propose SM 24 [some (vr 0), some (vi a), some (vi b), some (vi n)] [vr 0] ρ0 (qv fun ρ' => ρ' 0 0 = ((2 : Nat) : Int) ∧ RelE ρ' σ') (fun _ _ _ _ => False) :=
          b4_propose_24 _ _ _ (b4_propose_29 _ _ _ _ (by rw [up_at]; exact ⟨by decide, by decide⟩) (fun _ => b4_propose_50 ⟨rfl, up_at, D, P, h.thr⟩) (fun g => by rw [up_at] at g; exact absurd g (by decide)))
        exact b4_propose_14 _ _ _ hn (fun _ => fin) (fun g1 => b4_propose_18 _ _ _ hn (fun g2 => absurd ⟨g1, g2⟩ g) (fun _ => fin))
      · refine b4_propose_14 _ _ _ hn (fun g1 => absurd g.1 (by omega)) (fun g1 => b4_propose_18 _ _ _ hn (fun g2 => ?_) (fun g2 => absurd g.2 (by omega)))
        refine b4_propose_28 _ _ _ (b4_propose_29 _ _ _ _ (by rw [up_at]; exact ⟨by decide, by decide⟩) (fun g => absurd up_at g) (fun _ => ?_))
        have el : (4 * a + b).toNat = 4 * a.toNat + b.toNat := by omega
        have v0 : ∀ j, j ≠ 0 → up (up ρ0 0 0 0) 10 (4 * a.toNat + b.toNat) n 0 j = ρ0 0 j := fun j a => by rw [up_nr (by decide), up_nj a]
        have vr : ∀ r, r ≠ 0 → r ≠ 10 → up (up ρ0 0 0 0) 10 (4 * a.toNat + b.toNat) n r = ρ0 r := fun r a b => by rw [up_ne b, up_ne a]
        have wr : ∀ r, r ≠ 3 → up σ 3 (4 * a.toNat + b.toNat) n r = σ r := fun r p => by rw [up_ne p]
        refine b4_propose_39 _ _ _ ⟨by omega, by omega⟩ (b4_propose_50 ⟨rfl, ?_, D, P, XI_propose hx (by omega) (by omega) g.1 g.2, ?_, ?_⟩)
        · rw [up_nr (by decide), up_at]; rfl
        · rw [el]
          obtain ⟨a1, a2, a3, a4, a5, a6, a7, a8, a9, a10, a11, a12⟩ := hm
          refine ⟨?_, ?_, ?_, ?_, ?_, fun l hl => ⟨?_, ?_⟩, ?_, ?_, ?_, ?_, ?_, ?_⟩
          · rw [v0 1 (by decide)]; exact a1
          · rw [v0 2 (by decide)]; exact a2
          · rw [v0 5 (by decide), wr 0 (by decide)]; exact a3
          · rw [v0 6 (by decide), wr 0 (by decide)]; exact a4
          · rw [vr 1 (by decide) (by decide), wr 1 (by decide)]; exact a5
          · rw [vr 2 (by decide) (by decide), wr 2 (by decide)]; exact (a6 l hl).1
          · by_cases q : l = 4 * a.toNat + b.toNat
            · subst q; rw [up_at, up_at]
            · rw [up_nj q, up_nj q, up_nr (by decide)]; exact (a6 l hl).2
          · rw [vr 3 (by decide) (by decide)]; exact a7
          · rw [vr 3 (by decide) (by decide), wr 4 (by decide)]; exact a8
          · rw [vr 4 (by decide) (by decide)]; exact a9
          · unfold RG at a10 ⊢; rw [v0 14 (by decide), vr 7 (by decide) (by decide)]; exact a10
          · rw [v0 8 (by decide), wr 0 (by decide)]; exact a11
          · rw [v0 9 (by decide)]; exact a12
        · rw [el]
          unfold MSol at hS ⊢
          rw [cF_s (wr 0 (by decide)) (wr 2 (by decide)), wr 0 (by decide), wr 8 (by decide), wr 9 (by decide), wr 16 (by decide), wr 17 (by decide), v0 9 (by decide), v0 10 (by decide), vr 4 (by decide) (by decide), vr 8 (by decide) (by decide), vr 9 (by decide) (by decide), vr 14 (by decide) (by decide), vr 15 (by decide) (by decide)]
          exact hS
  · refine b4_propose_7 _ _ _ _ ⟨by decide, by decide⟩ (fun g => absurd rfl g) (fun _ => ?_)
    rcases hr with ⟨rfl, -, rfl⟩ | ⟨g, -⟩
    · exact b4_propose_10 _ _ _ (b4_propose_29 _ _ _ _ (by rw [up_at]; exact ⟨by decide, by decide⟩) (fun _ => b4_propose_50 ⟨rfl, up_at, D, P, h.thr⟩) (fun g => by rw [up_at] at g; exact absurd g (by decide)))
    · exact absurd g q
end ME
