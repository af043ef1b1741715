/-! ===== the model: ties, and reading what was worked out ===== -/
section MG
variable {d : Nat} {σ ρ σ' : HP} {Q : MQt} {X : MXt} {D P k : Nat} {z : Int}
theorem chO_pos {w s : Tb} {p q : Nat} (hw : 0 ≤ w q) (hs : 0 ≤ s q) (h : chO w s p q) : 0 < w p ∧ 0 < w q := by
  obtain ⟨h1, h2, h3⟩ := h
  refine ⟨h2, ?_⟩
  have a : 0 < w p * (2 * s q + 1) := Int.mul_pos h2 (by omega)
  rcases Int.lt_or_eq_of_le hw with l | l
  · exact l
  · rw [h3, ← l, Int.zero_mul] at a; omega
theorem mok_tied {a : Int} (h : Rel ρ σ D P) (ha : in32 a) (hr : rTied σ D P a k z σ') : Ok (d + 3) Y4_tied SM [vr 0, vi a] ρ (qi fun z' ρ' => ρ' 0 0 = k ∧ (k = 0 → z' = z) ∧ RelE ρ' σ') := by
  refine Ok.ofWp (by decide) (Nat.le_of_ble_eq_true rfl) ?_
  obtain ⟨hx, hm, hS⟩ := id h
  have P4 := hx.2.1
  have D4 := hx.1.1
  obtain ⟨hs, hr⟩ := hr
  refine b4_tied_0 (d := d + 2) _ (mok_shareAll hx hm) (fun z0 ρ1 hz => ?_)
  obtain ⟨s1, s2, s3, hz⟩ := hz
  have e2 : ρ1 0 2 = P := by rw [s1 0 (by decide) (by decide) (by decide)]; exact hm.2.1
  have iP : in32 (ρ1 0 2) := by rw [e2]; exact ⟨by omega, by omega⟩
  have e2' : ∀ c, up ρ1 0 0 c 0 2 = P := fun c => by rw [up_nj (by decide)]; exact e2
  -- with a code, nothing more
  have stop : ∀ c : Nat, c ≠ 0 → c < 10 → c = k → Wp (d + 2 + 1) Y4_tied SM 29 [some (vr 0), some (vi a), none, none] [vi (c : Int), vr 0] ρ1 (qi fun z' ρ' => ρ' 0 0 = k ∧ (k = 0 → z' = z) ∧ RelE ρ' σ') (fun _ _ _ _ => False) := by
    intro c c0 c10 ck
    subst ck
    refine b4_tied_29 _ _ ?_
    have fin : Wp (d + 2 + 1) Y4_tied SM 202 [none, none, some (vi 0), none] [] (up ρ1 0 0 (c : Int)) (qi fun z' ρ' => ρ' 0 0 = c ∧ (c = 0 → z' = z) ∧ RelE ρ' σ') (fun _ _ _ _ => False) := b4_tied_202 _ (Or.inl rfl) ⟨0, rfl, up_at, fun g => absurd g c0, D, P, ms_rel h hs s1 s2⟩
    refine b4_tied_36 _ _ _ ⟨by decide, by decide⟩ (by rw [e2']; exact ⟨by omega, by omega⟩) (fun _ => fin) (fun _ => ?_)
    exact b4_tied_44 _ _ _ (by rw [up_at]; exact ⟨by omega, by omega⟩) (fun _ => fin) (fun g => by rw [up_at] at g; omega)
  rcases hz with ⟨rfl, hw, s6⟩ | ⟨rfl, hw⟩
  · refine b4_tied_5 _ _ ⟨by decide, by decide⟩ (fun _ => ?_) (fun g => absurd g (by decide))
    rcases hr with ⟨-, g⟩ | ⟨-, hr⟩
    · exact absurd (no_some g hw) id
    · rcases hr with ⟨rfl, g⟩ | ⟨rfl, g, hz⟩
      · have st := stop 2 (by decide) (by decide) rfl
        exact b4_tied_12 _ ha (fun _ => b4_tied_24 _ st) (fun g1 => b4_tied_16 _ ha iP (fun g2 => by rw [e2] at g2; exact absurd ⟨g1, g2⟩ g) (fun _ => b4_tied_24 _ st))
      · refine b4_tied_12 _ ha (fun g1 => absurd g.1 (by omega)) (fun g1 => b4_tied_16 _ ha iP (fun _ => ?_) (fun g2 => by rw [e2] at g2; omega))
        refine b4_tied_28 _ (b4_tied_29 _ _ ?_)
        obtain ⟨n, rfl⟩ : ∃ n : Nat, a = n := ⟨a.toNat, by omega⟩
        have n4 : n < 4 := by omega
        have en : (n : Int).toNat = n := Int.toNat_natCast n
        rw [en] at hz
        have wnn : ∀ p, p < 4 → 0 ≤ wF σ D p ∧ wF σ D p ≤ 320000000 := fun p hp => wtF_bd D4 hx.1.2.2.2.2.1 (cF_bd hx.1) hp
        have snn := sF_bd hx.1
        have f5 : ∀ p, p < 4 → up ρ1 0 0 0 5 p = wF σ D p := fun p hp => by rw [up_nr (by decide)]; exact s3 p hp
        have f6 : ∀ p, p < 4 → up ρ1 0 0 0 6 p = sF σ D p := fun p hp => by rw [up_nr (by decide)]; exact s6 p hp
        have bd : ∀ p q, p < 4 → q < 4 → in32 (2 * sF σ D q + 1) ∧ in32 (2 * sF σ D q - 1) ∧ in64 (wF σ D p * (2 * sF σ D q + 1)) ∧ in64 (wF σ D p * (2 * sF σ D q - 1)) := by
          intro p q hp hq
          have x1 := wnn p hp
          have x2 := snn q hq
          have y1 : 0 ≤ wF σ D p * (2 * sF σ D q + 1) ∧ wF σ D p * (2 * sF σ D q + 1) ≤ 320000000 * 41 := ⟨Int.mul_nonneg x1.1 (by omega), Int.mul_le_mul x1.2 (by omega) (by omega) (by omega)⟩
          have e : wF σ D p * (2 * sF σ D q - 1) = wF σ D p * (2 * sF σ D q + 1) - 2 * wF σ D p := by
            rw [show (2 * sF σ D q - 1) = (2 * sF σ D q + 1) - 2 by omega, Int.mul_sub, Int.mul_comm (wF σ D p) 2]
          rw [e]
          exact ⟨⟨by omega, by omega⟩, ⟨by omega, by omega⟩, ⟨by omega, by omega⟩, ⟨by omega, by omega⟩⟩
        have lp : ∀ m i : Nat, i + m = P → ∀ b : Int, ((b = 1 ∧ ∃ q, q < i ∧ q ≠ n ∧ (chO (wF σ D) (sF σ D) n q ∨ chO (wF σ D) (sF σ D) q n)) ∨ (b = 0 ∧ ∀ q, q < i → q ≠ n → ¬ (chO (wF σ D) (sF σ D) n q ∨ chO (wF σ D) (sF σ D) q n))) → Wp (d + 2 + 1) Y4_tied SM 36 [some (vr 0), some (vi (n : Int)), some (vi b), some (vi (i : Int))] [] (up ρ1 0 0 0) (qi fun z' ρ' => ρ' 0 0 = ((0 : Nat) : Int) ∧ (0 = 0 → z' = z) ∧ RelE ρ' σ') (fun _ _ _ _ => False) := by
          intro m
          induction m with
          | zero =>
            intro i hi b hb
            have e : i = P := by omega
            subst e
            refine b4_tied_36 _ _ _ ⟨by omega, by omega⟩ (by rw [e2']; exact ⟨by omega, by omega⟩) (fun _ => b4_tied_202 _ (by rcases hb with ⟨q, -⟩ | ⟨q, -⟩ <;> simp [q]) ⟨b, rfl, up_at, fun _ => ?_, D, i, ms_rel h hs s1 s2⟩) (fun g => by rw [e2'] at g; omega)
            rcases hb with ⟨rfl, q, q1, q2, q3⟩ | ⟨rfl, hb⟩
            · rcases hz with ⟨rfl, -⟩ | ⟨-, hz⟩
              · rfl
              · exact absurd ⟨q, q1, q2, q3⟩ hz
            · rcases hz with ⟨-, q, q1, q2, q3⟩ | ⟨rfl, -⟩
              · exact absurd q3 (hb q q1 q2)
              · rfl
          | succ m ih =>
            intro i hi b hb
            have i4 : i < 4 := by omega
            have ei : (i : Int).toNat = i := Int.toNat_natCast i
            refine b4_tied_36 _ _ _ ⟨by omega, by omega⟩ (by rw [e2']; exact ⟨by omega, by omega⟩) (fun g => by rw [e2'] at g; omega) (fun _ => ?_)
            refine b4_tied_44 _ _ _ (by rw [up_at]; exact ⟨by decide, by decide⟩) (fun g => absurd up_at g) (fun _ => ?_)
            -- nothing with this party
            have skip : (i ≠ n → ¬ (chO (wF σ D) (sF σ D) n i ∨ chO (wF σ D) (sF σ D) i n)) → Wp (d + 2 + 1) Y4_tied SM 196 [some (vr 0), some (vi (n : Int)), some (vi b), some (vi (i : Int))] [] (up ρ1 0 0 0) (qi fun z' ρ' => ρ' 0 0 = ((0 : Nat) : Int) ∧ (0 = 0 → z' = z) ∧ RelE ρ' σ') (fun _ _ _ _ => False) := by
              intro hno
              refine b4_tied_196 _ _ _ (ih (i + 1) (by omega) b ?_)
              rcases hb with ⟨rfl, q, q1, q2⟩ | ⟨rfl, hb⟩
              · exact Or.inl ⟨rfl, q, by omega, q2⟩
              · refine Or.inr ⟨rfl, fun q hq => ?_⟩
                by_cases e : q = i
                · subst e; exact hno
                · exact hb q (by omega)
            have wi := wnn i i4
            have wn := wnn n n4
            have si := snn i i4
            have sn := snn n n4
            refine b4_tied_51 _ _ _ ⟨by omega, by omega⟩ ⟨by omega, by omega⟩ (fun g => skip (fun g2 => absurd (by omega) g2)) (fun g => ?_)
            have hin : i ≠ n := by omega
            refine b4_tied_56 _ _ _ ⟨by omega, by omega⟩ (by rw [en, f5 n n4]; exact ⟨by omega, by omega⟩) (fun g1 => skip (fun _ g2 => ?_)) (fun g1 => ?_)
            · rw [en, f5 n n4] at g1
              rcases g2 with g2 | g2
              · have := (chO_pos wi.1 si.1 g2).1; omega
              · have := (chO_pos wn.1 sn.1 g2).2; omega
            rw [en, f5 n n4] at g1
            refine b4_tied_67 _ _ _ ⟨by omega, by omega⟩ (by rw [ei, f5 i i4]; exact ⟨by omega, by omega⟩) (fun g2 => skip (fun _ g3 => ?_)) (fun g2 => ?_)
            · rw [ei, f5 i i4] at g2
              rcases g3 with g3 | g3
              · have := (chO_pos wi.1 si.1 g3).2; omega
              · have := (chO_pos wn.1 sn.1 g3).1; omega
            rw [ei, f5 i i4] at g2
            have yes : ((∃ q, q < i ∧ q ≠ n ∧ (chO (wF σ D) (sF σ D) n q ∨ chO (wF σ D) (sF σ D) q n)) ∨ (chO (wF σ D) (sF σ D) n i ∨ chO (wF σ D) (sF σ D) i n)) → Wp (d + 2 + 1) Y4_tied SM 190 [some (vr 0), some (vi (n : Int)), none, some (vi (i : Int))] [] (up ρ1 0 0 0) (qi fun z' ρ' => ρ' 0 0 = ((0 : Nat) : Int) ∧ (0 = 0 → z' = z) ∧ RelE ρ' σ') (fun _ _ _ _ => False) := by
              intro hy
              refine b4_tied_190 _ _ (b4_tied_195 _ _ _ (b4_tied_196 _ _ _ (ih (i + 1) (by omega) 1 (Or.inl ⟨rfl, ?_⟩))))
              rcases hy with ⟨q, q1, q2⟩ | hy
              · exact ⟨q, by omega, q2⟩
              · exact ⟨i, by omega, hin, hy⟩
            have one : ((∃ q, q < i ∧ q ≠ n ∧ (chO (wF σ D) (sF σ D) n q ∨ chO (wF σ D) (sF σ D) q n)) ∨ (chO (wF σ D) (sF σ D) n i ∨ chO (wF σ D) (sF σ D) i n)) → Wp (d + 2 + 1) Y4_tied SM 131 [some (vr 0), some (vi (n : Int)), none, some (vi (i : Int))] [] (up ρ1 0 0 0) (qi fun z' ρ' => ρ' 0 0 = ((0 : Nat) : Int) ∧ (0 = 0 → z' = z) ∧ RelE ρ' σ') (fun _ _ _ _ => False) := fun hy => b4_tied_131 _ _ (b4_tied_136 _ _ _ ⟨by decide, by decide⟩ (fun _ => yes hy) (fun g => absurd g (by decide)))
            rcases hb with ⟨rfl, hb⟩ | ⟨rfl, hb⟩
            · exact b4_tied_78 _ _ _ ⟨by decide, by decide⟩ (fun _ => one (Or.inl hb)) (fun g => absurd g (by decide))
            · refine b4_tied_78 _ _ _ ⟨by decide, by decide⟩ (fun g => absurd rfl g) (fun _ => ?_)
              have two : ¬ chO (wF σ D) (sF σ D) n i → Wp (d + 2 + 1) Y4_tied SM 135 [some (vr 0), some (vi (n : Int)), none, some (vi (i : Int))] [] (up ρ1 0 0 0) (qi fun z' ρ' => ρ' 0 0 = ((0 : Nat) : Int) ∧ (0 = 0 → z' = z) ∧ RelE ρ' σ') (fun _ _ _ _ => False) := by
                intro hn1
                refine b4_tied_135 _ _ (b4_tied_136 _ _ _ ⟨by decide, by decide⟩ (fun g => absurd rfl g) (fun _ => ?_))
                have no : ¬ chO (wF σ D) (sF σ D) i n → Wp (d + 2 + 1) Y4_tied SM 194 [some (vr 0), some (vi (n : Int)), none, some (vi (i : Int))] [] (up ρ1 0 0 0) (qi fun z' ρ' => ρ' 0 0 = ((0 : Nat) : Int) ∧ (0 = 0 → z' = z) ∧ RelE ρ' σ') (fun _ _ _ _ => False) := by
                  intro hn2
                  refine b4_tied_194 _ _ (b4_tied_195 _ _ _ (skip (fun _ g => g.elim hn1 hn2)))
                refine b4_tied_141 _ _ ⟨by omega, by omega⟩ (by rw [ei, f6 i i4]; exact ⟨by omega, by omega⟩) (fun g3 => no (fun g4 => by rw [ei, f6 i i4] at g3; have := g4.1; omega)) (fun g3 => ?_)
                rw [ei, f6 i i4] at g3
                obtain ⟨b1, b2, b3, b4⟩ := bd i n i4 n4
                obtain ⟨c1, c2, c3, c4⟩ := bd n i n4 i4
                refine b4_tied_150 _ _ ⟨by omega, by omega⟩ ⟨by omega, by omega⟩ (by rw [en, f6 n n4]; exact b1) (by rw [ei, f6 i i4]; exact c2) (by rw [ei, en, f5 i i4, f6 n n4]; exact b3) (by rw [ei, en, f5 n n4, f6 i i4]; exact c4) (fun g4 => ?_) (fun g4 => ?_)
                · rw [ei, en, f5 i i4, f5 n n4, f6 i i4, f6 n n4] at g4
                  exact no (fun g5 => g4 g5.2.2)
                · rw [ei, en, f5 i i4, f5 n n4, f6 i i4, f6 n n4] at g4
                  exact yes (Or.inr (Or.inr ⟨g3, g2, g4⟩))
              refine b4_tied_82 _ _ ⟨by omega, by omega⟩ (by rw [en, f6 n n4]; exact ⟨by omega, by omega⟩) (fun g3 => two (fun g4 => by rw [en, f6 n n4] at g3; have := g4.1; omega)) (fun g3 => ?_)
              rw [en, f6 n n4] at g3
              obtain ⟨b1, b2, b3, b4⟩ := bd i n i4 n4
              obtain ⟨c1, c2, c3, c4⟩ := bd n i n4 i4
              refine b4_tied_91 _ _ ⟨by omega, by omega⟩ ⟨by omega, by omega⟩ (by rw [ei, f6 i i4]; exact c1) (by rw [en, f6 n n4]; exact b2) (by rw [ei, en, f5 n n4, f6 i i4]; exact c3) (by rw [ei, en, f5 i i4, f6 n n4]; exact b4) (fun g4 => ?_) (fun g4 => ?_)
              · rw [ei, en, f5 i i4, f5 n n4, f6 i i4, f6 n n4] at g4
                exact two (fun g5 => g4 g5.2.2)
              · rw [ei, en, f5 i i4, f5 n n4, f6 i i4, f6 n n4] at g4
                exact one (Or.inr (Or.inl ⟨g3, g1, g4⟩))
        exact lp P 0 (by omega) 0 (Or.inr ⟨rfl, fun q hq => by omega⟩)
  · refine b4_tied_5 _ _ ⟨by decide, by decide⟩ (fun g => absurd rfl g) (fun _ => ?_)
    rcases hr with ⟨rfl, -⟩ | ⟨g, -⟩
    · exact b4_tied_8 _ (stop 1 (by decide) (by decide) rfl)
    · exact absurd (no_some hw g) id
theorem mok_hasTable (h : Rel ρ σ D P) : Ok d Y4_hasTable SM [vr 0] ρ (qi fun z ρ' => ρ' = ρ ∧ ((z = 1 ∧ hasT σ) ∨ (z = 0 ∧ ¬ hasT σ))) := by
  refine Ok.ofWp (by decide) (Nat.le_of_ble_eq_true rfl) ?_
  obtain ⟨hx, hm, hS⟩ := id h
  have e8 := hm.2.2.2.2.2.2.2.2.2.2.1
  have e9 := hm.2.2.2.2.2.2.2.2.2.2.2
  have g11 := hx.2.2.2.2.2.2.2.2.1
  have g12 := hx.2.2.2.2.2.2.2.2.2.1
  refine b4_hasTable_0 (by rw [e8]; exact ⟨by omega, by omega⟩) (fun q => b4_hasTable_18 (b4_hasTable_19 _ (Or.inl rfl) ⟨0, rfl, rfl, Or.inr ⟨rfl, fun g => by have := g.1; omega⟩⟩)) (fun q => ?_)
  have s1 : σ 0 11 = 1 := by omega
  have f := (hS s1).1
  refine b4_hasTable_7 ⟨by omega, by omega⟩ (fun q => b4_hasTable_18 (b4_hasTable_19 _ (Or.inl rfl) ⟨0, rfl, rfl, Or.inr ⟨rfl, fun g => by have := g.2; omega⟩⟩)) (fun q => b4_hasTable_14 (b4_hasTable_19 _ (Or.inr rfl) ⟨1, rfl, rfl, Or.inl ⟨rfl, s1, by omega⟩⟩))
theorem mok_seats {a b w : Int} (h : Rel ρ σ D P) (ha : in32 a) (hb : in32 b) (hw : w = 0 ∨ w = 1) (hr : rSeats σ D P a b w k z σ') : Ok (d + 1) Y4_seats SM [vr 0, vi a, vi b, vi w] ρ (qi fun z' ρ' => ρ' 0 0 = k ∧ (k = 0 → z' = z) ∧ RelE ρ' σ') := by
  refine Ok.ofWp (by decide) (Nat.le_of_ble_eq_true rfl) ?_
  obtain ⟨hx, hm, hS⟩ := id h
  have P4 := hx.2.1
  have D4 := hx.1.1
  obtain ⟨rfl, hr⟩ := hr
  refine b4_seats_0 (d := d) _ _ _ (mok_hasTable h) (fun z0 ρ1 hz => ?_)
  obtain ⟨rfl, hz⟩ := hz
  have stop : ∀ c : Nat, c ≠ 0 → c < 10 → c = k → Wp (d + 1) Y4_seats SM 26 [some (vr 0), some (vi a), some (vi b), some (vi w)] [vi (c : Int), vr 0] ρ1 (qi fun z' ρ' => ρ' 0 0 = k ∧ (k = 0 → z' = z) ∧ RelE ρ' σ') (fun _ _ _ _ => False) := by
    rintro c c0 c10 rfl
    exact b4_seats_26 _ _ _ _ (by rw [up_at]; exact ⟨by omega, by omega⟩) (fun g => by rw [up_at] at g; omega) (fun _ => b4_seats_36 (b4_seats_67 _ ⟨0, rfl, up_at, fun g => absurd g c0, D, P, h.thr⟩))
  rcases hz with ⟨rfl, hT⟩ | ⟨rfl, hT⟩
  · refine b4_seats_5 _ _ _ _ ⟨by decide, by decide⟩ (fun _ => ?_) (fun g => absurd g (by decide))
    refine b4_seats_12 (d := d) _ _ _ (mok_isList ha hb hm.1 D4 hm.2.1 P4) (fun z0 ρ0 hz => ?_)
    obtain ⟨rfl, hz⟩ := hz
    rcases hr with ⟨-, g⟩ | ⟨-, hr⟩
    · exact absurd hT g
    · rcases hz with ⟨rfl, q⟩ | ⟨rfl, q⟩
      · refine b4_seats_18 _ _ _ _ ⟨by decide, by decide⟩ (fun _ => ?_) (fun g => absurd g (by decide))
        rcases hr with ⟨-, g⟩ | ⟨rfl, -, rfl⟩
        · exact absurd q g
        · refine b4_seats_25 _ _ _ (b4_seats_26 _ _ _ _ (by rw [up_at]; exact ⟨by decide, by decide⟩) (fun _ => ?_) (fun g => by rw [up_at] at g; exact absurd g (by decide)))
          have el : (4 * a + b).toNat = 4 * a.toNat + b.toNat := by omega
          have ta := ((hS hT.1).2.2.1 hT.2).1 (4 * a.toNat + b.toNat) (by omega)
          refine b4_seats_40 _ _ _ ⟨by omega, by omega⟩ (fun g => ?_) (fun g => ?_)
          · refine b4_seats_57 _ _ ⟨by omega, by omega⟩ (b4_seats_67 _ ⟨_, rfl, up_at, fun _ => ?_, D, P, h.thr⟩)
            rw [if_pos g, up_nr (by decide), el]; exact ta.1
          · refine b4_seats_44 _ _ ⟨by omega, by omega⟩ (b4_seats_67 _ ⟨_, rfl, up_at, fun _ => ?_, D, P, h.thr⟩)
            rw [if_neg g, up_nr (by decide), el]; exact ta.2
      · refine b4_seats_18 _ _ _ _ ⟨by decide, by decide⟩ (fun g => absurd rfl g) (fun _ => ?_)
        rcases hr with ⟨rfl, -⟩ | ⟨-, g, -⟩
        · exact b4_seats_21 _ _ _ (stop 2 (by decide) (by decide) rfl)
        · exact absurd g q
  · refine b4_seats_5 _ _ _ _ ⟨by decide, by decide⟩ (fun g => absurd rfl g) (fun _ => ?_)
    rcases hr with ⟨rfl, -⟩ | ⟨g, -⟩
    · exact b4_seats_8 _ _ _ (stop 1 (by decide) (by decide) rfl)
    · exact absurd g hT
theorem mok_unique (h : Rel ρ σ D P) (hr : rUnique σ k z σ') : Ok (d + 1) Y4_unique SM [vr 0] ρ (qi fun z' ρ' => ρ' 0 0 = k ∧ (k = 0 → z' = z) ∧ RelE ρ' σ') := by
  refine Ok.ofWp (by decide) (Nat.le_of_ble_eq_true rfl) ?_
  obtain ⟨hx, hm, hS⟩ := id h
  obtain ⟨rfl, hr⟩ := hr
  refine b4_unique_0 (d := d) (mok_hasTable h) (fun z0 ρ1 hz => ?_)
  obtain ⟨rfl, hz⟩ := hz
  rcases hz with ⟨rfl, hT⟩ | ⟨rfl, hT⟩
  · refine b4_unique_5 _ ⟨by decide, by decide⟩ (fun g => absurd g (by decide)) (fun _ => ?_)
    rcases hr with ⟨-, g⟩ | ⟨-, rfl, hr⟩
    · exact absurd hT g
    · refine b4_unique_8 (b4_unique_13 _ (by rw [up_at]; exact ⟨by decide, by decide⟩) (fun g => absurd up_at g) (fun _ => b4_unique_23 (b4_unique_28 _ ?_)))
      obtain ⟨b8, b9⟩ := hx.t20 hT
      have ta := ((hS hT.1).2.2.1 hT.2).1
      have t8 : ∀ l, l < 16 → up ρ1 0 0 0 8 l = σ' 8 l := fun l hl => by rw [up_nr (by decide)]; exact (ta l hl).1
      have t9 : ∀ l, l < 16 → up ρ1 0 0 0 9 l = σ' 9 l := fun l hl => by rw [up_nr (by decide)]; exact (ta l hl).2
      have lp : ∀ m i : Nat, i + m = 16 → ∀ b : Int, ((b = 1 ∧ ∀ l, l < i → σ' 8 l = σ' 9 l) ∨ (b = 0 ∧ ¬ ∀ l, l < 16 → σ' 8 l = σ' 9 l)) → Wp (d + 1) Y4_unique SM 31 [some (vr 0), some (vi b), some (vi (i : Int))] [] (up ρ1 0 0 0) (qi fun z' ρ' => ρ' 0 0 = ((0 : Nat) : Int) ∧ (0 = 0 → z' = z) ∧ RelE ρ' σ') (fun _ _ _ _ => False) := by
        intro m
        induction m with
        | zero =>
          intro i hi b hb
          have e : i = 16 := by omega
          subst e
          refine b4_unique_31 _ _ ⟨by omega, by omega⟩ (fun _ => b4_unique_68 _ (by rcases hb with ⟨q, -⟩ | ⟨q, -⟩ <;> simp [q]) ⟨b, rfl, up_at, fun _ => ?_, D, P, h.thr⟩) (fun g => absurd g (by omega))
          rcases hb with ⟨rfl, hb⟩ | ⟨rfl, hb⟩
          · rcases hr with ⟨rfl, -⟩ | ⟨-, g⟩
            · rfl
            · exact absurd hb g
          · rcases hr with ⟨-, g⟩ | ⟨rfl, -⟩
            · exact absurd g hb
            · rfl
        | succ m ih =>
          intro i hi b hb
          have ei : (i : Int).toNat = i := Int.toNat_natCast i
          have x8 := b8 i (by omega)
          have x9 := b9 i (by omega)
          have no : (¬ ∀ l, l < 16 → σ' 8 l = σ' 9 l) → Wp (d + 1) Y4_unique SM 60 [some (vr 0), none, some (vi (i : Int))] [] (up ρ1 0 0 0) (qi fun z' ρ' => ρ' 0 0 = ((0 : Nat) : Int) ∧ (0 = 0 → z' = z) ∧ RelE ρ' σ') (fun _ _ _ _ => False) := fun q => b4_unique_60 _ (b4_unique_61 _ _ (ih (i + 1) (by omega) 0 (Or.inr ⟨rfl, q⟩)))
          refine b4_unique_31 _ _ ⟨by omega, by omega⟩ (fun g => absurd g (by omega)) (fun _ => ?_)
          rcases hb with ⟨rfl, hb⟩ | ⟨rfl, hb⟩
          · refine b4_unique_37 _ _ ⟨by decide, by decide⟩ (fun g => absurd g (by decide)) (fun _ => ?_)
            refine b4_unique_41 _ ⟨by omega, by omega⟩ (by rw [ei, t8 i (by omega)]; exact ⟨by omega, by omega⟩) (by rw [ei, t9 i (by omega)]; exact ⟨by omega, by omega⟩) (fun g => ?_) (fun g => ?_)
            · rw [ei, t8 i (by omega), t9 i (by omega)] at g
              exact no (fun q => g (q i (by omega)))
            · rw [ei, t8 i (by omega), t9 i (by omega)] at g
              refine b4_unique_56 _ (b4_unique_61 _ _ (ih (i + 1) (by omega) 1 (Or.inl ⟨rfl, fun l hl => ?_⟩)))
              by_cases e : l = i
              · subst e; exact g
              · exact hb l (by omega)
          · exact b4_unique_37 _ _ ⟨by decide, by decide⟩ (fun _ => no hb) (fun g => absurd rfl g)
      exact lp 16 0 rfl 1 (Or.inl ⟨rfl, fun l hl => by omega⟩)
  · refine b4_unique_5 _ ⟨by decide, by decide⟩ (fun _ => ?_) (fun g => absurd rfl g)
    rcases hr with ⟨rfl, -⟩ | ⟨g, -⟩
    · refine b4_unique_12 (b4_unique_13 _ (by rw [up_at]; exact ⟨by decide, by decide⟩) (fun _ => b4_unique_27 (b4_unique_28 _ ?_)) (fun g => by rw [up_at] at g; exact absurd g (by decide)))
      have lp : ∀ m i : Nat, i + m = 16 → Wp (d + 1) Y4_unique SM 31 [some (vr 0), some (vi 0), some (vi (i : Int))] [] (up ρ1 0 0 1) (qi fun z' ρ' => ρ' 0 0 = ((1 : Nat) : Int) ∧ (1 = 0 → z' = z) ∧ RelE ρ' σ') (fun _ _ _ _ => False) := by
        intro m
        induction m with
        | zero =>
          intro i hi
          exact b4_unique_31 _ _ ⟨by omega, by omega⟩ (fun _ => b4_unique_68 _ (Or.inl rfl) ⟨0, rfl, up_at, fun g => absurd g (by decide), D, P, h.thr⟩) (fun g => absurd g (by omega))
        | succ m ih =>
          intro i hi
          exact b4_unique_31 _ _ ⟨by omega, by omega⟩ (fun g => absurd g (by omega)) (fun _ => b4_unique_37 _ _ ⟨by decide, by decide⟩ (fun _ => b4_unique_60 _ (b4_unique_61 _ _ (ih (i + 1) (by omega)))) (fun g => absurd rfl g))
      exact lp 16 0 rfl
    · exact absurd g hT
theorem mok_number {b a w : Int} (h : Rel ρ σ D P) (hb : b = 0 ∨ b = 1) (ha : in32 a) (hw : w = 0 ∨ w = 1) (hr : rNumber σ b a w k z σ') : Ok (d + 1) Y4_number SM [vr 0, vi b, vi a, vi w] ρ (ql fun z' ρ' => ρ' 0 0 = k ∧ (k = 0 → z' = z) ∧ RelE ρ' σ') := by
  refine Ok.ofWp (by decide) (Nat.le_of_ble_eq_true rfl) ?_
  obtain ⟨hx, hm, hS⟩ := id h
  have P4 := hx.2.1
  have D4 := hx.1.1
  obtain ⟨rfl, hr⟩ := hr
  refine b4_number_0 (d := d) _ _ _ (mok_hasTable h) (fun z0 ρ1 hz => ?_)
  obtain ⟨rfl, hz⟩ := hz
  have stop : ∀ c : Nat, c ≠ 0 → c < 10 → c = k → Wp (d + 1) Y4_number SM 40 [some (vr 0), some (vi b), some (vi a), some (vi w), none] [vi (c : Int), vr 0] ρ1 (ql fun z' ρ' => ρ' 0 0 = k ∧ (k = 0 → z' = z) ∧ RelE ρ' σ') (fun _ _ _ _ => False) := by
    rintro c c0 c10 rfl
    exact b4_number_40 _ _ _ _ (by rw [up_at]; exact ⟨by omega, by omega⟩) (fun g => by rw [up_at] at g; omega) (fun _ => b4_number_50 ⟨0, rfl, up_at, fun g => absurd g c0, D, P, h.thr⟩)
  rcases hz with ⟨rfl, hT⟩ | ⟨rfl, hT⟩
  · refine b4_number_5 _ _ _ _ ⟨by decide, by decide⟩ (fun _ => ?_) (fun g => absurd g (by decide))
    rcases hr with ⟨-, g⟩ | ⟨-, hr⟩
    · exact absurd hT g
    · have e1 : ρ1 0 1 = σ' 0 0 := by rw [hm.1, hx.1.2.1]
      have e2 : ρ1 0 2 = σ' 0 1 := by rw [hm.2.1, hx.2.2.1]
      obtain ⟨i0, i1⟩ := in_DP hx
      have go : isTh σ' b a → Wp (d + 1) Y4_number SM 39 [some (vr 0), some (vi b), some (vi a), some (vi w), none] [vr 0] ρ1 (ql fun z' ρ' => ρ' 0 0 = k ∧ (k = 0 → z' = z) ∧ RelE ρ' σ') (fun _ _ _ _ => False) := by
        intro q3
        refine b4_number_39 _ _ _ (b4_number_40 _ _ _ _ (by rw [up_at]; exact ⟨by decide, by decide⟩) (fun _ => ?_) (fun g => by rw [up_at] at g; exact absurd g (by decide)))
        rcases hr with ⟨-, g⟩ | ⟨-, hr⟩
        · exact absurd q3 g
        have main : plc b a < 8 → Wp (d + 1) Y4_number SM 63 [some (vr 0), none, none, some (vi w), none] [vi (plc b a : Int)] (up ρ1 0 0 0) (ql fun z' ρ' => ρ' 0 0 = k ∧ (k = 0 → z' = z) ∧ RelE ρ' σ') (fun _ _ _ _ => False) := by
          intro hp
          have ep : ((plc b a : Nat) : Int).toNat = plc b a := Int.toNat_natCast _
          have nb := hx.nbd hT _ hp
          have tn := ((hS hT.1).2.2.1 hT.2).2 _ hp
          have t14 : up ρ1 0 0 0 14 (plc b a) = σ' 16 (plc b a) := by rw [up_nr (by decide)]; exact tn.1
          refine b4_number_63 _ _ ⟨by omega, by omega⟩ (by rw [ep, t14]; exact ⟨by omega, by omega⟩) (fun g => ?_) (fun g => ?_)
          · rw [ep, t14] at g
            rcases hr with ⟨-, g2⟩ | ⟨rfl, -, rfl⟩
            · exact absurd g2 g
            refine b4_number_82 _ _ (b4_number_83 _ _ _ (by rw [up_at]; exact ⟨by decide, by decide⟩) (fun _ => ?_) (fun g => by rw [up_at] at g; exact absurd g (by decide)))
            refine b4_number_97 _ _ ⟨by omega, by omega⟩ (fun g => ?_) (fun g => ?_)
            · refine b4_number_111 _ ⟨by omega, by omega⟩ (b4_number_118 _ ⟨_, rfl, up_at, fun _ => ?_, D, P, h.thr.thr⟩)
              rw [if_pos g, ep, up_nr (by decide)]; exact t14
            · refine b4_number_101 _ ⟨by omega, by omega⟩ (b4_number_118 _ ⟨_, rfl, up_at, fun _ => ?_, D, P, h.thr.thr⟩)
              rw [if_neg g, ep, up_nr (by decide), up_nr (by decide)]; exact tn.2
          · rw [ep, t14] at g
            rcases hr with ⟨rfl, -⟩ | ⟨-, g2, -⟩
            · exact b4_number_78 _ _ (b4_number_83 _ _ _ (by rw [up_at]; exact ⟨by decide, by decide⟩) (fun g => by rw [up_at] at g; exact absurd g (by decide)) (fun _ => b4_number_93 (b4_number_118 _ ⟨0, rfl, up_at, fun g => absurd g (by decide), D, P, h.thr.thr⟩)))
            · omega
        have q5 := q3
        unfold isTh at q5
        rcases hb with rfl | rfl
        · rw [if_pos rfl, hx.1.2.1] at q5
          have e : plc 0 a = a.toNat := by unfold plc; rw [if_pos rfl]
          have m := main (by rw [e]; omega)
          rw [e, show ((a.toNat : Nat) : Int) = a by omega] at m
          exact b4_number_52 _ _ _ ⟨by decide, by decide⟩ (fun _ => b4_number_62 _ _ m) (fun g => absurd rfl g)
        · rw [if_neg (show ¬ (1 : Int) = 0 by decide), hx.2.2.1] at q5
          have e : plc 1 a = 4 + a.toNat := by unfold plc; rw [if_neg (show ¬ (1 : Int) = 0 by decide)]
          have m := main (by rw [e]; omega)
          rw [e, show ((4 + a.toNat : Nat) : Int) = 4 + a by omega] at m
          exact b4_number_52 _ _ _ ⟨by decide, by decide⟩ (fun g => absurd g (by decide)) (fun _ => b4_number_56 _ _ m)
      have bad : ¬ isTh σ' b a → Wp (d + 1) Y4_number SM 35 [some (vr 0), some (vi b), some (vi a), some (vi w), none] [vr 0] ρ1 (ql fun z' ρ' => ρ' 0 0 = k ∧ (k = 0 → z' = z) ∧ RelE ρ' σ') (fun _ _ _ _ => False) := by
        intro q3
        rcases hr with ⟨rfl, -⟩ | ⟨g, -⟩
        · exact b4_number_35 _ _ _ (stop 2 (by decide) (by decide) rfl)
        · exact absurd g q3
      refine b4_number_12 _ _ _ ha (fun g => bad (fun q => by have := q.1; omega)) (fun g => ?_)
      rcases hb with rfl | rfl
      · refine b4_number_16 _ _ _ ⟨by decide, by decide⟩ (fun _ => b4_number_28 _ _ _ _ (b4_number_32 _ _ _ _ _ ha (by rw [e1]; exact i0) (fun g2 => go ⟨g, ?_⟩) (fun g2 => bad (fun q => ?_)))) (fun g => absurd rfl g)
        · rw [if_pos rfl, ← e1]; exact g2
        · have := q.2
          rw [if_pos rfl, ← e1] at this
          omega
      · refine b4_number_16 _ _ _ ⟨by decide, by decide⟩ (fun g => absurd g (by decide)) (fun _ => b4_number_21 _ _ _ _ (b4_number_32 _ _ _ _ _ ha (by rw [e2]; exact i1) (fun g2 => go ⟨g, ?_⟩) (fun g2 => bad (fun q => ?_))))
        · rw [if_neg (show ¬ (1 : Int) = 0 by decide), ← e2]; exact g2
        · have := q.2
          rw [if_neg (show ¬ (1 : Int) = 0 by decide), ← e2] at this
          omega
  · refine b4_number_5 _ _ _ _ ⟨by decide, by decide⟩ (fun g => absurd rfl g) (fun _ => ?_)
    rcases hr with ⟨rfl, -⟩ | ⟨g, -⟩
    · exact b4_number_8 _ _ _ (stop 1 (by decide) (by decide) rfl)
    · exact absurd g hT
end MG
