/-! ===== the model: solving; what blocks ===== -/
section MP
variable {d : Nat} {σ ρ σ' : HP} {Q : MQt} {X : MXt} {D P k : Nat} {z : Int}
theorem Rel.mk2 {ρ' : HP} (h : Rel ρ σ D P) (hx : XI σ' D P) (i0 : ∀ j, j < 4 → σ' 0 j = σ 0 j) (i1 : σ' 1 = σ 1) (i2 : σ' 2 = σ 2) (i3 : σ' 3 = σ 3) (i4 : σ' 4 = σ 4) (r1 : ρ' 1 = ρ 1) (r2 : ρ' 2 = ρ 2) (r3 : ρ' 3 = ρ 3) (r7 : ρ' 7 = ρ 7) (r10 : ρ' 10 = ρ 10) (r0 : ∀ j, (j = 1 ∨ j = 2 ∨ j = 5 ∨ j = 6 ∨ j = 14) → ρ' 0 j = ρ 0 j) (r4 : ∀ l, l < 16 → ρ' 4 l = cF σ l) (r8 : ρ' 0 8 = σ' 0 11) (r9 : ρ' 0 9 = 0 ∨ ρ' 0 9 = 1) (hS : MSol ρ' σ') : Rel ρ' σ' D P := by
  obtain ⟨a1, a2, a3, a4, a5, a6, a7, a8, a9, a10, a11, a12⟩ := h.2.1
  refine ⟨hx, ⟨?_, ?_, ?_, ?_, ?_, ?_, ?_, ?_, ?_, ?_, r8, r9⟩, hS⟩
  · rw [r0 1 (by simp)]; exact a1
  · rw [r0 2 (by simp)]; exact a2
  · rw [r0 5 (by simp), i0 3 (by decide)]; exact a3
  · rw [r0 6 (by simp), i0 2 (by decide)]; exact a4
  · rw [r1, i1]; exact a5
  · rw [r2, r10, i2, i3]; exact a6
  · rw [r3]; exact a7
  · rw [r3, i4]; exact a8
  · intro l hl q; rw [r4 l hl]; exact cF_out h.1 l hl (Or.inl q)
  · unfold RG at a10 ⊢; rw [r0 14 (by simp), r7]; exact a10
theorem mok_solve (h : Rel ρ σ D P) (hr : rSolve σ D P k z σ') : Ok (d + 4) Y4_solve SM [vr 0] ρ (qi fun z' ρ' => ρ' 0 0 = k ∧ (k = 0 → z' = z) ∧ RelE ρ' σ') := by
  refine Ok.ofWp (by decide) (Nat.le_of_ble_eq_true rfl) ?_
  obtain ⟨hx, hm, hS⟩ := id h
  have P4 := hx.2.1
  have D4 := hx.1.1
  refine b4_solve_0 (d := d + 3) (mok_shareAll (d := d + 1) hx hm) (fun z0 ρ1 hz => ?_)
  obtain ⟨s1, s2, s3, hz⟩ := hz
  rcases hz with ⟨rfl, hw, s6⟩ | ⟨rfl, hw⟩
  · refine b4_solve_5 _ ⟨by decide, by decide⟩ (fun g => absurd g (by decide)) (fun _ => ?_)
    rcases hr with ⟨-, g, -⟩ | ⟨rfl, -, hx', f11, rfl, i0, i1, i2, i3, i4⟩
    · exact absurd (no_some g hw) id
    refine b4_solve_8 (b4_solve_13 _ (by rw [up_at]; exact ⟨by decide, by decide⟩) (fun _ => ?_) (fun g => by rw [up_at] at g; exact absurd g (by decide)))
    have ecF := cF_i i0 i2
    have esF := sF_i i0 i1 i2 i4 D
    have u0 : ∀ j, j ≠ 0 → j ≠ 8 → up (up ρ1 0 0 0) 0 8 1 0 j = ρ 0 j := fun j a b => by rw [up_nj b, up_nj a, s1 0 (by decide) (by decide) (by decide)]
    have ur : ∀ r, r ≠ 0 → up (up ρ1 0 0 0) 0 8 1 r = ρ1 r := fun r a => by rw [up_ne a, up_ne a]
    have sol := hx'.2.2.2.2.2.2.2.2.2.2 f11
    refine b4_solve_25 (d := d + 3) (mok_fill (d := d + 1) (σ := σ) (D := D) (P := P) hx (by rw [u0 1 (by decide) (by decide)]; exact hm.1) (by rw [u0 2 (by decide) (by decide)]; exact hm.2.1) (fun e he => by rw [ur 1 (by decide), s1 1 (by decide) (by decide) (by decide)]; exact hm.2.2.2.2.1 e he) (fun l hl => by rw [ur 4 (by decide)]; exact s2 l hl) (fun p hp => by rw [ur 6 (by decide)]; exact s6 p hp)) (fun z1 ρ2 hz => ?_)
    obtain ⟨k1, k0, hz⟩ := hz
    have v0 : ∀ j, j ≠ 0 → j ≠ 8 → j ≠ 10 → j ≠ 22 → ρ2 0 j = ρ 0 j := fun j a b c e => by rw [k0 j c e]; exact u0 j a b
    have v00 : ρ2 0 0 = 0 := by rw [k0 0 (by decide) (by decide), up_nj (by decide), up_at]
    have v08 : ρ2 0 8 = 1 := by rw [k0 8 (by decide) (by decide), up_at]
    have vR : ∀ r, r ≠ 0 → r ≠ 8 → r ≠ 12 → r ≠ 13 → r ≠ 4 → r ≠ 5 → r ≠ 6 → ρ2 r = ρ r := fun r a b c e f g i => by rw [k1 r a b c e, ur r a]; exact s1 r f g i
    have v4 : ∀ l, l < 16 → ρ2 4 l = cF σ l := fun l hl => by rw [k1 4 (by decide) (by decide) (by decide) (by decide), ur 4 (by decide)]; exact s2 l hl
    rcases hz with ⟨rfl, A, e10, A1, A2, hbad, hmin⟩ | ⟨rfl, nb, hfit⟩
    · -- a block
      have hK : σ' 0 12 = 0 ∧ BK σ' D := by
        rcases sol.2 with ⟨-, g, -⟩ | g
        · unfold nobad at g
          rw [ecF, esF, i1] at g
          exact absurd hbad (g A A1 A2)
        · exact g
      obtain ⟨f12, A', B', e13, e14, A1', hb'⟩ := hK
      have eA : A' = A := by
        rw [ecF, esF, i1] at hb'
        rcases hb' with ⟨g, -⟩ | ⟨-, g2, g3, g4, -⟩
        · omega
        · rcases Nat.lt_trichotomy A' A with l | l | l
          · exact absurd g3 (hmin A' A1' l)
          · exact l
          · exact absurd hbad (g4 A A1 l)
      subst eA
      refine b4_solve_35 _ (Or.inl rfl) (by rw [up_at]; exact ⟨by decide, by decide⟩) (fun g => absurd up_at g) (fun _ => b4_solve_45 ⟨0, rfl, ?_, fun _ => f12.symm, D, P, ?_⟩)
      · rw [up_nj (by decide)]; exact v00
      · refine h.mk2 hx' i0 i1 i2 i3 i4 ?_ ?_ ?_ ?_ ?_ (fun j hj => ?_) (fun l hl => ?_) ?_ (Or.inl up_at) (fun _ => ⟨?_, fun l hl => ?_, fun g => ?_, fun _ => ?_⟩)
        · rw [up_ne (by decide)]; exact vR 1 (by decide) (by decide) (by decide) (by decide) (by decide) (by decide) (by decide)
        · rw [up_ne (by decide)]; exact vR 2 (by decide) (by decide) (by decide) (by decide) (by decide) (by decide) (by decide)
        · rw [up_ne (by decide)]; exact vR 3 (by decide) (by decide) (by decide) (by decide) (by decide) (by decide) (by decide)
        · rw [up_ne (by decide)]; exact vR 7 (by decide) (by decide) (by decide) (by decide) (by decide) (by decide) (by decide)
        · rw [up_ne (by decide)]; exact vR 10 (by decide) (by decide) (by decide) (by decide) (by decide) (by decide) (by decide)
        · rw [up_nj (by omega)]; exact v0 j (by omega) (by omega) (by omega) (by omega)
        · rw [up_nr (by decide)]; exact v4 l hl
        · rw [up_nj (by decide), v08, f11]
        · rw [up_at, f12]
        · rw [up_nr (by decide), ecF]; exact v4 l hl
        · rw [f12] at g; exact absurd g (by decide)
        · rw [up_nj (by decide), e10, e13]
    · -- tables
      have hT : σ' 0 12 = 1 ∧ TB σ' D := by
        rcases sol.2 with ⟨g, -, g2⟩ | ⟨-, A', B', -, -, A1', hb'⟩
        · exact ⟨g, g2⟩
        · rw [ecF, esF, i1] at hb'
          rcases hb' with ⟨g, -⟩ | ⟨-, g2, g3, -⟩
          · omega
          · exact absurd g3 (nb A' A1' g2)
      obtain ⟨f12, tf, tb, lf, lb, tn⟩ := hT
      rw [ecF, esF, i1] at tf lf
      rw [ecF] at tb lb tn
      have hc := cF_bd hx.1
      have hs := hx.1.2.2.2.2.1
      have hs20 := hx.1.2.2.2.2.2.1
      rw [sum4] at hs20
      have sz0 : ∀ e, e < 4 → 0 ≤ σ 1 e := fun e he => (hs e he).1
      refine b4_solve_35 _ (Or.inr rfl) (by rw [up_at]; exact ⟨by decide, by decide⟩) (fun _ => ?_) (fun g => by rw [up_at] at g; exact absurd g (by decide))
      have w4 : ∀ l, l < 16 → up ρ2 0 9 1 4 l = cF σ l := fun l hl => by rw [up_nr (by decide)]; exact v4 l hl
      have w4b : ∀ l, l < 16 → 0 ≤ up ρ2 0 9 1 4 l ∧ up ρ2 0 9 1 4 l ≤ 500 := fun l hl => by rw [w4 l hl]; exact hc l hl
      have hG : ∀ τ : HP, τ 0 14 = ρ 0 14 → τ 7 = ρ 7 → RG τ := fun τ a b => by
        have a10 := hm.2.2.2.2.2.2.2.2.2.1
        unfold RG at a10 ⊢; rw [a, b]; exact a10
      have w14 : up ρ2 0 9 1 0 14 = ρ 0 14 := by rw [up_nj (by decide)]; exact v0 14 (by decide) (by decide) (by decide) (by decide)
      have w7 : up ρ2 0 9 1 7 = ρ 7 := by rw [up_ne (by decide)]; exact vR 7 (by decide) (by decide) (by decide) (by decide) (by decide) (by decide) (by decide)
      have w8f : fitT (up ρ2 0 9 1 4) (σ 1) (sF σ D) (up ρ2 0 9 1 8) := by
        rw [up_ne (show (8 : Nat) ≠ 0 by decide)]; exact fit_c w4 hfit
      refine b4_solve_47 (d := d + 3) (mok_better (d := d) (x := 8) (hG _ w14 w7) rfl (by decide) (by decide) w4b w8f sz0 hs20) (fun ρ3 h3 => ?_)
      obtain ⟨q3, f3, o3⟩ := h3
      refine b4_solve_55 ?_
      -- the copy
      have cp : ∀ m i : Nat, i + m = 16 → ∀ τ : HP, (∀ r, r ≠ 9 → τ r = ρ3 r) → (∀ l, l < i → τ 9 l = ρ3 8 l) → Wp (d + 3 + 1) Y4_solve SM 57 [some (vr 0), some (vi (i : Int))] [] τ (qi fun z' ρ' => ρ' 0 0 = ((0 : Nat) : Int) ∧ (0 = 0 → z' = σ' 0 12) ∧ RelE ρ' σ') (fun _ _ _ _ => False) := by
        intro m
        induction m with
        | zero =>
          intro i hi τ t1 t9
          have e : i = 16 := by omega
          subst e
          refine b4_solve_57 _ ⟨by omega, by omega⟩ (fun _ => ?_) (fun g => absurd g (by omega))
          have y4 : τ 4 = up ρ2 0 9 1 4 := by rw [t1 4 (by decide)]; exact q3 4 (by decide)
          have y8 : τ 8 = ρ3 8 := t1 8 (by decide)
          have y14 : τ 0 14 = ρ 0 14 := by rw [t1 0 (by decide), q3 0 (by decide)]; exact w14
          have y7 : τ 7 = ρ 7 := by rw [t1 7 (by decide), q3 7 (by decide)]; exact w7
          refine b4_solve_81 (d := d + 3) (mok_turn (d := d) (x := 8) (b := 1) (w := 1) (Or.inr rfl) rfl (hG _ y14 y7) rfl (by decide) (by decide) (by rw [y4]; exact w4b) (by rw [y4, y8]; exact f3) (by rw [y4, y8]; exact o3) sz0 hs20) (fun ρ4 h4 => ?_)
          obtain ⟨q4, f4, b4⟩ := h4
          have x4 : ρ4 4 = up ρ2 0 9 1 4 := by rw [q4 4 (by decide)]; exact y4
          have x14 : ρ4 0 14 = ρ 0 14 := by rw [q4 0 (by decide)]; exact y14
          have x7 : ρ4 7 = ρ 7 := by rw [q4 7 (by decide)]; exact y7
          have x9 : ∀ l, l < 16 → ρ4 9 l = ρ3 8 l := fun l hl => by rw [q4 9 (by decide)]; exact t9 l hl
          refine b4_solve_90 (d := d + 3) (mok_turn (d := d) (x := 9) (b := 0) (w := 2) (Or.inl rfl) rfl (hG _ x14 x7) rfl (by decide) (by decide) (by rw [x4]; exact w4b) (by rw [x4]; exact fit_e (fun _ _ => rfl) (fun _ _ => rfl) (fun _ _ => rfl) x9 f3) (by rw [x4]; exact obey_c (fun _ _ => rfl) x9 o3) sz0 hs20) (fun ρ5 h5 => ?_)
          obtain ⟨q5, f5, b5⟩ := h5
          rw [y4] at f4 b4
          rw [x4] at f5 b5
          have c0 := c16_nn fun l hl => (hc l hl).1
          have e6 : ∀ l, l < 16 → c16 (cF σ) l = up ρ2 0 9 1 4 l := fun l hl => by rw [c16_lt hl, w4 l hl]
          have e6' : ∀ l, l < 16 → c16 (cF σ) l = cF σ l := fun l hl => c16_lt hl
          have t8 : ∀ l, l < 16 → ρ5 8 l = σ' 8 l := fun l hl => by
            rw [q5 8 (by decide)]
            exact best_one (c := c16 (cF σ)) (sz := σ 1) (sh := sF σ D) (w := 1) (Or.inl rfl) c0 (fit_c e6 f4) (fit_c e6' tf) (best_c e6 (fun _ _ => rfl) b4) (best_c e6' (fun _ _ => rfl) tb) l hl
          have t9' : ∀ l, l < 16 → ρ5 9 l = σ' 9 l := fun l hl =>
            best_one (c := c16 (cF σ)) (sz := σ 1) (sh := sF σ D) (w := 2) (Or.inr rfl) c0 (fit_c e6 f5) (fit_c e6' lf) (best_c e6 (fun _ _ => rfl) b5) (best_c e6' (fun _ _ => rfl) lb) l hl
          have z0 : ∀ j, j ≠ 0 → j ≠ 8 → j ≠ 9 → j ≠ 10 → j ≠ 22 → ρ5 0 j = ρ 0 j := fun j a b c e f => by rw [q5 0 (by decide), q4 0 (by decide), t1 0 (by decide), q3 0 (by decide), up_nj c]; exact v0 j a b e f
          have zr : ∀ r, r ≠ 0 → r ≠ 8 → r ≠ 9 → r ≠ 12 → r ≠ 13 → r ≠ 4 → r ≠ 5 → r ≠ 6 → ρ5 r = ρ r := fun r a b c e f g i j => by rw [q5 r c, q4 r b, t1 r c, q3 r b, up_ne a]; exact vR r a b e f g i j
          have z4 : ∀ l, l < 16 → ρ5 4 l = cF σ l := fun l hl => by rw [q5 4 (by decide), x4]; exact w4 l hl
          have s20 : ∀ e, e < 4 → σ 1 e ≤ 20 := fun e he => (hs e he).2
          refine b4_solve_99 (d := d + 3) (mok_numberAll (d := d + 1) (D := D) (P := P) (c := cF σ) (t := σ' 8) (by rw [z0 1 (by decide) (by decide) (by decide) (by decide) (by decide)]; exact hm.1) (by rw [z0 2 (by decide) (by decide) (by decide) (by decide) (by decide)]; exact hm.2.1) D4 P4 z4 t8 (best_obey tb) hc (fit_20 tf s20) (fit_z (fun l hl => (hc l hl).1) tf) (cF_out hx)) (fun ρ6 h6 => ?_)
          obtain ⟨q6, n6⟩ := h6
          refine b4_solve_103 ⟨1, rfl, ?_, fun _ => f12.symm, D, P, ?_⟩
          · rw [q6 0 (by decide) (by decide), q5 0 (by decide), q4 0 (by decide), t1 0 (by decide), q3 0 (by decide), up_nj (by decide)]; exact v00
          · have z08 : ρ6 0 8 = 1 := by rw [q6 0 (by decide) (by decide), q5 0 (by decide), q4 0 (by decide), t1 0 (by decide), q3 0 (by decide), up_nj (by decide)]; exact v08
            have z09 : ρ6 0 9 = 1 := by rw [q6 0 (by decide) (by decide), q5 0 (by decide), q4 0 (by decide), t1 0 (by decide), q3 0 (by decide), up_at]
            refine h.mk2 hx' i0 i1 i2 i3 i4 ?_ ?_ ?_ ?_ ?_ (fun j hj => ?_) (fun l hl => ?_) ?_ (Or.inr z09) (fun _ => ⟨?_, fun l hl => ?_, fun g => ⟨fun l hl => ⟨?_, ?_⟩, fun j hj => ?_⟩, fun g => ?_⟩)
            · rw [q6 1 (by decide) (by decide)]; exact zr 1 (by decide) (by decide) (by decide) (by decide) (by decide) (by decide) (by decide) (by decide)
            · rw [q6 2 (by decide) (by decide)]; exact zr 2 (by decide) (by decide) (by decide) (by decide) (by decide) (by decide) (by decide) (by decide)
            · rw [q6 3 (by decide) (by decide)]; exact zr 3 (by decide) (by decide) (by decide) (by decide) (by decide) (by decide) (by decide) (by decide)
            · rw [q6 7 (by decide) (by decide)]; exact zr 7 (by decide) (by decide) (by decide) (by decide) (by decide) (by decide) (by decide) (by decide)
            · rw [q6 10 (by decide) (by decide)]; exact zr 10 (by decide) (by decide) (by decide) (by decide) (by decide) (by decide) (by decide) (by decide)
            · rw [q6 0 (by decide) (by decide)]; exact z0 j (by omega) (by omega) (by omega) (by omega) (by omega)
            · rw [q6 4 (by decide) (by decide)]; exact z4 l hl
            · rw [z08, f11]
            · rw [z09, f12]
            · rw [q6 4 (by decide) (by decide), ecF]; exact z4 l hl
            · rw [q6 8 (by decide) (by decide)]; exact t8 l hl
            · rw [q6 9 (by decide) (by decide)]; exact t9' l hl
            · rw [(tn j hj).1, (tn j hj).2]; exact n6 j hj
            · rw [f12] at g; exact absurd g (by decide)
        | succ m ih =>
          intro i hi τ t1 t9
          refine b4_solve_57 _ ⟨by omega, by omega⟩ (fun g => absurd g (by omega)) (fun _ => b4_solve_63 _ ⟨by omega, by omega⟩ ?_)
          rw [Int.toNat_natCast]
          refine ih (i + 1) (by omega) _ (fun r a => by rw [up_ne a]; exact t1 r a) (fun l hl => ?_)
          by_cases e : l = i
          · subst e; rw [up_at, t1 8 (by decide)]
          · rw [up_nj e]; exact t9 l (by omega)
      exact cp 16 0 rfl ρ3 (fun _ _ => rfl) (fun l hl => by omega)
  · refine b4_solve_5 _ ⟨by decide, by decide⟩ (fun _ => ?_) (fun g => absurd rfl g)
    rcases hr with ⟨rfl, -, hs⟩ | ⟨-, g, -⟩
    · exact b4_solve_12 (b4_solve_13 _ (by rw [up_at]; exact ⟨by decide, by decide⟩) (fun g => by rw [up_at] at g; exact absurd g (by decide)) (fun _ => b4_solve_23 ⟨0, rfl, up_at, fun g => absurd g (by decide), D, P, ms_rel h hs s1 s2⟩))
    · exact absurd (no_some hw g) id
theorem mok_blocks {b a : Int} (h : Rel ρ σ D P) (hb : b = 0 ∨ b = 1) (ha : in32 a) (hr : rBlocks σ D b a k z σ') : Ok (d + 1) Y4_blocks SM [vr 0, vi b, vi a] ρ (qi fun z' ρ' => ρ' 0 0 = k ∧ (k = 0 → z' = z) ∧ RelE ρ' σ') := by
  refine Ok.ofWp (by decide) (Nat.le_of_ble_eq_true rfl) ?_
  obtain ⟨hx, hm, hS⟩ := id h
  have P4 := hx.2.1
  have D4 := hx.1.1
  obtain ⟨rfl, hr⟩ := hr
  have e8 := hm.2.2.2.2.2.2.2.2.2.2.1
  have e9 := hm.2.2.2.2.2.2.2.2.2.2.2
  have g11 := hx.2.2.2.2.2.2.2.2.1
  have g12 := hx.2.2.2.2.2.2.2.2.2.1
  have stop : ∀ c : Nat, c ≠ 0 → c < 10 → c = k → Wp (d + 1) Y4_blocks SM 47 [some (vr 0), some (vi b), some (vi a)] [vi (c : Int), vr 0] ρ (qi fun z' ρ' => ρ' 0 0 = k ∧ (k = 0 → z' = z) ∧ RelE ρ' σ') (fun _ _ _ _ => False) := by
    rintro c c0 c10 rfl
    exact b4_blocks_47 _ _ _ (by rw [up_at]; exact ⟨by omega, by omega⟩) (fun g => by rw [up_at] at g; omega) (fun _ => b4_blocks_57 ⟨0, rfl, up_at, fun g => absurd g c0, D, P, h.thr⟩)
  have no : ¬ blkd σ' → Wp (d + 1) Y4_blocks SM 15 [some (vr 0), some (vi b), some (vi a)] [vr 0] ρ (qi fun z' ρ' => ρ' 0 0 = k ∧ (k = 0 → z' = z) ∧ RelE ρ' σ') (fun _ _ _ _ => False) := by
    intro q
    rcases hr with ⟨rfl, -⟩ | ⟨g, -⟩
    · exact b4_blocks_15 _ _ (stop 1 (by decide) (by decide) rfl)
    · exact absurd g q
  refine b4_blocks_0 _ _ (by rw [e8]; exact ⟨by omega, by omega⟩) (fun q => no (fun g => by have := g.1; omega)) (fun q => ?_)
  have f11 : σ' 0 11 = 1 := by omega
  obtain ⟨m9, m4, -, m10⟩ := hS f11
  refine b4_blocks_8 _ _ ⟨by omega, by omega⟩ (fun q2 => ?_) (fun q2 => no (fun g => by have := g.2; omega))
  have hT : blkd σ' := ⟨f11, by omega⟩
  have e10 := m10 hT.2
  rcases hr with ⟨-, g⟩ | ⟨-, hr⟩
  · exact absurd hT g
  have hK : BK σ' D := by
    rcases (hx.2.2.2.2.2.2.2.2.2.2 f11).2 with ⟨g, -⟩ | ⟨-, g⟩
    · rw [hT.2] at g; exact absurd g (by decide)
    · exact g
  obtain ⟨A, B, e13, e14, A1, hbp⟩ := hK
  have e1 : ρ 0 1 = σ' 0 0 := by rw [hm.1, hx.1.2.1]
  have e2 : ρ 0 2 = σ' 0 1 := by rw [hm.2.1, hx.2.2.1]
  obtain ⟨i0, i1⟩ := in_DP hx
  have bad : ¬ isTh σ' b a → Wp (d + 1) Y4_blocks SM 42 [some (vr 0), some (vi b), some (vi a)] [vr 0] ρ (qi fun z' ρ' => ρ' 0 0 = k ∧ (k = 0 → z' = z) ∧ RelE ρ' σ') (fun _ _ _ _ => False) := by
    intro q3
    rcases hr with ⟨rfl, -⟩ | ⟨-, g, -⟩
    · exact b4_blocks_42 _ _ (stop 2 (by decide) (by decide) rfl)
    · exact absurd g q3
  have go : isTh σ' b a → Wp (d + 1) Y4_blocks SM 46 [some (vr 0), some (vi b), some (vi a)] [vr 0] ρ (qi fun z' ρ' => ρ' 0 0 = k ∧ (k = 0 → z' = z) ∧ RelE ρ' σ') (fun _ _ _ _ => False) := by
    intro q3
    rcases hr with ⟨-, g⟩ | ⟨rfl, -, A', B', A1', hbp', rfl⟩
    · exact absurd q3 g
    have hbp1 : 1 ≤ A ∧ A < 2 ^ D ∧ badS (cF σ') (σ' 1) (sF σ' D) A ∧ (∀ s, 1 ≤ s → s < A → ¬ badS (cF σ') (σ' 1) (sF σ' D) s) ∧ B < 16 ∧ ∀ q, q < 4 → B.testBit q = rchB (cF σ') A q := by
      rcases hbp with ⟨g, -⟩ | g
      · omega
      · exact g
    have hbp2 : 1 ≤ A' ∧ A' < 2 ^ D ∧ badS (cF σ') (σ' 1) (sF σ' D) A' ∧ (∀ s, 1 ≤ s → s < A' → ¬ badS (cF σ') (σ' 1) (sF σ' D) s) ∧ B' < 16 ∧ ∀ q, q < 4 → B'.testBit q = rchB (cF σ') A' q := by
      rcases hbp' with ⟨g, -⟩ | g
      · omega
      · exact g
    have eA : A' = A := by
      rcases Nat.lt_trichotomy A' A with l | l | l
      · exact absurd hbp2.2.2.1 (hbp1.2.2.2.1 A' A1' l)
      · exact l
      · exact absurd hbp1.2.2.1 (hbp2.2.2.2.1 A A1 l)
    subst eA
    have pD : 2 ^ D ≤ 2 ^ 4 := Nat.pow_le_pow_right (by decide) D4
    have A16 : A' < 16 := by omega
    refine b4_blocks_46 _ _ (b4_blocks_47 _ _ _ (by rw [up_at]; exact ⟨by decide, by decide⟩) (fun _ => ?_) (fun g => by rw [up_at] at g; exact absurd g (by decide)))
    have q5 := q3
    unfold isTh at q5
    have u10 : up ρ 0 0 0 0 10 = (A' : Int) := by rw [up_nj (by decide), e10]; exact e13
    rcases hb with rfl | rfl
    · rw [if_pos rfl, hx.1.2.1] at q5
      obtain ⟨n, rfl⟩ : ∃ n : Nat, a = n := ⟨a.toNat, by omega⟩
      have eb := bit_N (a := A') (k := n) (by omega) (by omega)
      refine b4_blocks_59 _ _ ⟨by decide, by decide⟩ (fun _ => ?_) (fun g => absurd rfl g)
      rw [if_pos rfl, Int.toNat_natCast]
      cases q : A'.testBit n with
      | true =>
        rw [q, if_pos rfl] at eb
        rw [if_pos rfl]
        exact b4_blocks_79 _ (by rw [u10, eb]; exact ⟨by decide, by decide⟩) (fun g => by rw [u10, eb] at g; exact absurd rfl g) (fun _ => b4_blocks_91 (b4_blocks_96 _ (Or.inr rfl) ⟨1, rfl, up_at, fun _ => rfl, D, P, h.thr⟩))
      | false =>
        rw [q, if_neg (by decide)] at eb
        rw [if_neg (by decide)]
        exact b4_blocks_79 _ (by rw [u10, eb]; exact ⟨by decide, by decide⟩) (fun _ => b4_blocks_95 (b4_blocks_96 _ (Or.inl rfl) ⟨0, rfl, up_at, fun _ => rfl, D, P, h.thr⟩)) (fun g => by rw [u10, eb] at g; exact absurd g (by decide))
    · rw [if_neg (show ¬ (1 : Int) = 0 by decide), hx.2.2.1] at q5
      obtain ⟨n, rfl⟩ : ∃ n : Nat, a = n := ⟨a.toNat, by omega⟩
      have n4 : n < 4 := by omega
      refine b4_blocks_59 _ _ ⟨by decide, by decide⟩ (fun g => absurd g (by decide)) (fun _ => ?_)
      have u4 : ∀ l, l < 16 → up ρ 0 0 0 4 l = cF σ' l := fun l hl => by rw [up_nr (by decide)]; exact m4 l hl
      have u1 : up ρ 0 0 0 0 1 = D := by rw [up_nj (by decide)]; exact hm.1
      have u2 : up ρ 0 0 0 0 2 = P := by rw [up_nj (by decide)]; exact hm.2.1
      refine b4_blocks_63 (d := d) _ (mok_openLists u1 u2 D4 P4 (fun l hl => by rw [u4 l hl]; exact cF_bd hx.1 l hl)) (fun z1 ρ1 hz => ?_)
      obtain ⟨rfl, O, rfl, O16, hO⟩ := hz
      have co : ∀ l, l < 16 → (0 < cO O l ↔ 0 < cF σ' l) := fun l hl => by
        rw [cO_pos, hO l, u4 l hl]
        constructor
        · intro g; exact g.2.2.2
        · intro g
          have oD : l / 4 < D := by
            by_cases q : l / 4 < D
            · exact q
            · have := cF_out hx l hl (Or.inl (by omega)); omega
          have oP : l % 4 < P := by
            by_cases q : l % 4 < P
            · exact q
            · have := cF_out hx l hl (Or.inr (by omega)); omega
          exact ⟨hl, oD, oP, g⟩
      rw [u10]
      refine b4_blocks_73 (d := d) _ _ _ (mok_isReached hbp1.2.1 u1 D4 n4 O16) (fun z2 ρ2 hz => ?_)
      obtain ⟨rfl, rfl⟩ := hz
      refine b4_blocks_76 _ (b4_blocks_96 _ (by split <;> simp) ⟨_, rfl, up_at, fun _ => ?_, D, P, h.thr⟩)
      rw [if_neg (show ¬ (1 : Int) = 0 by decide), Int.toNat_natCast, hbp2.2.2.2.2.2 n n4, rch_e n4 co]
  refine b4_blocks_19 _ _ ha (fun g => bad (fun q => by have := q.1; omega)) (fun g => ?_)
  rcases hb with rfl | rfl
  · refine b4_blocks_23 _ _ ⟨by decide, by decide⟩ (fun _ => b4_blocks_35 _ _ _ (b4_blocks_39 _ _ _ _ ha (by rw [e1]; exact i0) (fun g2 => go ⟨g, ?_⟩) (fun g2 => bad (fun q => ?_)))) (fun g => absurd rfl g)
    · rw [if_pos rfl, ← e1]; exact g2
    · have := q.2
      rw [if_pos rfl, ← e1] at this
      omega
  · refine b4_blocks_23 _ _ ⟨by decide, by decide⟩ (fun g => absurd g (by decide)) (fun _ => b4_blocks_28 _ _ _ (b4_blocks_39 _ _ _ _ ha (by rw [e2]; exact i1) (fun g2 => go ⟨g, ?_⟩) (fun g2 => bad (fun q => ?_))))
    · rw [if_neg (show ¬ (1 : Int) = 0 by decide), ← e2]; exact g2
    · have := q.2
      rw [if_neg (show ¬ (1 : Int) = 0 by decide), ← e2] at this
      omega
end MP
