/-! ===== the class: the whole filling ===== -/
section XF
variable {d : Nat} {σ : HP} {Q : MQt} {X : MXt}
theorem ok_fill {D : Nat} (hD : D ≤ 4) (hc : ∀ l, l < 16 → 0 ≤ σ 5 l ∧ σ 5 l ≤ 500) (hcD : ∀ l, l < 16 → D ≤ l / 4 → σ 5 l = 0) (hs : ∀ e, e < 4 → 0 ≤ σ 1 e ∧ σ 1 e ≤ 20) (hsD : ∀ e, e < 4 → D ≤ e → σ 1 e = 0) (hsh : ∀ p, p < 4 → 0 ≤ σ 7 p ∧ σ 7 p ≤ 20) (heq : sm 4 (σ 7) = sm 4 (σ 1)) (hnb : ∀ s, 1 ≤ s → s < 2 ^ D → ¬ badS (σ 5) (σ 1) (σ 7) s) :
    Ok (d + 7) Y0_fill SX [vr 10, vr 5, vr 8, vr 1, vr 7] σ (qv fun σ' => (∀ r, r ≠ 8 → r ≠ 11 → σ' r = σ r) ∧ fitT (σ 5) (σ 1) (σ 7) (σ' 8)) := by
  refine Ok.ofWp (by decide) (Nat.le_of_ble_eq_true rfl) ?_
  have l2 : ∀ x : Nat, x < 4 → ∀ k s : Nat, (s : Int) + k = σ 1 x → ∀ τ : HP, (∀ r, r ≠ 8 → r ≠ 11 → τ r = σ r) → FB τ → (∀ e, e < 4 → row (τ 8) e = if e < x then σ 1 e else if e = x then (s : Int) else 0) →
      (∀ τ' : HP, (∀ r, r ≠ 8 → r ≠ 11 → τ' r = σ r) → FB τ' → (∀ e, e < 4 → row (τ' 8) e = if e < x + 1 then σ 1 e else 0) → Wp (d + 7) Y0_fill SX 71 [some (vr 10), some (vr 5), some (vr 8), some (vr 1), none, some (vi (x : Int)), none] [] τ' (qv fun σ' => (∀ r, r ≠ 8 → r ≠ 11 → σ' r = σ r) ∧ fitT (σ 5) (σ 1) (σ 7) (σ' 8)) (fun _ _ _ _ => False)) →
      Wp (d + 7) Y0_fill SX 29 [some (vr 10), some (vr 5), some (vr 8), some (vr 1), none, some (vi (x : Int)), some (vi (s : Int))] [] τ (qv fun σ' => (∀ r, r ≠ 8 → r ≠ 11 → σ' r = σ r) ∧ fitT (σ 5) (σ 1) (σ 7) (σ' 8)) (fun _ _ _ _ => False) := by
    intro x hx k
    induction k with
    | zero =>
      intro s hsk τ h0 hF hr K
      have hsx := hs x hx
      have e1 : τ 1 x = σ 1 x := by rw [h0 1 (by decide) (by decide)]
      refine b0_fill_29 _ _ ⟨by omega, by omega⟩ ⟨by omega, by omega⟩ (show in32 (τ 1 x) from by rw [e1]; exact ⟨by omega, by omega⟩) (fun _ => K τ h0 hF (fun e he => ?_)) (fun q => absurd q (by show ¬ _ < τ 1 x; omega))
      rw [hr e he]
      by_cases a : e < x
      · rw [if_pos a, if_pos (by omega)]
      · rw [if_neg a]
        by_cases b : e = x
        · rw [if_pos b, if_pos (by omega), b]; omega
        · rw [if_neg b, if_neg (by omega)]
    | succ k ih =>
      intro s hsk τ h0 hF hr K
      have hsx := hs x hx
      have e1 : τ 1 = σ 1 := h0 1 (by decide) (by decide)
      have e5 : τ 5 = σ 5 := h0 5 (by decide) (by decide)
      have e7 : τ 7 = σ 7 := h0 7 (by decide) (by decide)
      refine b0_fill_29 _ _ ⟨by omega, by omega⟩ ⟨by omega, by omega⟩ (show in32 (τ 1 x) from by rw [e1]; exact ⟨by omega, by omega⟩) (fun q => absurd q (by show ¬ τ 1 x ≤ _; rw [e1]; omega)) (fun _ => ?_)
      have next : ∀ τ' : HP, (∃ A, MR τ τ' x A) → Wp (d + 7) Y0_fill SX 65 [some (vr 10), some (vr 5), some (vr 8), some (vr 1), none, some (vi (x : Int)), some (vi (s : Int))] [] τ' (qv fun σ' => (∀ r, r ≠ 8 → r ≠ 11 → σ' r = σ r) ∧ fitT (σ 5) (σ 1) (σ 7) (σ' 8)) (fun _ _ _ _ => False) := by
        rintro τ' ⟨A, hm⟩
        refine b0_fill_65 _ _ (ih (s + 1) (by omega) τ' (fun r a b => by rw [hm.1 r a b]; exact h0 r a b) (hm.fb hF) (fun e he => ?_) K)
        rw [hm.2.2.2.1 e he, hr e he]
        by_cases a : e < x
        · rw [if_pos a, if_pos a, if_neg (by omega)]; omega
        · rw [if_neg a, if_neg a]
          by_cases b : e = x
          · rw [if_pos b, if_pos b, if_pos b]; omega
          · rw [if_neg b, if_neg b, if_neg b]; omega
      refine b0_fill_38 (d := d + 6) _ _ (ok_takeRoom (d := d + 5) hx hF) (fun z τ' hz => ?_)
      rcases hz with ⟨rfl, rfl, hno⟩ | ⟨rfl, p, hp, g1, g2, rfl⟩
      · refine b0_fill_49 _ _ _ ⟨by decide, by decide⟩ (fun q => absurd rfl q) (fun _ => ?_)
        refine b0_fill_52 (d := d + 6) _ _ (ok_makeRoom 4 d τ' x 0 hx (by omega) (by decide) hF) (fun z τ2 hz => ?_)
        refine b0_fill_64 _ _ _ (next τ2 ?_)
        rcases hz with ⟨-, -, hfl⟩ | ⟨-, hm⟩
        · exfalso
          have hxD : x < D := by
            apply Classical.byContradiction
            intro hn
            have := hsD x hx (by omega)
            omega
          rw [e5] at hno hfl
          obtain ⟨A, a1, a2, a3⟩ := fail_bad (sz := σ 1) (sh := σ 7) hD hx (fun l hl => (hF.2.1 l hl).1) (fun l hl hz => (hF.2.1 l hl).2 (by rw [e5]; exact hz)) (fun l hl => (hc l hl).1) hcD (fun p hp => by
            have := hF.2.2 p hp
            rw [e7] at this
            exact ⟨this.1, this.2.1⟩) (fun e he => by
            rw [hr e he]
            have := hs e he
            split
            · omega
            · split
              · next q => rw [q]; omega
              · omega) (by rw [hr x hx, if_neg (by omega), if_pos rfl]; omega) hxD hno hfl
          exact hnb A a1 a2 a3
        · exact ⟨0, hm⟩
      · exact b0_fill_49 _ _ _ ⟨by decide, by decide⟩ (fun _ => next _ ⟨0, gv_MR hx hp hF g1 g2 0⟩) (fun q => absurd q (by decide))
  have l1 : ∀ k x : Nat, x + k = 4 → ∀ τ : HP, (∀ r, r ≠ 8 → r ≠ 11 → τ r = σ r) → FB τ → (∀ e, e < 4 → row (τ 8) e = if e < x then σ 1 e else 0) →
      Wp (d + 7) Y0_fill SX 20 [some (vr 10), some (vr 5), some (vr 8), some (vr 1), none, some (vi (x : Int)), none] [] τ (qv fun σ' => (∀ r, r ≠ 8 → r ≠ 11 → σ' r = σ r) ∧ fitT (σ 5) (σ 1) (σ 7) (σ' 8)) (fun _ _ _ _ => False) := by
    intro k
    induction k with
    | zero =>
      intro x hx τ h0 hF hr
      have e : x = 4 := by omega
      subst e
      have e5 : τ 5 = σ 5 := h0 5 (by decide) (by decide)
      have e7 : τ 7 = σ 7 := h0 7 (by decide) (by decide)
      refine b0_fill_20 _ ⟨by omega, by omega⟩ (fun _ => b0_fill_77 ⟨rfl, h0, fun l hl => (hF.2.1 l hl).1, fun l hl hz => (hF.2.1 l hl).2 (by rw [e5]; exact hz), fun e he => ?_, fun p hp => ?_⟩) (fun q => absurd q (by omega))
      · have := hr e he
        rw [if_pos he] at this
        unfold row at this
        exact this
      · have r0 := hr 0 (by omega)
        have r1 := hr 1 (by omega)
        have r2 := hr 2 (by omega)
        have r3 := hr 3 (by omega)
        rw [if_pos (by omega)] at r0 r1 r2 r3
        have c0 := hF.2.2 0 (by omega)
        have c1 := hF.2.2 1 (by omega)
        have c2 := hF.2.2 2 (by omega)
        have c3 := hF.2.2 3 (by omega)
        rw [e7] at c0 c1 c2 c3
        rw [sm4, sm4] at heq
        have cp := hF.2.2 p hp
        rw [e7] at cp
        unfold row at r0 r1 r2 r3
        simp only [Nat.mul_zero, Nat.zero_add, Nat.mul_one, Nat.reduceMul, Nat.reduceAdd] at r0 r1 r2 r3
        have q0 := c0.2.1
        have q1 := c1.2.1
        have q2 := c2.2.1
        have q3 := c3.2.1
        have qp := cp.2.1
        unfold col at q0 q1 q2 q3 qp
        simp only [Nat.add_zero, Nat.reduceAdd] at q0 q1 q2 q3
        have z0 : τ 11 0 = 0 := by omega
        have z1 : τ 11 1 = 0 := by omega
        have z2 : τ 11 2 = 0 := by omega
        have z3 : τ 11 3 = 0 := by omega
        have zp : τ 11 p = 0 := by
          rcases (show p = 0 ∨ p = 1 ∨ p = 2 ∨ p = 3 by omega) with rfl | rfl | rfl | rfl <;> assumption
        omega
    | succ k ih =>
      intro x hx τ h0 hF hr
      have hx4 : x < 4 := by omega
      have hsx := hs x hx4
      refine b0_fill_20 _ ⟨by omega, by omega⟩ (fun q => absurd q (by omega)) (fun _ => b0_fill_26 _ ?_)
      refine l2 x hx4 (σ 1 x).toNat 0 (by omega) τ h0 hF (fun e he => ?_) (fun τ' h0' hF' hr' => b0_fill_71 _ (ih (x + 1) (by omega) τ' h0' hF' hr'))
      rw [hr e he]
      by_cases a : e < x
      · rw [if_pos a, if_pos a]
      · rw [if_neg a, if_neg a]
        split <;> rfl
  refine b0_fill_0 (d := d + 6) ok_afill (fun τ hτ => ?_)
  obtain ⟨h1, h2⟩ := hτ
  refine b0_fill_5 (b0_fill_17 (l1 4 0 rfl _ (fun r a b => ?_) ?_ (fun e he => ?_)))
  · funext j
    simp only [cpy, if_neg (show ¬ (r = 11 ∧ j < 4) from fun z => b z.1)]
    rw [h1 r a]
  · have c8 : ∀ l, l < 16 → cpy τ 7 11 4 8 l = 0 := fun l hl => by simp [cpy, h2 l hl]
    have c5 : ∀ l, cpy τ 7 11 4 5 l = σ 5 l := fun l => by simp [cpy, h1 5 (by decide)]
    have c7 : ∀ l, cpy τ 7 11 4 7 l = σ 7 l := fun l => by simp [cpy, h1 7 (by decide)]
    have c11 : ∀ l, l < 4 → cpy τ 7 11 4 11 l = σ 7 l := fun l hl => by simp [cpy, hl, h1 7 (by decide)]
    refine ⟨fun l hl => by rw [c5]; exact hc l hl, fun l hl => by rw [c8 l hl]; exact ⟨by omega, fun _ => rfl⟩, fun p hp => ?_⟩
    have := hsh p hp
    unfold col
    rw [c11 p hp, c7, c8 p (by omega), c8 (4 + p) (by omega), c8 (8 + p) (by omega), c8 (12 + p) (by omega)]
    omega
  · have c8 : ∀ l, l < 16 → cpy τ 7 11 4 8 l = 0 := fun l hl => by simp [cpy, h2 l hl]
    unfold row
    rw [c8 (4 * e) (by omega), c8 (4 * e + 1) (by omega), c8 (4 * e + 2) (by omega), c8 (4 * e + 3) (by omega), if_neg (by omega)]
    rfl
end XF
