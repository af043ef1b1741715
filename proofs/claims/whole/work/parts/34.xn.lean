/-! ===== the class: what it answers ===== -/
section XN
variable {d : Nat} {σ : HP} {Q : MQt} {X : MXt} {D P : Nat}
def someW (σ : HP) (D : Nat) : Prop := ∃ p, p < 4 ∧ 0 < wF σ D p
def noW (σ : HP) (D : Nat) : Prop := ∀ p, p < 4 → wF σ D p = 0
def rShare (σ : HP) (D P : Nat) (a : Int) (k : Nat) (z : Int) (σ' : HP) : Prop := sameX σ σ' ∧ ((k = 1 ∧ noW σ D) ∨ (someW σ D ∧ ((k = 2 ∧ ¬ (0 ≤ a ∧ a < P)) ∨ (k = 0 ∧ (0 ≤ a ∧ a < P) ∧ z = sF σ D a.toNat))))
theorem wp_share {a : Int} (h : XI σ D P) (ha : in32 a) : Wp (d + 3) Y3_share SX 0 [some (vr 0), some (vi a)] [] σ (qi fun z σ' => rShare σ D P a 0 z σ') (exX [eIS, eIB] fun k σ' => rShare σ D P a k 0 σ') := by
  have hP := h.2.2.1
  have hP4 := h.2.1
  refine b3_share_0 (d := d + 2) _ (ok_shareOut h.1) (fun z σ' hz => ?_)
  obtain ⟨s1, s2, s3, hz⟩ := hz
  have hs := sameX.of s1
  obtain ⟨i0, i1⟩ := in_DP (h.same hs)
  rcases hz with ⟨rfl, hw, h7⟩ | ⟨rfl, hw, -⟩
  · refine b3_share_4 _ _ ⟨by decide, by decide⟩ (fun _ => ?_) (fun q => absurd q (by decide))
    refine b3_share_15 (d := d + 2) _ (ok_isThere (Or.inr rfl) ha i0 i1) (fun z τ hz => ?_)
    obtain ⟨rfl, hz⟩ := hz
    rw [if_neg (show ¬ (1 : Int) = 0 by decide), hs.1, hP] at hz
    by_cases q : 0 ≤ a ∧ a < P
    · rw [if_pos q] at hz
      subst hz
      refine b3_share_21 _ _ ⟨by decide, by decide⟩ (fun _ => ?_) (fun q => absurd q (by decide))
      exact b3_share_32 _ ⟨by omega, by omega⟩ ⟨_, rfl, hs, Or.inr ⟨hw, Or.inr ⟨rfl, q, h7 _ (by omega)⟩⟩⟩
    · rw [if_neg q] at hz
      subst hz
      exact b3_share_21 _ _ ⟨by decide, by decide⟩ (fun g => absurd rfl g) (fun _ => b3_share_24 ⟨1, rfl, hs, Or.inr ⟨hw, Or.inl ⟨rfl, q⟩⟩⟩)
  · exact b3_share_4 _ _ ⟨by decide, by decide⟩ (fun g => absurd rfl g) (fun _ => b3_share_7 ⟨0, rfl, hs, Or.inl ⟨rfl, hw⟩⟩)
def chO (w s : Tb) (p q : Nat) : Prop := 0 < s p ∧ 0 < w p ∧ w p * (2 * s q + 1) = w q * (2 * s p - 1)
def tiedP (w s : Tb) (P p : Nat) : Prop := ∃ q, q < P ∧ q ≠ p ∧ (chO w s p q ∨ chO w s q p)
def rTied (σ : HP) (D P : Nat) (a : Int) (k : Nat) (z : Int) (σ' : HP) : Prop := sameX σ σ' ∧ ((k = 1 ∧ noW σ D) ∨ (someW σ D ∧ ((k = 2 ∧ ¬ (0 ≤ a ∧ a < P)) ∨ (k = 0 ∧ (0 ≤ a ∧ a < P) ∧ ((z = 1 ∧ tiedP (wF σ D) (sF σ D) P a.toNat) ∨ (z = 0 ∧ ¬ tiedP (wF σ D) (sF σ D) P a.toNat))))))
theorem wp_tied {a : Int} (h : XI σ D P) (ha : in32 a) : Wp (d + 3) Y3_tied SX 0 [some (vr 0), some (vi a), none] [] σ (qi fun z σ' => rTied σ D P a 0 z σ') (exX [eIS, eIB] fun k σ' => rTied σ D P a k 0 σ') := by
  have hP := h.2.2.1
  have hP4 := h.2.1
  refine b3_tied_0 (d := d + 2) _ (ok_shareOut h.1) (fun z σ' hz => ?_)
  obtain ⟨s1, s2, s3, hz⟩ := hz
  have hs := sameX.of s1
  obtain ⟨i0, i1⟩ := in_DP (h.same hs)
  rcases hz with ⟨rfl, hw, h7⟩ | ⟨rfl, hw, -⟩
  · refine b3_tied_4 _ _ ⟨by decide, by decide⟩ (fun _ => ?_) (fun q => absurd q (by decide))
    refine b3_tied_15 (d := d + 2) _ (ok_isThere (Or.inr rfl) ha i0 i1) (fun z τ hz => ?_)
    obtain ⟨rfl, hz⟩ := hz
    rw [if_neg (show ¬ (1 : Int) = 0 by decide), hs.1, hP] at hz
    by_cases q : 0 ≤ a ∧ a < P
    · rw [if_pos q] at hz
      subst hz
      refine b3_tied_21 _ _ ⟨by decide, by decide⟩ (fun _ => ?_) (fun q => absurd q (by decide))
      obtain ⟨n, rfl⟩ : ∃ n : Nat, a = n := ⟨a.toNat, by omega⟩
      have hn4 : n < 4 := by omega
      have hO : WSok τ := ⟨fun p hp => by rw [s3 p hp]; exact wtF_bd h.1.1 h.1.2.2.2.2.1 (cF_bd h.1) hp, fun p hp => by rw [h7 p hp]; exact sF_bd h.1 p hp⟩
      have e1 : τ 0 1 = P := by rw [hs.1]; exact hP
      have ech : ∀ p q, p < 4 → q < 4 → ((0 < τ 7 p ∧ 0 < τ 6 p ∧ τ 6 p * (2 * τ 7 q + 1) = τ 6 q * (2 * τ 7 p - 1)) ↔ chO (wF σ D) (sF σ D) p q) := fun p q hp hq => by
        rw [h7 p hp, h7 q hq, s3 p hp, s3 q hq]; rfl
      have lp : ∀ k i : Nat, i + k = P → (∀ q, q < i → q ≠ n → ¬ (chO (wF σ D) (sF σ D) n q ∨ chO (wF σ D) (sF σ D) q n)) → Wp (d + 2 + 1) Y3_tied SX 34 [some (vr 0), some (vi (n : Int)), some (vi (i : Int))] [] τ (qi fun z σ' => rTied σ D P n 0 z σ') (exX [eIS, eIB] fun k σ' => rTied σ D P n k 0 σ') := by
        intro k
        induction k with
        | zero =>
          intro i hi hno
          have e : i = P := by omega
          subst e
          refine b3_tied_34 _ _ ⟨by omega, by omega⟩ (by rw [e1]; exact ⟨by omega, by omega⟩) (fun _ => b3_tied_73 ⟨0, rfl, hs, Or.inr ⟨hw, Or.inr ⟨rfl, q, Or.inr ⟨rfl, ?_⟩⟩⟩⟩) (fun g => by rw [e1] at g; omega)
          rintro ⟨x, x1, x2, x3⟩
          exact hno x x1 x2 x3
        | succ k ih =>
          intro i hi hno
          have hi4 : i < 4 := by omega
          refine b3_tied_34 _ _ ⟨by omega, by omega⟩ (by rw [e1]; exact ⟨by omega, by omega⟩) (fun g => by rw [e1] at g; omega) (fun _ => ?_)
          have next : (i ≠ n → ¬ (chO (wF σ D) (sF σ D) n i ∨ chO (wF σ D) (sF σ D) i n)) → Wp (d + 2 + 1) Y3_tied SX 67 [some (vr 0), some (vi (n : Int)), some (vi (i : Int))] [] τ (qi fun z σ' => rTied σ D P n 0 z σ') (exX [eIS, eIB] fun k σ' => rTied σ D P n k 0 σ') := by
            intro g
            refine b3_tied_67 _ _ (ih (i + 1) (by omega) (fun x hx => ?_))
            by_cases e : x = i
            · subst e; exact g
            · exact hno x (by omega)
          refine b3_tied_42 _ _ ⟨by omega, by omega⟩ ⟨by omega, by omega⟩ (fun g => next (fun g2 => absurd (by omega) g2)) (fun g => ?_)
          have hin : i ≠ n := by omega
          have yes : (chO (wF σ D) (sF σ D) n i ∨ chO (wF σ D) (sF σ D) i n) → Wp (d + 2 + 1) Y3_tied SX 65 [none, none, none] [] τ (qi fun z σ' => rTied σ D P n 0 z σ') (exX [eIS, eIB] fun k σ' => rTied σ D P n k 0 σ') := fun g =>
            b3_tied_65 ⟨1, rfl, hs, Or.inr ⟨hw, Or.inr ⟨rfl, q, Or.inl ⟨rfl, i, by omega, hin, g⟩⟩⟩⟩
          refine b3_tied_47 (d := d + 2) _ _ (ok_couldHandOver (p := n) (q := i) hn4 hi4 hO) (fun z τ' hz => ?_)
          obtain ⟨rfl, hz⟩ := hz
          by_cases c1 : chO (wF σ D) (sF σ D) n i
          · rw [if_pos ((ech n i hn4 hi4).2 c1)] at hz
            subst hz
            exact b3_tied_53 _ _ _ ⟨by decide, by decide⟩ (fun _ => yes (Or.inl c1)) (fun g => absurd g (by decide))
          · rw [if_neg (fun g => c1 ((ech n i hn4 hi4).1 g))] at hz
            subst hz
            refine b3_tied_53 _ _ _ ⟨by decide, by decide⟩ (fun g => absurd rfl g) (fun _ => ?_)
            refine b3_tied_56 (d := d + 2) _ _ (ok_couldHandOver (p := i) (q := n) hi4 hn4 hO) (fun z τ' hz => ?_)
            obtain ⟨rfl, hz⟩ := hz
            by_cases c2 : chO (wF σ D) (sF σ D) i n
            · rw [if_pos ((ech i n hi4 hn4).2 c2)] at hz
              subst hz
              exact b3_tied_62 _ _ _ ⟨by decide, by decide⟩ (fun g => absurd g (by decide)) (fun _ => yes (Or.inr c2))
            · rw [if_neg (fun g => c2 ((ech i n hi4 hn4).1 g))] at hz
              subst hz
              exact b3_tied_62 _ _ _ ⟨by decide, by decide⟩ (fun _ => next (fun _ g => g.elim c1 c2)) (fun g => absurd rfl g)
      exact b3_tied_32 _ (lp P 0 (by omega) (fun x hx => by omega))
    · rw [if_neg q] at hz
      subst hz
      exact b3_tied_21 _ _ ⟨by decide, by decide⟩ (fun g => absurd rfl g) (fun _ => b3_tied_24 ⟨1, rfl, hs, Or.inr ⟨hw, Or.inl ⟨rfl, q⟩⟩⟩)
  · exact b3_tied_4 _ _ ⟨by decide, by decide⟩ (fun g => absurd rfl g) (fun _ => b3_tied_7 ⟨0, rfl, hs, Or.inl ⟨rfl, hw⟩⟩)
def rSolve (σ : HP) (D P : Nat) (k : Nat) (z : Int) (σ' : HP) : Prop := (k = 1 ∧ noW σ D ∧ sameX σ σ') ∨ (k = 0 ∧ someW σ D ∧ XI σ' D P ∧ σ' 0 11 = 1 ∧ z = σ' 0 12 ∧ (∀ j, j < 4 → σ' 0 j = σ 0 j) ∧ σ' 1 = σ 1 ∧ σ' 2 = σ 2 ∧ σ' 3 = σ 3 ∧ σ' 4 = σ 4)
theorem cF_i {σ σ' : HP} (h0 : ∀ j, j < 4 → σ' 0 j = σ 0 j) (h2 : σ' 2 = σ 2) : cF σ' = cF σ := by unfold cF; rw [h0 2 (by decide), h2]
theorem wF_i {σ σ' : HP} (h0 : ∀ j, j < 4 → σ' 0 j = σ 0 j) (h1 : σ' 1 = σ 1) (h2 : σ' 2 = σ 2) (D : Nat) : wF σ' D = wF σ D := by unfold wF; rw [cF_i h0 h2, h0 3 (by decide), h1]
theorem sF_i {σ σ' : HP} (h0 : ∀ j, j < 4 → σ' 0 j = σ 0 j) (h1 : σ' 1 = σ 1) (h2 : σ' 2 = σ 2) (h4 : σ' 4 = σ 4) (D : Nat) : sF σ' D = sF σ D := by unfold sF; rw [wF_i h0 h1 h2, h1, h4]
/-- the same told, something else worked out -/
theorem XI.re {σ' : HP} (h : XI σ D P) (h0 : ∀ j, j < 4 → σ' 0 j = σ 0 j) (h1 : σ' 1 = σ 1) (h2 : σ' 2 = σ 2) (h3 : σ' 3 = σ 3) (h4 : σ' 4 = σ 4) (f11 : σ' 0 11 = 0 ∨ σ' 0 11 = 1) (f12 : σ' 0 12 = 0 ∨ σ' 0 12 = 1) (hs : SolX σ' D) : XI σ' D P := by
  obtain ⟨a, b, c, e, f, g, i, j, -, -, -⟩ := h
  refine ⟨?_, b, ?_, ?_, ?_, ?_, ?_, ?_, f11, f12, hs⟩
  · unfold XV at a ⊢
    rw [h0 0 (by decide), h0 2 (by decide), h0 3 (by decide), h1, h2, h4]; exact a
  · rw [h0 1 (by decide)]; exact c
  · rw [h1]; exact e
  · rw [h1]; exact f
  · rw [h2, h3]; exact g
  · rw [h3]; exact i
  · unfold XR at j ⊢; rw [h4]; exact j
theorem wp_solve (h : XI σ D P) : Wp (d + 12) Y3_solve SX 0 [some (vr 0)] [] σ (qi fun z σ' => rSolve σ D P 0 z σ') (exX [eIS] fun k σ' => rSolve σ D P k 0 σ') := by
  have hv := h.1
  refine b3_solve_0 (d := d + 11) (ok_shareOut (d := d + 9) h.1) (fun z σ1 hz => ?_)
  obtain ⟨s1, s2, s3, hz⟩ := hz
  have hs := sameX.of s1
  rcases hz with ⟨rfl, hw, h7⟩ | ⟨rfl, hw, -⟩
  · refine b3_solve_4 _ ⟨by decide, by decide⟩ (fun _ => ?_) (fun q => absurd q (by decide))
    have h1 := h.same hs
    refine b3_solve_15 (d := d + 11) (ok_findBlock (d := d + 9) (D := D) h1.1.2.1 h1.1.1 h1.1.2.2.2.2.1 (fun l hl => by rw [s2 l hl]; exact cF_bd hv l hl) (fun p hp => by rw [h7 p hp]; exact sF_bd hv p hp)) (fun σ2 q2 => ?_)
    obtain ⟨A, B, hb, rfl⟩ := q2
    have ebad : ∀ s, badS (σ1 5) (σ1 1) (σ1 7) s ↔ badS (cF σ) (σ 1) (sF σ D) s := by
      intro s
      unfold badS supS demS
      rw [hs.2.1]
      have er : ∀ q, q < 4 → rchB (σ1 5) s q = rchB (cF σ) s q := fun q hq => by
        unfold rchB
        rw [s2 q (by omega), s2 (4 + q) (by omega), s2 (8 + q) (by omega), s2 (12 + q) (by omega)]
      rw [sm_ext (f := fun q => if rchB (σ1 5) s q = true then σ1 7 q else 0) (g := fun q => if rchB (cF σ) s q = true then sF σ D q else 0) (fun q hq => by rw [er q hq, h7 q hq])]
    have hb2 : blkPost (cF σ) (σ 1) (sF σ D) D A B := by
      rcases hb with ⟨a1, a2, a3⟩ | ⟨a1, a2, a3, a4, a5, a6⟩
      · exact Or.inl ⟨a1, a2, fun s q1 q2 => fun g => a3 s q1 q2 ((ebad s).2 g)⟩
      · refine Or.inr ⟨a1, a2, (ebad A).1 a3, fun s q1 q2 => fun g => a4 s q1 q2 ((ebad s).2 g), a5, fun q hq => ?_⟩
        rw [a6 q hq]
        unfold rchB
        rw [s2 q (by omega), s2 (4 + q) (by omega), s2 (8 + q) (by omega), s2 (12 + q) (by omega)]
    have hA16 : A < 2 ^ 4 := by
      rcases hb2 with ⟨a1, -⟩ | ⟨-, a2, -⟩
      · omega
      · exact Nat.lt_of_lt_of_le a2 (Nat.pow_le_pow_right (by decide) hv.1)
    have e13 : up (up σ1 0 13 (A : Int)) 0 14 (B : Int) 0 13 = A := by rw [up_nj (by decide), up_at]
    have e14 : up (up σ1 0 13 (A : Int)) 0 14 (B : Int) 0 14 = B := up_at
    have keepr : ∀ r, r ≠ 0 → up (up σ1 0 13 (A : Int)) 0 14 (B : Int) r = σ1 r := fun r hr => by rw [up_ne hr, up_ne hr]
    have keep0 : ∀ j, j < 13 → up (up σ1 0 13 (A : Int)) 0 14 (B : Int) 0 j = σ 0 j := fun j hj => by rw [up_nj (by omega), up_nj (by omega), hs.1]
    refine b3_solve_19 (by rw [e13]; exact ⟨by omega, by omega⟩) (fun q => ?_) (fun q => ?_)
    · rw [e13] at q
      refine b3_solve_31 (b3_solve_32 _ (Or.inl rfl) (by rw [up_at]; exact ⟨by decide, by decide⟩) (fun _ => ?_) (fun g => absurd up_at g))
      have e12 : up (up (up (up σ1 0 13 (A : Int)) 0 14 (B : Int)) 0 12 0) 0 11 1 0 12 = 0 := by rw [up_nj (by decide), up_at]
      have kk : ∀ r, r ≠ 0 → up (up (up (up σ1 0 13 (A : Int)) 0 14 (B : Int)) 0 12 0) 0 11 1 r = σ1 r := fun r hr => by rw [up_ne hr, up_ne hr, keepr r hr]
      have k0 : ∀ j, j < 4 → up (up (up (up σ1 0 13 (A : Int)) 0 14 (B : Int)) 0 12 0) 0 11 1 0 j = σ 0 j := fun j hj => by rw [up_nj (by omega), up_nj (by omega), keep0 j (by omega)]
      have k1 := (kk 1 (by decide)).trans hs.2.1
      have k2 := (kk 2 (by decide)).trans hs.2.2.1
      have k3 := (kk 3 (by decide)).trans hs.2.2.2.1
      have k4 := (kk 4 (by decide)).trans hs.2.2.2.2.1
      refine b3_solve_46 (Or.inl e12) ⟨_, rfl, Or.inr ⟨rfl, hw, h.re k0 k1 k2 k3 k4 (Or.inr up_at) (Or.inl e12) ?_, up_at, rfl, k0, k1, k2, k3, k4⟩⟩
      intro _
      rw [wF_i k0 k1 k2]
      refine ⟨hw, Or.inr ⟨e12, A, B, ?_, ?_, ?_⟩⟩
      · rw [up_nj (by decide), up_nj (by decide)]; exact e13
      · rw [up_nj (by decide), up_nj (by decide)]; exact e14
      · rw [cF_i k0 k2, sF_i k0 k1 k2 k4, k1]
        refine ⟨?_, hb2⟩
        rcases hb2 with ⟨a1, -⟩ | ⟨a1, -⟩
        · omega
        · exact a1
    · rw [e13] at q
      have hA0 : A = 0 := by omega
      have nb : nobad σ D := by
        rcases hb2 with ⟨-, -, a3⟩ | ⟨a1, -⟩
        · exact a3
        · omega
      refine b3_solve_27 (b3_solve_32 _ (Or.inr rfl) (by rw [up_at]; exact ⟨by decide, by decide⟩) (fun g => by rw [up_at] at g; exact absurd g (by decide)) (fun _ => ?_))
      have kk : ∀ r, r ≠ 0 → up (up (up σ1 0 13 (A : Int)) 0 14 (B : Int)) 0 12 1 r = σ1 r := fun r hr => by rw [up_ne hr, keepr r hr]
      have k0 : ∀ j, j < 4 → up (up (up σ1 0 13 (A : Int)) 0 14 (B : Int)) 0 12 1 0 j = σ 0 j := fun j hj => by rw [up_nj (by omega), keep0 j (by omega)]
      have k1 := (kk 1 (by decide)).trans hs.2.1
      have k2 := (kk 2 (by decide)).trans hs.2.2.1
      have k3 := (kk 3 (by decide)).trans hs.2.2.2.1
      have k4 := (kk 4 (by decide)).trans hs.2.2.2.2.1
      refine b3_solve_42 (d := d + 11) (ok_findTables (d := d) h (Or.inr ⟨k0, k1, k2, k3, k4⟩) (fun l hl => by rw [kk 5 (by decide)]; exact s2 l hl) (fun p hp => by rw [kk 7 (by decide)]; exact h7 p hp) nb) (fun τ q3 => ?_)
      obtain ⟨q3, f1, f2, f3, f4, f5⟩ := q3
      have t0 := q3 0 (by decide) (by decide) (by decide) (by decide) (by decide) (by decide) (by decide) (by decide)
      have e12 : up τ 0 11 1 0 12 = 1 := by rw [up_nj (by decide), t0, up_at]
      have j0 : ∀ j, j < 4 → up τ 0 11 1 0 j = σ 0 j := fun j hj => by rw [up_nj (by omega), t0]; exact k0 j hj
      have j1 : up τ 0 11 1 1 = σ 1 := by rw [up_ne (by decide), q3 1 (by decide) (by decide) (by decide) (by decide) (by decide) (by decide) (by decide) (by decide)]; exact k1
      have j2 : up τ 0 11 1 2 = σ 2 := by rw [up_ne (by decide), q3 2 (by decide) (by decide) (by decide) (by decide) (by decide) (by decide) (by decide) (by decide)]; exact k2
      have j3 : up τ 0 11 1 3 = σ 3 := by rw [up_ne (by decide), q3 3 (by decide) (by decide) (by decide) (by decide) (by decide) (by decide) (by decide) (by decide)]; exact k3
      have j4 : up τ 0 11 1 4 = σ 4 := by rw [up_ne (by decide), q3 4 (by decide) (by decide) (by decide) (by decide) (by decide) (by decide) (by decide) (by decide)]; exact k4
      refine b3_solve_46 (Or.inr e12) ⟨_, rfl, Or.inr ⟨rfl, hw, h.re j0 j1 j2 j3 j4 (Or.inr up_at) (Or.inr e12) ?_, up_at, rfl, j0, j1, j2, j3, j4⟩⟩
      intro _
      unfold nobad TB
      rw [wF_i j0 j1 j2, cF_i j0 j2, sF_i j0 j1 j2 j4, j1, show up τ 0 11 1 8 = τ 8 from up_ne (by decide), show up τ 0 11 1 9 = τ 9 from up_ne (by decide), show up τ 0 11 1 16 = τ 16 from up_ne (by decide), show up τ 0 11 1 17 = τ 17 from up_ne (by decide)]
      exact ⟨hw, Or.inl ⟨e12, nb, f1, f2, f3, f4, f5⟩⟩
  · exact b3_solve_4 _ ⟨by decide, by decide⟩ (fun g => absurd rfl g) (fun _ => b3_solve_7 ⟨0, rfl, Or.inl ⟨rfl, hw, hs⟩⟩)
end XN
