/-! ===== the model: filling ===== -/
theorem rch_e {c c' : Tb} {s q : Nat} (hq : q < 4) (h : ∀ l, l < 16 → (0 < c l ↔ 0 < c' l)) : rchB c s q = rchB c' s q := by
  apply Bool.eq_iff_iff.2
  rw [rchB_iff hq, rchB_iff hq]
  exact ⟨fun ⟨l, l1, l2, l3, l4⟩ => ⟨l, l1, l2, (h l l1).1 l3, l4⟩, fun ⟨l, l1, l2, l3, l4⟩ => ⟨l, l1, l2, (h l l1).2 l3, l4⟩⟩
theorem bad_e {c c' a a' b b' : Tb} {s : Nat} (hc : ∀ l, l < 16 → (0 < c l ↔ 0 < c' l)) (ha : ∀ e, e < 4 → a e = a' e) (hb : ∀ q, q < 4 → b q = b' q) : badS c a b s ↔ badS c' a' b' s := by
  unfold badS supS demS
  rw [sm_ext (f := fun q => if rchB c s q = true then b q else 0) (g := fun q => if rchB c' s q = true then b' q else 0) (fun q hq => by rw [rch_e hq hc, hb q hq]), sm_ext (f := fun e => if s.testBit e = true then a e else 0) (g := fun e => if s.testBit e = true then a' e else 0) (fun e he => by rw [ha e he])]
theorem cut_O {O r k : Nat} (h : ∀ j, r.testBit j = (O.testBit j && decide (j ≠ k))) : ∀ l, l < 16 → (0 < cO r l ↔ 0 < cut (cO O) k l) := by
  intro l _
  rw [cO_pos, h l]
  unfold cut
  by_cases e : l = k
  · subst e; simp
  · rw [if_neg e, cO_pos]; simp [e]
section MM
variable {d : Nat} {σ ρ : HP} {Q : MQt} {X : MXt} {D P : Nat}
/-- what holds before list k is filled -/
def FI (ρ τ σ : HP) (D P k : Nat) : Prop := (∀ r, r ≠ 0 → r ≠ 8 → r ≠ 12 → r ≠ 13 → τ r = ρ r) ∧ (∀ j, j ≠ 10 → j ≠ 22 → τ 0 j = ρ 0 j) ∧ (∃ O : Nat, τ 0 22 = O ∧ O < 65536 ∧ (∀ l, O.testBit l = true → k ≤ l ∧ l < 16 ∧ l / 4 < D ∧ l % 4 < P ∧ 0 < cF σ l) ∧ Hall (cO O) (τ 12) (τ 13)) ∧ (∀ e, e < 4 → 0 ≤ τ 12 e ∧ row (τ 8) e + τ 12 e = σ 1 e) ∧ (∀ q, q < 4 → 0 ≤ τ 13 q ∧ col (τ 8) q + τ 13 q = sF σ D q) ∧ ∀ l, l < 16 → 0 ≤ τ 8 l ∧ (cF σ l = 0 → τ 8 l = 0)
def fPost (ρ σ : HP) (D : Nat) (z : Int) (ρ' : HP) : Prop := (∀ r, r ≠ 0 → r ≠ 8 → r ≠ 12 → r ≠ 13 → ρ' r = ρ r) ∧ (∀ j, j ≠ 10 → j ≠ 22 → ρ' 0 j = ρ 0 j) ∧ ((z = 0 ∧ ∃ A : Nat, ρ' 0 10 = A ∧ 1 ≤ A ∧ A < 2 ^ D ∧ badS (cF σ) (σ 1) (sF σ D) A ∧ ∀ s, 1 ≤ s → s < A → ¬ badS (cF σ) (σ 1) (sF σ D) s) ∨ (z = 1 ∧ nobad σ D ∧ fitT (cF σ) (σ 1) (sF σ D) (ρ' 8)))
theorem FI.end_ {τ : HP} (hx : XI σ D P) (h : FI ρ τ σ D P 16) : fitT (cF σ) (σ 1) (sF σ D) (τ 8) := by
  obtain ⟨h1, h2, ⟨O, o1, o2, o3, o4⟩, h4, h5, h6⟩ := h
  have nb : ∀ l, O.testBit l = false := fun l => by
    cases q : O.testBit l with
    | false => rfl
    | true => have := o3 l q; omega
  have no : ∀ s q, q < 4 → rchB (cO O) s q = false := fun s q hq => by
    cases r : rchB (cO O) s q with
    | false => rfl
    | true =>
      obtain ⟨l, -, -, l3, -⟩ := (rchB_iff hq).1 r
      have := cO_pos.1 l3
      rw [nb l] at this; cases this
  have all := o4 15 (by decide)
  have e1 : supS (cO O) (τ 13) 15 = 0 := by
    unfold supS; rw [sum4, no 15 0 (by omega), no 15 1 (by omega), no 15 2 (by omega), no 15 3 (by omega)]; simp
  have e2 : demS (τ 12) 15 = τ 12 0 + τ 12 1 + τ 12 2 + τ 12 3 := by
    unfold demS; rw [sum4]; rfl
  rw [e1, e2] at all
  have a0 := h4 0 (by omega)
  have a1 := h4 1 (by omega)
  have a2 := h4 2 (by omega)
  have a3 := h4 3 (by omega)
  have b0 := h5 0 (by omega)
  have b1 := h5 1 (by omega)
  have b2 := h5 2 (by omega)
  have b3 := h5 3 (by omega)
  have ss := sF_sum hx.1
  rw [sum4, sum4] at ss
  have tot : row (τ 8) 0 + row (τ 8) 1 + row (τ 8) 2 + row (τ 8) 3 = col (τ 8) 0 + col (τ 8) 1 + col (τ 8) 2 + col (τ 8) 3 := by
    unfold row col; simp; omega
  refine ⟨fun l hl => (h6 l hl).1, fun l hl => (h6 l hl).2, fun e he => ?_, fun q hq => ?_⟩
  · show row (τ 8) e = σ 1 e
    rcases (show e = 0 ∨ e = 1 ∨ e = 2 ∨ e = 3 by omega) with rfl | rfl | rfl | rfl <;> omega
  · show col (τ 8) q = sF σ D q
    rcases (show q = 0 ∨ q = 1 ∨ q = 2 ∨ q = 3 by omega) with rfl | rfl | rfl | rfl <;> omega
theorem mok_fill (hx : XI σ D P) (h1 : ρ 0 1 = D) (h2 : ρ 0 2 = P) (hsz : ∀ e, e < 4 → ρ 1 e = σ 1 e) (hc : ∀ l, l < 16 → ρ 4 l = cF σ l) (hsh : ∀ p, p < 4 → ρ 6 p = sF σ D p) : Ok (d + 2) Y4_fill SM [vr 0] ρ (qi fun z ρ' => fPost ρ σ D z ρ') := by
  refine Ok.ofWp (by decide) (Nat.le_of_ble_eq_true rfl) ?_
  have D4 := hx.1.1
  have P4 := hx.2.1
  have szb := hx.1.2.2.2.2.1
  have shb := sF_bd hx.1
  have cb := cF_bd hx.1
  -- list by list
  have l3 : ∀ m k : Nat, k + m = 16 → ∀ τ : HP, nobad σ D → FI ρ τ σ D P k → Wp (d + 1 + 1) Y4_fill SM 97 [some (vr 0), some (vi (k : Int)), none, none] [] τ (qi fun z ρ' => fPost ρ σ D z ρ') (fun _ _ _ _ => False) := by
    intro m
    induction m with
    | zero =>
      intro k hk τ nb hF
      have e : k = 16 := by omega
      subst e
      exact b4_fill_97 _ ⟨by omega, by omega⟩ (fun _ => b4_fill_196 ⟨1, rfl, hF.1, hF.2.1, Or.inr ⟨rfl, nb, hF.end_ hx⟩⟩) (fun g => absurd g (by omega))
    | succ m ih =>
      intro k hk τ nb hF
      obtain ⟨f1, f2, ⟨O, o1, o2, o3, o4⟩, f4, f5, f6⟩ := id hF
      have eb := bit_N (a := O) (k := k) (by omega) (by omega)
      have g01 : τ 0 1 = D := by rw [f2 1 (by decide) (by decide)]; exact h1
      have g02 : τ 0 2 = P := by rw [f2 2 (by decide) (by decide)]; exact h2
      refine b4_fill_97 _ ⟨by omega, by omega⟩ (fun g => absurd g (by omega)) (fun _ => ?_)
      cases hb : O.testBit k with
      | false =>
        rw [hb, if_neg (by decide)] at eb
        refine b4_fill_103 _ (by rw [o1, eb]; exact ⟨by decide, by decide⟩) (fun _ => b4_fill_190 _ (ih (k + 1) (by omega) τ nb ⟨f1, f2, ⟨O, o1, o2, fun l hl => ?_, o4⟩, f4, f5, f6⟩)) (fun g => by rw [o1, eb] at g; exact absurd g (by decide))
        have := o3 l hl
        refine ⟨?_, this.2⟩
        by_cases e : l = k
        · subst e; rw [hb] at hl; cases hl
        · omega
      | true =>
        rw [hb, if_pos rfl] at eb
        refine b4_fill_103 _ (by rw [o1, eb]; exact ⟨by decide, by decide⟩) (fun g => by rw [o1, eb] at g; exact absurd rfl g) (fun _ => ?_)
        obtain ⟨-, -, kD, kP, kc⟩ := o3 k hb
        obtain ⟨r, r1, r2, r3⟩ := bC_N (a := O) (k := k) (by omega) (by omega)
        have hxx : k / 4 < 4 := by omega
        have hpp : k % 4 < 4 := by omega
        have ekx : ((k : Int) / 4) = ((k / 4 : Nat) : Int) := by omega
        have ekp : ((k : Int) % 4) = ((k % 4 : Nat) : Int) := by omega
        have ek : 4 * (k / 4) + k % 4 = k := by omega
        have nn : ∀ e, e < 4 → 0 ≤ τ 12 e := fun e he => (f4 e he).1
        have nq : ∀ q, q < 4 → 0 ≤ τ 13 q := fun q hq => (f5 q hq).1
        have rpos : ∀ e, e < 4 → 0 ≤ row (τ 8) e := fun e he => by
          have a := (f6 (4 * e) (by omega)).1
          have b := (f6 (4 * e + 1) (by omega)).1
          have c := (f6 (4 * e + 2) (by omega)).1
          have f := (f6 (4 * e + 3) (by omega)).1
          unfold row; omega
        have cpos : ∀ q, q < 4 → 0 ≤ col (τ 8) q := fun q hq => by
          have a := (f6 q (by omega)).1
          have b := (f6 (4 + q) (by omega)).1
          have c := (f6 (8 + q) (by omega)).1
          have f := (f6 (12 + q) (by omega)).1
          unfold col; omega
        have ub : ∀ e, e < 4 → τ 12 e ≤ 20 := fun e he => by have := szb e he; have := f4 e he; have := rpos e he; omega
        have uq : ∀ q, q < 4 → τ 13 q ≤ 20 := fun q hq => by have := shb q hq; have := f5 q hq; have := cpos q hq; omega
        have ccut : ∀ l, l < 16 → (0 < cO r l ↔ 0 < cut (cO O) (4 * (k / 4) + k % 4) l) := by rw [ek]; exact cut_O r3
        have cpk : 0 < cO O (4 * (k / 4) + k % 4) := by rw [ek]; exact cO_pos.2 hb
        have ri : ∀ (z : Int) (e : Nat), row (inc (τ 8) k z) e = row (τ 8) e + if k / 4 = e then z else 0 := fun z e => by
          have := row_inc (t := τ 8) (a := k / 4) (b := k % 4) (d := e) (z := z) hpp
          rw [ek] at this; exact this
        have ci : ∀ (z : Int) (q : Nat), q < 4 → col (inc (τ 8) k z) q = col (τ 8) q + if k % 4 = q then z else 0 := fun z q hq => by
          have := col_inc (t := τ 8) (a := k / 4) (b := k % 4) (p := q) (z := z) hxx hpp hq
          rw [ek] at this; exact this
        obtain ⟨lw1, lw2⟩ := low_0 (c := cO O) (a := τ 12) (b := τ 13) nn nq hxx hpp o4
        -- taking back while there is too much
        have wl : ∀ n : Nat, (n : Int) ≤ τ 12 (k / 4) → (n : Int) ≤ τ 13 (k % 4) → Low (cO O) (τ 12) (τ 13) (k / 4) (k % 4) n → ∀ τ2 : HP, (∀ r, r ≠ 0 → r ≠ 8 → r ≠ 12 → r ≠ 13 → τ2 r = ρ r) → (∀ j, j ≠ 10 → j ≠ 22 → τ2 0 j = ρ 0 j) → τ2 0 22 = r → τ2 8 = inc (τ 8) k n → τ2 12 = dec1 (τ 12) (k / 4) n → τ2 13 = dec1 (τ 13) (k % 4) n →
            Wp (d + 1 + 1) Y4_fill SM 173 [some (vr 0), some (vi (k : Int)), some (vi ((k / 4 : Nat) : Int)), some (vi ((k % 4 : Nat) : Int))] [] τ2 (qi fun z ρ' => fPost ρ σ D z ρ') (fun _ _ _ _ => False) := by
          intro n
          induction n with
          | zero =>
            intro n1 n2 hL τ2 w1 w2 w22 w8 w12 w13
            have d12 : ∀ e, e < 4 → τ2 12 e = dec1 (τ 12) (k / 4) ((0 : Nat) : Int) e ∧ 0 ≤ dec1 (τ 12) (k / 4) ((0 : Nat) : Int) e ∧ dec1 (τ 12) (k / 4) ((0 : Nat) : Int) e ≤ 20 := fun e he => by
              have := nn e he; have := ub e he
              rw [w12]; unfold dec1; exact ⟨rfl, by split <;> omega, by split <;> omega⟩
            have d13 : ∀ q, q < 4 → τ2 13 q = dec1 (τ 13) (k % 4) ((0 : Nat) : Int) q ∧ 0 ≤ dec1 (τ 13) (k % 4) ((0 : Nat) : Int) q ∧ dec1 (τ 13) (k % 4) ((0 : Nat) : Int) q ≤ 20 := fun e he => by
              have := nq e he; have := uq e he
              rw [w13]; unfold dec1; exact ⟨rfl, by split <;> omega, by split <;> omega⟩
            refine b4_fill_173 (d := d + 1) _ _ _ (mok_tooMuch (O := r) (by rw [w2 1 (by decide) (by decide)]; exact h1) (by rw [w2 2 (by decide) (by decide)]; exact h2) D4 P4 (by omega) w22 (fun l hl => ?_) d12 d13) (fun z τ3 hz => ?_)
            · rw [r3 l, Bool.and_eq_true] at hl
              have := o3 l hl.1
              exact ⟨this.2.1, this.2.2.2.1⟩
            obtain ⟨rfl, A, rfl, A16, hA⟩ := hz
            rcases hA with ⟨rfl, hA⟩ | ⟨A1, A2, hA, -⟩
            · refine b4_fill_177 _ _ _ _ ⟨by decide, by decide⟩ (fun _ => b4_fill_190 _ (ih (k + 1) (by omega) τ3 nb ?_)) (fun g => absurd g (by decide))
              have Hn : Hall (cO r) (τ3 12) (τ3 13) := by
                rw [w12, w13]
                refine hall_D D4 (fun e he q => ?_) (fun q hq => (d13 q hq).2.1) hA
                unfold dec1
                rw [if_neg (by omega)]
                have a := f4 e he
                have b := hx.2.2.2.1 e he q
                have c := rpos e he
                omega
              refine ⟨w1, w2, ⟨r, w22, by omega, fun l hl => ?_, Hn⟩, fun e he => ?_, fun q hq => ?_, fun l hl => ?_⟩
              · rw [r3 l, Bool.and_eq_true, decide_eq_true_eq] at hl
                have := o3 l hl.1
                exact ⟨by omega, this.2⟩
              · rw [w8, ri, (d12 e he).1]
                have := f4 e he; have := (d12 e he).2.1
                refine ⟨this, ?_⟩
                unfold dec1; simp; omega
              · rw [w8, ci _ q hq, (d13 q hq).1]
                have := f5 q hq; have := (d13 q hq).2.1
                refine ⟨this, ?_⟩
                unfold dec1; simp; omega
              · rw [w8]
                have := f6 l hl
                unfold inc
                simp; exact this
            · exfalso
              have hb2 := (bad_e ccut (fun _ _ => rfl) (fun _ _ => rfl)).1 hA
              have := (low_next nq hxx hpp cpk o4 hL (by omega) hb2).1
              omega
          | succ n ihn =>
            intro n1 n2 hL τ2 w1 w2 w22 w8 w12 w13
            have d12 : ∀ e, e < 4 → τ2 12 e = dec1 (τ 12) (k / 4) ((n + 1 : Nat) : Int) e ∧ 0 ≤ dec1 (τ 12) (k / 4) ((n + 1 : Nat) : Int) e ∧ dec1 (τ 12) (k / 4) ((n + 1 : Nat) : Int) e ≤ 20 := fun e he => by
              have := nn e he; have := ub e he
              rw [w12]; unfold dec1
              refine ⟨rfl, ?_, ?_⟩
              · split
                · next q => rw [q]; omega
                · omega
              · split <;> omega
            have d13 : ∀ q, q < 4 → τ2 13 q = dec1 (τ 13) (k % 4) ((n + 1 : Nat) : Int) q ∧ 0 ≤ dec1 (τ 13) (k % 4) ((n + 1 : Nat) : Int) q ∧ dec1 (τ 13) (k % 4) ((n + 1 : Nat) : Int) q ≤ 20 := fun e he => by
              have := nq e he; have := uq e he
              rw [w13]; unfold dec1
              refine ⟨rfl, ?_, ?_⟩
              · split
                · next q => rw [q]; omega
                · omega
              · split <;> omega
            refine b4_fill_173 (d := d + 1) _ _ _ (mok_tooMuch (O := r) (by rw [w2 1 (by decide) (by decide)]; exact h1) (by rw [w2 2 (by decide) (by decide)]; exact h2) D4 P4 (by omega) w22 (fun l hl => ?_) d12 d13) (fun z τ3 hz => ?_)
            · rw [r3 l, Bool.and_eq_true] at hl
              have := o3 l hl.1
              exact ⟨this.2.1, this.2.2.2.1⟩
            obtain ⟨rfl, A, rfl, A16, hA⟩ := hz
            rcases hA with ⟨rfl, hA⟩ | ⟨A1, A2, hA, -⟩
            · refine b4_fill_177 _ _ _ _ ⟨by decide, by decide⟩ (fun _ => b4_fill_190 _ (ih (k + 1) (by omega) τ3 nb ?_)) (fun g => absurd g (by decide))
              have Hn : Hall (cO r) (τ3 12) (τ3 13) := by
                rw [w12, w13]
                refine hall_D D4 (fun e he q => ?_) (fun q hq => (d13 q hq).2.1) hA
                unfold dec1
                rw [if_neg (by omega)]
                have a := f4 e he
                have b := hx.2.2.2.1 e he q
                have c := rpos e he
                omega
              refine ⟨w1, w2, ⟨r, w22, by omega, fun l hl => ?_, Hn⟩, fun e he => ?_, fun q hq => ?_, fun l hl => ?_⟩
              · rw [r3 l, Bool.and_eq_true, decide_eq_true_eq] at hl
                have := o3 l hl.1
                exact ⟨by omega, this.2⟩
              · rw [w8, ri, (d12 e he).1]
                have := f4 e he; have := (d12 e he).2.1
                refine ⟨this, ?_⟩
                unfold dec1
                by_cases q : e = k / 4
                · rw [if_pos q, if_pos q.symm]; omega
                · rw [if_neg q, if_neg (fun g => q g.symm)]; omega
              · rw [w8, ci _ q hq, (d13 q hq).1]
                have := f5 q hq; have := (d13 q hq).2.1
                refine ⟨this, ?_⟩
                unfold dec1
                by_cases g : q = k % 4
                · rw [if_pos g, if_pos g.symm]; omega
                · rw [if_neg g, if_neg (fun g2 => g g2.symm)]; omega
              · rw [w8]
                have := f6 l hl
                unfold inc
                by_cases e : l = k
                · rw [if_pos e]; rw [e] at this ⊢; omega
                · rw [if_neg e]; exact this
            · refine b4_fill_177 _ _ _ _ ⟨by omega, by omega⟩ (fun g => absurd g (by omega)) (fun _ => ?_)
              have hb2 := (bad_e ccut (fun _ _ => rfl) (fun _ _ => rfl)).1 hA
              have hL2 := low_next nq hxx hpp cpk o4 hL (by omega) hb2
              rw [show ((n + 1 : Nat) : Int) - 1 = (n : Int) by omega] at hL2
              refine b4_fill_180 (d := d + 1) _ _ _ (mok_give hxx hpp) (fun τ4 h4 => ?_)
              obtain ⟨v1, v8, v12, v13⟩ := h4
              refine b4_fill_187 _ _ _ (ihn (by omega) (by omega) hL2 τ4 (fun r a b c e => by rw [v1 r b c e]; exact w1 r a b c e) (fun j a b => by rw [v1 0 (by decide) (by decide) (by decide)]; exact w2 j a b) (by rw [v1 0 (by decide) (by decide) (by decide)]; exact w22) ?_ ?_ ?_)
              · rw [v8, w8, ek]; funext j; unfold inc; split <;> omega
              · rw [v12, w12]; funext j; unfold inc dec1; split <;> omega
              · rw [v13, w13]; funext j; unfold inc dec1; split <;> omega
        -- as much as the two have
        have gv : ∀ n : Nat, (n : Int) ≤ τ 12 (k / 4) → (n : Int) ≤ τ 13 (k % 4) → Low (cO O) (τ 12) (τ 13) (k / 4) (k % 4) n → Wp (d + 1 + 1) Y4_fill SM 170 [some (vr 0), some (vi (k : Int)), some (vi ((k / 4 : Nat) : Int)), some (vi ((k % 4 : Nat) : Int))] [vi (n : Int), vi ((k % 4 : Nat) : Int), vi ((k / 4 : Nat) : Int), vr 0] (up τ 0 22 (r : Int)) (qi fun z ρ' => fPost ρ σ D z ρ') (fun _ _ _ _ => False) := by
          intro n n1 n2 hL
          refine b4_fill_170 (d := d + 1) _ _ _ _ _ _ (mok_give hxx hpp) (fun τ4 h4 => ?_)
          obtain ⟨v1, v8, v12, v13⟩ := h4
          refine wl n n1 n2 hL τ4 (fun r a b c e => by rw [v1 r b c e, up_ne a]; exact f1 r a b c e) (fun j a b => by rw [v1 0 (by decide) (by decide) (by decide), up_nj b]; exact f2 j a b) (by rw [v1 0 (by decide) (by decide) (by decide), up_at]) ?_ ?_ ?_
          · rw [v8, ek, up_ne (by decide)]
          · rw [v12, up_ne (by decide)]; funext j; unfold inc dec1; split <;> omega
          · rw [v13, up_ne (by decide)]; funext j; unfold inc dec1; split <;> omega
        have u12 : ∀ j, up τ 0 22 (r : Int) 12 j = τ 12 j := fun j => up_nr (by decide)
        have u13 : ∀ j, up τ 0 22 (r : Int) 13 j = τ 13 j := fun j => up_nr (by decide)
        have a1 := nn (k / 4) hxx
        have a2 := ub (k / 4) hxx
        have b1 := nq (k % 4) hpp
        have b2 := uq (k % 4) hpp
        refine b4_fill_115 _ ⟨by omega, by omega⟩ ⟨by omega, by omega⟩ ⟨by omega, by omega⟩ (by rw [o1, r1, ekx, Int.toNat_natCast, u12]; exact ⟨by omega, by omega⟩) (by rw [o1, r1, ekp, Int.toNat_natCast, u13]; exact ⟨by omega, by omega⟩) (fun g => ?_) (fun g => ?_)
        · rw [o1, r1, ekx, ekp, Int.toNat_natCast, Int.toNat_natCast, u12, u13] at g
          rw [o1, r1, ekx, ekp]
          refine b4_fill_164 _ _ _ _ _ ⟨by omega, by omega⟩ ?_
          rw [Int.toNat_natCast, u13]
          obtain ⟨n, hn⟩ : ∃ n : Nat, τ 13 (k % 4) = n := ⟨(τ 13 (k % 4)).toNat, by omega⟩
          rw [hn] at lw2 ⊢
          exact gv n (by omega) (by omega) lw2
        · rw [o1, r1, ekx, ekp, Int.toNat_natCast, Int.toNat_natCast, u12, u13] at g
          rw [o1, r1, ekx, ekp]
          refine b4_fill_155 _ _ _ _ _ ⟨by omega, by omega⟩ ?_
          rw [Int.toNat_natCast, u12]
          obtain ⟨n, hn⟩ : ∃ n : Nat, τ 12 (k / 4) = n := ⟨(τ 12 (k / 4)).toNat, by omega⟩
          rw [hn] at lw1 ⊢
          exact gv n (by omega) (by omega) lw1
  -- the rests
  have l2 : ∀ m i : Nat, i + m = 4 → ∀ τ : HP, (∀ r, r ≠ 8 → r ≠ 12 → r ≠ 13 → τ r = ρ r) → (∀ l, l < 16 → τ 8 l = 0) → (∀ e, e < i → τ 12 e = σ 1 e ∧ τ 13 e = sF σ D e) → Wp (d + 1 + 1) Y4_fill SM 23 [some (vr 0), some (vi (i : Int)), none, none] [] τ (qi fun z ρ' => fPost ρ σ D z ρ') (fun _ _ _ _ => False) := by
    intro m
    induction m with
    | zero =>
      intro i hi τ t1 t8 t2
      have e : i = 4 := by omega
      subst e
      have g01 : τ 0 1 = D := by rw [t1 0 (by decide) (by decide) (by decide)]; exact h1
      have g02 : τ 0 2 = P := by rw [t1 0 (by decide) (by decide) (by decide)]; exact h2
      have g4 : ∀ l, l < 16 → τ 4 l = cF σ l := fun l hl => by rw [t1 4 (by decide) (by decide) (by decide)]; exact hc l hl
      refine b4_fill_23 _ ⟨by omega, by omega⟩ (fun _ => ?_) (fun g => absurd g (by omega))
      refine b4_fill_70 (d := d + 1) (mok_openLists g01 g02 D4 P4 (fun l hl => by rw [g4 l hl]; exact cb l hl)) (fun z τ1 hz => ?_)
      obtain ⟨rfl, O, rfl, O16, hO⟩ := hz
      have co : ∀ l, l < 16 → (0 < cO O l ↔ 0 < cF σ l) := fun l hl => by
        rw [cO_pos, hO l, g4 l hl]
        constructor
        · intro g; exact g.2.2.2
        · intro g
          have oD : l / 4 < D := by
            by_cases q : l / 4 < D
            · exact q
            · have := cF_out hx l hl (Or.inl (by omega)); omega
          have oP : l % 4 < P := by
            by_cases q : l % 4 < P
            · exact q
            · have := cF_out hx l hl (Or.inr (by omega)); omega
          exact ⟨hl, oD, oP, g⟩
      refine b4_fill_75 (d := d + 1) _ (mok_tooMuch (a := σ 1) (b := sF σ D) (O := O) (by rw [up_nj (by decide)]; exact g01) (by rw [up_nj (by decide)]; exact g02) D4 P4 O16 up_at (fun l hl => ⟨((hO l).1 hl).1, ((hO l).1 hl).2.2.1⟩) (fun e he => ⟨by rw [up_nr (by decide)]; exact (t2 e he).1, szb e he⟩) (fun q hq => ⟨by rw [up_nr (by decide)]; exact (t2 q hq).2, shb q hq⟩)) (fun z τ2 hz => ?_)
      obtain ⟨rfl, A, rfl, A16, hA⟩ := hz
      have be : ∀ s, badS (cO O) (σ 1) (sF σ D) s ↔ badS (cF σ) (σ 1) (sF σ D) s := fun s => bad_e co (fun _ _ => rfl) (fun _ _ => rfl)
      have kr : ∀ r, r ≠ 0 → r ≠ 8 → r ≠ 12 → r ≠ 13 → up (up τ1 0 22 (O : Int)) 0 10 (A : Int) r = ρ r := fun r a b c e => by rw [up_ne a, up_ne a]; exact t1 r b c e
      have k0 : ∀ j, j ≠ 10 → j ≠ 22 → up (up τ1 0 22 (O : Int)) 0 10 (A : Int) 0 j = ρ 0 j := fun j a b => by rw [up_nj a, up_nj b, t1 0 (by decide) (by decide) (by decide)]
      rcases hA with ⟨rfl, hA⟩ | ⟨A1, A2, hA, hB⟩
      · refine b4_fill_83 _ (by rw [up_at]; exact ⟨by decide, by decide⟩) (fun _ => b4_fill_95 ?_) (fun g => by rw [up_at] at g; exact absurd g (by decide))
        refine l3 16 0 rfl _ (fun s s1 s2 g => hA s s1 s2 ((be s).2 g)) ⟨kr, k0, ⟨O, by rw [up_nj (by decide), up_at], O16, fun l hl => ?_, ?_⟩, fun e he => ?_, fun q hq => ?_, fun l hl => ?_⟩
        · have := (hO l).1 hl
          exact ⟨by omega, this.1, this.2.1, this.2.2.1, by rw [← g4 l this.1]; exact this.2.2.2⟩
        · have e12 : ∀ e, e < 4 → up (up τ1 0 22 (O : Int)) 0 10 ((0 : Nat) : Int) 12 e = σ 1 e := fun e he => by rw [up_nr (by decide), up_nr (by decide)]; exact (t2 e he).1
          have e13 : ∀ q, q < 4 → up (up τ1 0 22 (O : Int)) 0 10 ((0 : Nat) : Int) 13 q = sF σ D q := fun e he => by rw [up_nr (by decide), up_nr (by decide)]; exact (t2 e he).2
          refine hall_D D4 (fun e he q => by rw [e12 e he]; exact hx.2.2.2.1 e he q) (fun q hq => by rw [e13 q hq]; exact (shb q hq).1) (fun s s1 s2 g => hA s s1 s2 ((bad_e (fun _ _ => Iff.rfl) e12 e13).1 g))
        · have z8 : row (up (up τ1 0 22 (O : Int)) 0 10 ((0 : Nat) : Int) 8) e = 0 := by
            rw [up_ne (by decide), up_ne (by decide)]; unfold row; rw [t8 _ (by omega), t8 _ (by omega), t8 _ (by omega), t8 _ (by omega)]; rfl
          rw [z8, up_nr (by decide), up_nr (by decide), (t2 e he).1]
          exact ⟨(szb e he).1, by omega⟩
        · have z8 : col (up (up τ1 0 22 (O : Int)) 0 10 ((0 : Nat) : Int) 8) q = 0 := by
            rw [up_ne (by decide), up_ne (by decide)]; unfold col; rw [t8 _ (by omega), t8 _ (by omega), t8 _ (by omega), t8 _ (by omega)]; rfl
          rw [z8, up_nr (by decide), up_nr (by decide), (t2 q hq).2]
          exact ⟨(shb q hq).1, by omega⟩
        · rw [up_nr (by decide), up_nr (by decide), t8 l hl]
          exact ⟨by decide, fun _ => rfl⟩
      · refine b4_fill_83 _ (by rw [up_at]; exact ⟨by omega, by omega⟩) (fun g => by rw [up_at] at g; omega) (fun _ => b4_fill_93 ⟨0, rfl, kr, k0, Or.inl ⟨rfl, A, up_at, A1, A2, (be A).1 hA, fun s s1 s2 g => hB s s1 s2 ((be s).2 g)⟩⟩)
    | succ m ih =>
      intro i hi τ t1 t8 t2
      have i4 : i < 4 := by omega
      have ei : (i : Int).toNat = i := Int.toNat_natCast i
      have g01 : τ 0 1 = D := by rw [t1 0 (by decide) (by decide) (by decide)]; exact h1
      have g1 : τ 1 i = σ 1 i := by rw [t1 1 (by decide) (by decide) (by decide)]; exact hsz i i4
      have g6 : τ 6 i = sF σ D i := by rw [t1 6 (by decide) (by decide) (by decide)]; exact hsh i i4
      refine b4_fill_23 _ ⟨by omega, by omega⟩ (fun g => absurd g (by omega)) (fun _ => ?_)
      have fin : ∀ s : Int, s = σ 1 i → Wp (d + 1 + 1) Y4_fill SM 51 [some (vr 0), some (vi (i : Int)), none, none] [vi s, vi (i : Int), vr 12] τ (qi fun z ρ' => fPost ρ σ D z ρ') (fun _ _ _ _ => False) := by
        rintro s rfl
        refine b4_fill_51 _ _ _ ⟨by omega, by omega⟩ ⟨by omega, by omega⟩ ?_
        rw [ei, up_nr (show (6 : Nat) ≠ 12 by decide), g6]
        refine ih (i + 1) (by omega) _ (fun r a b c => by rw [up_ne c, up_ne b]; exact t1 r a b c) (fun l hl => by rw [up_nr (by decide), up_nr (by decide)]; exact t8 l hl) (fun e he => ?_)
        by_cases q : e = i
        · subst q
          rw [up_nr (by decide), up_at, up_at]
          exact ⟨rfl, rfl⟩
        · rw [up_nr (by decide), up_nj q, up_nj q, up_nr (by decide)]
          exact t2 e (by omega)
      refine b4_fill_28 _ ⟨by omega, by omega⟩ (by rw [g01]; exact ⟨by omega, by omega⟩) (fun g => b4_fill_50 _ _ (fin 0 ?_)) (fun g => b4_fill_41 _ _ ⟨by omega, by omega⟩ (fin _ (by rw [ei]; exact g1)))
      rw [g01] at g
      exact (hx.2.2.2.1 i i4 (by omega)).symm
  have l1 : ∀ m i : Nat, i + m = 16 → ∀ τ : HP, (∀ r, r ≠ 8 → τ r = ρ r) → (∀ l, l < i → τ 8 l = 0) → Wp (d + 1 + 1) Y4_fill SM 2 [some (vr 0), some (vi (i : Int)), none, none] [] τ (qi fun z ρ' => fPost ρ σ D z ρ') (fun _ _ _ _ => False) := by
    intro m
    induction m with
    | zero =>
      intro i hi τ t1 t2
      have e : i = 16 := by omega
      subst e
      exact b4_fill_2 _ ⟨by omega, by omega⟩ (fun _ => b4_fill_21 (l2 4 0 rfl τ (fun r a _ _ => t1 r a) t2 (fun e he => by omega))) (fun g => absurd g (by omega))
    | succ m ih =>
      intro i hi τ t1 t2
      refine b4_fill_2 _ ⟨by omega, by omega⟩ (fun g => absurd g (by omega)) (fun _ => b4_fill_8 _ ⟨by omega, by omega⟩ ?_)
      rw [Int.toNat_natCast]
      refine ih (i + 1) (by omega) _ (fun r a => by rw [up_ne a]; exact t1 r a) (fun l hl => ?_)
      by_cases e : l = i
      · subst e; rw [up_at]
      · rw [up_nj e]; exact t2 l (by omega)
  exact b4_fill_0 (l1 16 0 rfl ρ (fun _ _ => rfl) (fun l hl => by omega))
end MM
