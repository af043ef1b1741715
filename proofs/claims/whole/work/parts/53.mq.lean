/-! ===== the model: which rows make a ring ===== -/
def dg (r i : Nat) : Nat := r / 2 ^ (2 * i) % 4
def difP (r k : Nat) : Prop := ∀ i j, i < k → j < k → dg r i = dg r j → i = j
def begP (r k : Nat) : Prop := difP r k ∧ ∀ i, 1 ≤ i → i < k → dg r 0 < dg r i
theorem dg_lt (r i : Nat) : dg r i < 4 := Nat.mod_lt _ (by decide)
theorem and_tb {M v : Nat} : M &&& 2 ^ v = 0 ↔ M.testBit v = false := by
  constructor
  · intro h
    have : (M &&& 2 ^ v).testBit v = M.testBit v := by rw [Nat.testBit_and, Nat.testBit_two_pow_self, Bool.and_true]
    rw [h, Nat.zero_testBit] at this
    exact this.symm
  · intro h
    apply Nat.eq_of_testBit_eq
    intro i
    rw [Nat.testBit_and, Nat.testBit_two_pow, Nat.zero_testBit]
    by_cases e : v = i
    · subst e; rw [h]; rfl
    · simp [e]
section MQ
variable {d : Nat} {ρ : HP} {Q : MQt} {X : MXt}
theorem dg_N {r i : Nat} (hr : r < 2147483648) (hi : i < 4) : bA (bR (r : Int) (2 * (i : Int))) 3 = ((dg r i : Nat) : Int) := by
  have hd : r / 2 ^ (2 * i) ≤ r := Nat.div_le_self _ _
  rw [show 2 * (i : Int) = ((2 * i : Nat) : Int) by omega, bR_N hr (by omega), bA_3 (by omega)]
  rfl
theorem mok_differ {r k : Nat} (hr : r < 65536) (hk : k ≤ 4) : Ok d Y4_differ SM [vi r, vi k] ρ (qi fun z ρ' => ρ' = ρ ∧ ((z = 1 ∧ difP r k) ∨ (z = 0 ∧ ¬ difP r k))) := by
  refine Ok.ofWp (by decide) (Nat.le_of_ble_eq_true rfl) ?_
  have lp : ∀ m i : Nat, i + m = k → ∀ M : Nat, M < 16 → (∀ v, v < 4 → (M.testBit v = true ↔ ∃ j, j < i ∧ dg r j = v)) → difP r i → Wp d Y4_differ SM 4 [some (vi (r : Int)), some (vi (k : Int)), some (vi (M : Int)), some (vi (i : Int)), none] [] ρ (qi fun z ρ' => ρ' = ρ ∧ ((z = 1 ∧ difP r k) ∨ (z = 0 ∧ ¬ difP r k))) (fun _ _ _ _ => False) := by
    intro m
    induction m with
    | zero =>
      intro i hi M M16 hM hd
      have e : i = k := by omega
      subst e
      exact b4_differ_4 _ _ _ _ ⟨by omega, by omega⟩ ⟨by omega, by omega⟩ (fun _ => b4_differ_40 ⟨1, rfl, rfl, Or.inl ⟨rfl, hd⟩⟩) (fun g => absurd g (by omega))
    | succ m ih =>
      intro i hi M M16 hM hd
      have v4 := dg_lt r i
      have p16 : 2 ^ dg r i < 2 ^ 4 := Nat.pow_lt_pow_right (by decide) v4
      have eL : bL 1 (bA (bR (r : Int) (2 * (i : Int))) 3) = ((2 ^ dg r i : Nat) : Int) := by
        rw [dg_N (by omega) (by omega), show (1 : Int) = ((1 : Nat) : Int) from rfl, bL_N (by omega) (by omega), Nat.one_mul]
      have eA : bA (M : Int) ((2 ^ dg r i : Nat) : Int) = ((M &&& 2 ^ dg r i : Nat) : Int) := bA_N (by omega)
      have an : M &&& 2 ^ dg r i ≤ M := Nat.and_le_left
      refine b4_differ_4 _ _ _ _ ⟨by omega, by omega⟩ ⟨by omega, by omega⟩ (fun g => absurd g (by omega)) (fun _ => ?_)
      refine b4_differ_9 _ _ _ _ (by rw [eL, eA]; exact ⟨by omega, by omega⟩) (fun g => ?_) (fun g => ?_)
      · rw [eL, eA] at g
        have nb : M.testBit (dg r i) = false := and_tb.1 (by omega)
        rw [eL]
        refine b4_differ_29 _ _ _ _ _ ?_
        rw [bO_N (by omega) (by omega)]
        refine ih (i + 1) (by omega) _ (Nat.or_lt_two_pow (n := 4) M16 p16) (fun v hv => ?_) (fun a b ha hb hab => ?_)
        · rw [tb_or, Bool.or_eq_true, decide_eq_true_eq, hM v hv]
          constructor
          · rintro (⟨j, j1, j2⟩ | e)
            · exact ⟨j, by omega, j2⟩
            · exact ⟨i, by omega, e.symm⟩
          · rintro ⟨j, j1, j2⟩
            by_cases e : j = i
            · subst e; exact Or.inr j2.symm
            · exact Or.inl ⟨j, by omega, j2⟩
        · by_cases ea : a = i <;> by_cases eb : b = i
          · omega
          · subst ea
            have := (hM _ v4).2 ⟨b, by omega, hab.symm⟩
            rw [nb] at this; cases this
          · subst eb
            have := (hM _ v4).2 ⟨a, by omega, hab⟩
            rw [nb] at this; cases this
          · exact hd a b (by omega) (by omega) hab
      · rw [eL, eA] at g
        have yb : M.testBit (dg r i) = true := by
          cases q : M.testBit (dg r i) with
          | true => rfl
          | false => have := and_tb.2 q; omega
        obtain ⟨j, j1, j2⟩ := (hM _ v4).1 yb
        refine b4_differ_27 ⟨0, rfl, rfl, Or.inr ⟨rfl, fun h => ?_⟩⟩
        have := h j i (by omega) (by omega) j2
        omega
  exact b4_differ_0 _ _ (lp k 0 (by omega) 0 (by omega) (fun v hv => by simp) (fun a b ha => by omega))
theorem mok_begins {r k : Nat} (hr : r < 65536) (hk : k ≤ 4) (k2 : 2 ≤ k) : Ok (d + 1) Y4_begins SM [vi r, vi k] ρ (qi fun z ρ' => ρ' = ρ ∧ ((z = 1 ∧ begP r k) ∨ (z = 0 ∧ ¬ begP r k))) := by
  refine Ok.ofWp (by decide) (Nat.le_of_ble_eq_true rfl) ?_
  refine b4_begins_0 (d := d) _ _ (mok_differ hr hk) (fun z ρ1 hz => ?_)
  obtain ⟨rfl, hz⟩ := hz
  refine b4_begins_5 _ _ _ ?_
  have e0 : bA (r : Int) 3 = ((dg r 0 : Nat) : Int) := by
    rw [bA_3 (by omega)]; unfold dg; simp
  have lp : ∀ m i : Nat, i + m = k → 1 ≤ i → ∀ b : Int, ((b = 1 ∧ difP r k ∧ ∀ j, 1 ≤ j → j < i → dg r 0 < dg r j) ∨ (b = 0 ∧ ¬ begP r k)) → Wp (d + 1) Y4_begins SM 8 [some (vi (r : Int)), some (vi (k : Int)), some (vi b), some (vi (i : Int))] [] ρ1 (qi fun z ρ' => ρ' = ρ1 ∧ ((z = 1 ∧ begP r k) ∨ (z = 0 ∧ ¬ begP r k))) (fun _ _ _ _ => False) := by
    intro m
    induction m with
    | zero =>
      intro i hi h1 b hb
      have e : i = k := by omega
      subst e
      refine b4_begins_8 _ _ _ _ ⟨by omega, by omega⟩ ⟨by omega, by omega⟩ (fun _ => b4_begins_42 _ (by rcases hb with ⟨q, -⟩ | ⟨q, -⟩ <;> simp [q]) ⟨b, rfl, rfl, ?_⟩) (fun g => absurd g (by omega))
      rcases hb with ⟨rfl, a, c⟩ | hb
      · exact Or.inl ⟨rfl, a, c⟩
      · exact Or.inr hb
    | succ m ih =>
      intro i hi h1 b hb
      have eg := dg_N (r := r) (i := i) (by omega) (by omega)
      have l0 := dg_lt r 0
      have li := dg_lt r i
      have no : ¬ begP r k → Wp (d + 1) Y4_begins SM 34 [some (vi (r : Int)), some (vi (k : Int)), none, some (vi (i : Int))] [] ρ1 (qi fun z ρ' => ρ' = ρ1 ∧ ((z = 1 ∧ begP r k) ∨ (z = 0 ∧ ¬ begP r k))) (fun _ _ _ _ => False) := fun g => b4_begins_34 _ _ _ (b4_begins_35 _ _ _ _ (ih (i + 1) (by omega) (by omega) 0 (Or.inr ⟨rfl, g⟩)))
      refine b4_begins_8 _ _ _ _ ⟨by omega, by omega⟩ ⟨by omega, by omega⟩ (fun g => absurd g (by omega)) (fun _ => ?_)
      rcases hb with ⟨rfl, a, c⟩ | ⟨rfl, hb⟩
      · refine b4_begins_13 _ _ _ _ ⟨by decide, by decide⟩ (fun g => absurd g (by decide)) (fun _ => ?_)
        refine b4_begins_17 _ _ _ (by rw [e0]; exact ⟨by omega, by omega⟩) (by rw [eg]; exact ⟨by omega, by omega⟩) (fun g => no (fun h => ?_)) (fun g => ?_)
        · rw [e0, eg] at g
          have := h.2 i h1 (by omega)
          omega
        · rw [e0, eg] at g
          refine b4_begins_30 _ _ _ (b4_begins_35 _ _ _ _ (ih (i + 1) (by omega) (by omega) 1 (Or.inl ⟨rfl, a, fun j j1 j2 => ?_⟩)))
          by_cases e : j = i
          · subst e; omega
          · exact c j j1 (by omega)
      · exact b4_begins_13 _ _ _ _ ⟨by decide, by decide⟩ (fun _ => no hb) (fun g => absurd rfl g)
  rcases hz with ⟨rfl, hz⟩ | ⟨rfl, hz⟩
  · exact lp (k - 1) 1 (by omega) (by omega) 1 (Or.inl ⟨rfl, hz, fun j j1 j2 => by omega⟩)
  · exact lp (k - 1) 1 (by omega) (by omega) 0 (Or.inr ⟨rfl, fun h => hz h.1⟩)
end MQ
