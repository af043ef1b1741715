/-! ===== the class: making room, and the whole filling ===== -/
section XE
variable {d : Nat} {σ : HP} {Q : MQt} {X : MXt}
def frA (A : Nat) : Nat := (if A.testBit 0 then 0 else 1) + (if A.testBit 1 then 0 else 1) + (if A.testBit 2 then 0 else 1) + (if A.testBit 3 then 0 else 1)
theorem frA_or {A q : Nat} (hq : q < 4) (h : A.testBit q = false) : frA (A ||| 2 ^ q) + 1 = frA A := by
  unfold frA
  simp only [Nat.testBit_or, Nat.testBit_two_pow]
  rcases (show q = 0 ∨ q = 1 ∨ q = 2 ∨ q = 3 by omega) with rfl | rfl | rfl | rfl <;> rw [h] <;> simp <;> omega
/-- a seat more for district x, and what stays -/
def MR (σ σ' : HP) (x A : Nat) : Prop := (∀ r, r ≠ 8 → r ≠ 11 → σ' r = σ r) ∧ (∀ l, l < 16 → 0 ≤ σ' 8 l ∧ (σ 5 l = 0 → σ' 8 l = 0)) ∧ (∀ p, p < 4 → 0 ≤ σ' 11 p ∧ col (σ' 8) p + σ' 11 p = col (σ 8) p + σ 11 p) ∧ (∀ e, e < 4 → row (σ' 8) e = row (σ 8) e + if e = x then 1 else 0) ∧ ∀ q, q < 4 → A.testBit q = true → ∀ e, e < 4 → σ 8 (4 * e + q) ≤ σ' 8 (4 * e + q)
theorem up8 {σ : HP} {l : Nat} {z : Int} : up σ 8 l (σ 8 l + z) 8 = inc (σ 8) l z := by
  funext j
  by_cases h : j = l
  · subst h; rw [up_at]; simp [inc]
  · rw [up_nj h]; simp [inc, h]
theorem gv_MR {x p : Nat} (hx : x < 4) (hp : p < 4) (h : FB σ) (hr : 0 < σ 11 p) (hc : 0 < σ 5 (4 * x + p)) (A : Nat) : MR σ (gvS σ x p) x A := by
  have e8 : gvS σ x p 8 = inc (σ 8) (4 * x + p) 1 := by unfold gvS; rw [up_ne (by decide), up8]
  have e11 : ∀ q, gvS σ x p 11 q = if q = p then σ 11 p - 1 else σ 11 q := by
    intro q
    unfold gvS
    by_cases e : q = p
    · rw [e, up_at, if_pos rfl]
    · rw [up_nj e, up_nr (by decide), if_neg e]
  refine ⟨fun r a b => ?_, fun l hl => ?_, fun q hq => ?_, fun e he => ?_, fun q hq _ e he => ?_⟩
  · unfold gvS; rw [up_ne b, up_ne a]
  · have h1 := h.2.1 l hl
    rw [e8]
    unfold inc
    by_cases q : l = 4 * x + p
    · rw [if_pos q]
      exact ⟨by omega, fun z => by rw [q] at z; omega⟩
    · rw [if_neg q]; exact h1
  · have h1 := h.2.2 q hq
    rw [e8, e11, col_inc hx hp hq]
    by_cases e : q = p
    · rw [if_pos e, if_pos e.symm, e]; rw [e] at h1; omega
    · rw [if_neg e, if_neg (fun z => e z.symm)]; omega
  · rw [e8, row_inc hp]
    by_cases q : e = x
    · rw [if_pos q, if_pos q.symm]
    · rw [if_neg q, if_neg (fun z => q z.symm)]
  · rw [e8]; unfold inc; split <;> omega
theorem MR.fb {σ' : HP} {x A : Nat} (h : FB σ) (hm : MR σ σ' x A) : FB σ' := by
  have e5 : σ' 5 = σ 5 := hm.1 5 (by decide) (by decide)
  have e7 : σ' 7 = σ 7 := hm.1 7 (by decide) (by decide)
  refine ⟨by rw [e5]; exact h.1, fun l hl => by rw [e5]; exact hm.2.1 l hl, fun p hp => ?_⟩
  have h1 := h.2.2 p hp
  have h2 := hm.2.2.1 p hp
  rw [e7]; omega
/-- the district e has found a seat; its seat at party p goes to district x -/
theorem move_MR {τ : HP} {x e p A : Nat} (hx : x < 4) (he : e < 4) (hp : p < 4) (hne : e ≠ x) (h : FB σ) (hc : 0 < σ 5 (4 * x + p)) (hA : A.testBit p = false) (hm : MR σ τ e A) (ht : 1 ≤ τ 8 (4 * e + p)) :
    MR σ (up (up τ 8 (4 * e + p) (τ 8 (4 * e + p) - 1)) 8 (4 * x + p) ((up τ 8 (4 * e + p) (τ 8 (4 * e + p) - 1)) 8 (4 * x + p) + 1)) x A := by
  have e8 : up (up τ 8 (4 * e + p) (τ 8 (4 * e + p) - 1)) 8 (4 * x + p) ((up τ 8 (4 * e + p) (τ 8 (4 * e + p) - 1)) 8 (4 * x + p) + 1) 8 = inc (inc (τ 8) (4 * e + p) (-1)) (4 * x + p) 1 := by
    rw [up8, show τ 8 (4 * e + p) - 1 = τ 8 (4 * e + p) + (-1) by omega, up8]
  refine ⟨fun r a b => ?_, fun l hl => ?_, fun q hq => ?_, fun f hf => ?_, fun q hq hqA f hf => ?_⟩
  · rw [up_ne a, up_ne a]; exact hm.1 r a b
  · have h1 := hm.2.1 l hl
    rw [e8]
    unfold inc
    by_cases q1 : l = 4 * x + p
    · have q2 : l ≠ 4 * e + p := by omega
      rw [if_pos q1, if_neg q2]
      exact ⟨by omega, fun z => by rw [q1] at z; omega⟩
    · rw [if_neg q1]
      by_cases q2 : l = 4 * e + p
      · rw [if_pos q2]
        exact ⟨by rw [q2]; omega, fun z => by have := h1.2 z; rw [q2] at this; omega⟩
      · rw [if_neg q2]; exact h1
  · have h1 := hm.2.2.1 q hq
    rw [e8, col_inc hx hp hq, col_inc he hp hq, up_nr (by decide), up_nr (by decide)]
    split <;> omega
  · have h1 := hm.2.2.2.1 f hf
    rw [e8, row_inc hp, row_inc hp]
    have a1 : (if x = f then (1 : Int) else 0) = if f = x then 1 else 0 := by
      by_cases q : f = x
      · rw [if_pos q, if_pos q.symm]
      · rw [if_neg q, if_neg (fun z => q z.symm)]
    have a2 : (if e = f then (-1 : Int) else 0) = if f = e then -1 else 0 := by
      by_cases q : f = e
      · rw [if_pos q, if_pos q.symm]
      · rw [if_neg q, if_neg (fun z => q z.symm)]
    rw [a1, a2]
    split at h1 <;> split <;> split <;> omega
  · have h1 := hm.2.2.2.2 q hq hqA f hf
    have hqp : q ≠ p := fun z => by rw [z, hA] at hqA; cases hqA
    rw [e8]
    unfold inc
    rw [if_neg (by omega), if_neg (by omega)]
    exact h1
def mrQ (σ : HP) (x A : Nat) (z : Int) (σ' : HP) : Prop := (z = 0 ∧ σ' = σ ∧ FailR (σ 5) (σ 8) (σ 11) x A) ∨ (z = 1 ∧ MR σ σ' x A)
theorem ok_makeRoom : ∀ (n : Nat) (d : Nat) (σ : HP) (x A : Nat), x < 4 → A < 16 → frA A ≤ n → FB σ → Ok (d + n + 2) Y0_makeRoom SX [vr 5, vr 8, vr 11, vi x, vi A] σ (qi fun z σ' => mrQ σ x A z σ') := by
  intro n
  induction n with
  | zero =>
    intro d σ x A hx hA hn h
    refine Ok.ofWp (by decide) (Nat.le_of_ble_eq_true rfl) ?_
    have all : ∀ q, q < 4 → A.testBit q = true := by
      intro q hq
      unfold frA at hn
      rcases (show q = 0 ∨ q = 1 ∨ q = 2 ∨ q = 3 by omega) with rfl | rfl | rfl | rfl
      · cases hb : A.testBit 0 with
        | true => rfl
        | false => rw [hb] at hn; simp at hn
      · cases hb : A.testBit 1 with
        | true => rfl
        | false => rw [hb] at hn; simp at hn
      · cases hb : A.testBit 2 with
        | true => rfl
        | false => rw [hb] at hn; simp at hn
      · cases hb : A.testBit 3 with
        | true => rfl
        | false => rw [hb] at hn; simp at hn
    have lp : ∀ k i : Nat, i + k = 4 → Wp (d + 0 + 2) Y0_makeRoom SX 3 [some (vr 5), some (vr 8), some (vr 11), some (vi (x : Int)), some (vi (A : Int)), some (vi (i : Int)), none] [] σ (qi fun z σ' => mrQ σ x A z σ') (fun _ _ _ _ => False) := by
      intro k
      induction k with
      | zero =>
        intro i hi
        have e : i = 4 := by omega
        subst e
        exact b0_makeRoom_3 _ _ _ ⟨by omega, by omega⟩ (fun _ => b0_makeRoom_131 ⟨0, rfl, Or.inl ⟨rfl, rfl, fail_all hx fun q hq hf => by rw [all q hq] at hf; cases hf⟩⟩) (fun z => absurd z (by omega))
      | succ k ih =>
        intro i hi
        have hcl := h.1 (4 * x + i) (by omega)
        have ei : (((x : Int) * 4) + (i : Int)).toNat = 4 * x + i := by omega
        refine b0_makeRoom_3 _ _ _ ⟨by omega, by omega⟩ (fun z => absurd z (by omega)) (fun _ => ?_)
        refine b0_makeRoom_9 _ _ _ ⟨by omega, by omega⟩ (by rw [ei]; exact ⟨by omega, by omega⟩) (fun _ => b0_makeRoom_125 _ _ _ (ih (i + 1) (by omega))) (fun _ => ?_)
        refine b0_makeRoom_20 (d := d + 1) _ _ _ (ok_isIn (a := A) (k := i) (by omega) (by omega)) (fun z σ' hz => ?_)
        obtain ⟨rfl, hz⟩ := hz
        rw [all i (by omega), if_pos rfl] at hz
        subst hz
        exact b0_makeRoom_27 _ _ _ _ ⟨by decide, by decide⟩ (fun q => absurd q (by decide)) (fun _ => b0_makeRoom_30 _ _ _ (b0_makeRoom_125 _ _ _ (ih (i + 1) (by omega))))
    exact b0_makeRoom_0 _ _ (lp 4 0 rfl)
  | succ n ih =>
    intro d σ x A hx hA hn h
    refine Ok.ofWp (by decide) (Nat.le_of_ble_eq_true rfl) ?_
    have h20 := h.le20
    -- the districts behind one party
    have l2 : ∀ i : Nat, i < 4 → A.testBit i = false → 0 < σ 5 (4 * x + i) → ∀ k j : Nat, j + k = 4 → (∀ e, e < j → e ≠ x → 0 < σ 8 (4 * e + i) → noR (σ 5) (σ 11) e ∧ FailR (σ 5) (σ 8) (σ 11) e (A ||| 2 ^ i)) →
        ((∀ e, e < 4 → e ≠ x → 0 < σ 8 (4 * e + i) → noR (σ 5) (σ 11) e ∧ FailR (σ 5) (σ 8) (σ 11) e (A ||| 2 ^ i)) → Wp (d + (n + 1) + 2) Y0_makeRoom SX 125 [some (vr 5), some (vr 8), some (vr 11), some (vi (x : Int)), some (vi (A : Int)), some (vi (i : Int)), none] [] σ (qi fun z σ' => mrQ σ x A z σ') (fun _ _ _ _ => False)) →
        Wp (d + (n + 1) + 2) Y0_makeRoom SX 36 [some (vr 5), some (vr 8), some (vr 11), some (vi (x : Int)), some (vi (A : Int)), some (vi (i : Int)), some (vi (j : Int))] [] σ (qi fun z σ' => mrQ σ x A z σ') (fun _ _ _ _ => False) := by
      intro i hi hAi hci k
      induction k with
      | zero =>
        intro j hj hf K
        have e : j = 4 := by omega
        subst e
        exact b0_makeRoom_36 _ _ _ _ ⟨by omega, by omega⟩ (fun _ => K hf) (fun z => absurd z (by omega))
      | succ k ihk =>
        intro j hj hf K
        have hj4 : j < 4 := by omega
        have hb := h20 (4 * j + i) (by omega)
        have ej : (((j : Int) * 4) + (i : Int)).toNat = 4 * j + i := by omega
        have ex : (((x : Int) * 4) + (i : Int)).toNat = 4 * x + i := by omega
        have next : (j ≠ x → 0 < σ 8 (4 * j + i) → noR (σ 5) (σ 11) j ∧ FailR (σ 5) (σ 8) (σ 11) j (A ||| 2 ^ i)) → Wp (d + (n + 1) + 2) Y0_makeRoom SX 119 [some (vr 5), some (vr 8), some (vr 11), some (vi (x : Int)), some (vi (A : Int)), some (vi (i : Int)), some (vi (j : Int))] [] σ (qi fun z σ' => mrQ σ x A z σ') (fun _ _ _ _ => False) := by
          intro hnj
          refine b0_makeRoom_119 _ _ _ _ (ihk (j + 1) (by omega) (fun e he hex ht => ?_) K)
          by_cases q : e = j
          · subst q; exact hnj hex ht
          · exact hf e (by omega) hex ht
        refine b0_makeRoom_36 _ _ _ _ ⟨by omega, by omega⟩ (fun z => absurd z (by omega)) (fun _ => ?_)
        refine b0_makeRoom_42 _ _ _ _ ⟨by omega, by omega⟩ ⟨by omega, by omega⟩ (fun q => next fun z => absurd (by omega) z) (fun hjx => ?_)
        refine b0_makeRoom_48 _ _ _ _ ⟨by omega, by omega⟩ (by rw [ej]; exact ⟨by omega, by omega⟩) (fun hts => ?_) (fun hts => b0_makeRoom_60 _ _ _ _ (next fun _ z => by rw [ej] at hts; omega))
        rw [ej] at hts
        have htp : 1 ≤ σ 8 (4 * j + i) := by omega
        have hjx' : j ≠ x := fun z => hjx (by omega)
        have done : ∀ τ : HP, MR σ τ j A → 1 ≤ τ 8 (4 * j + i) → Wp (d + (n + 1) + 2) Y0_makeRoom SX 92 [none, some (vr 8), none, some (vi (x : Int)), none, some (vi (i : Int)), some (vi (j : Int))] [] τ (qi fun z σ' => mrQ σ x A z σ') (fun _ _ _ _ => False) := by
          intro τ hm ht
          refine b0_makeRoom_92 _ _ _ ⟨by omega, by omega⟩ ⟨by omega, by omega⟩ ⟨1, rfl, Or.inr ⟨rfl, ?_⟩⟩
          rw [ej, ex]
          exact move_MR hx hj4 hi hjx' h hci hAi hm ht
        refine b0_makeRoom_63 (d := d + n + 2) _ _ _ _ (ok_takeRoom (d := d + n + 1) hj4 h) (fun z τ hz => ?_)
        rcases hz with ⟨rfl, rfl, hno⟩ | ⟨rfl, p, hp, g1, g2, rfl⟩
        · refine b0_makeRoom_71 _ _ _ _ _ ⟨by decide, by decide⟩ (fun q => absurd rfl q) (fun _ => ?_)
          have hpw : 2 ^ i < 16 := Nat.pow_lt_pow_right (a := 2) (n := 4) (by omega) (by omega)
          have eb : bO (A : Int) (bL 1 (i : Int)) = ((A ||| 2 ^ i : Nat) : Int) := by
            have e1 := bL_N (a := 1) (k := i) (by omega) (by omega)
            rw [Nat.one_mul] at e1
            have e2 : bL 1 (i : Int) = ((2 ^ i : Nat) : Int) := e1
            rw [e2]; exact bO_N (by omega) (by omega)
          refine b0_makeRoom_74 (d := d + n + 2) _ _ _ _ (P := fun z σ' => mrQ τ j (A ||| 2 ^ i) z σ') (by rw [eb]; exact ih d τ j (A ||| 2 ^ i) hj4 (Nat.or_lt_two_pow (n := 4) hA hpw) (by have := frA_or hi hAi; omega) h) (fun z τ' hz => ?_)
          rcases hz with ⟨rfl, rfl, hfl⟩ | ⟨rfl, hm⟩
          · exact b0_makeRoom_89 _ _ _ _ _ ⟨by decide, by decide⟩ (fun _ => next fun _ _ => ⟨hno, hfl⟩) (fun q => absurd rfl q)
          · refine b0_makeRoom_89 _ _ _ _ _ ⟨by decide, by decide⟩ (fun q => absurd q (by decide)) (fun _ => done τ' ⟨hm.1, hm.2.1, hm.2.2.1, hm.2.2.2.1, fun q hq hqA e he => ?_⟩ ?_)
            · exact hm.2.2.2.2 q hq (by rw [Nat.testBit_or, hqA]; rfl) e he
            · have := hm.2.2.2.2 i hi (by rw [Nat.testBit_or, Nat.testBit_two_pow]; simp) j hj4
              omega
        · refine b0_makeRoom_71 _ _ _ _ _ ⟨by decide, by decide⟩ (fun _ => ?_) (fun q => absurd q (by decide))
          have hm := gv_MR hj4 hp h g1 g2 A
          refine done _ hm ?_
          have : gvS σ j p 8 = inc (σ 8) (4 * j + p) 1 := by unfold gvS; rw [up_ne (by decide), up8]
          rw [this]
          unfold inc
          split <;> omega
    have l1 : ∀ k i : Nat, i + k = 4 → (∀ q, q < i → A.testBit q = false → 0 < σ 5 (4 * x + q) → ∀ e, e < 4 → e ≠ x → 0 < σ 8 (4 * e + q) → noR (σ 5) (σ 11) e ∧ FailR (σ 5) (σ 8) (σ 11) e (A ||| 2 ^ q)) →
        Wp (d + (n + 1) + 2) Y0_makeRoom SX 3 [some (vr 5), some (vr 8), some (vr 11), some (vi (x : Int)), some (vi (A : Int)), some (vi (i : Int)), none] [] σ (qi fun z σ' => mrQ σ x A z σ') (fun _ _ _ _ => False) := by
      intro k
      induction k with
      | zero =>
        intro i hi hf
        have e : i = 4 := by omega
        subst e
        exact b0_makeRoom_3 _ _ _ ⟨by omega, by omega⟩ (fun _ => b0_makeRoom_131 ⟨0, rfl, Or.inl ⟨rfl, rfl, fail_all hx hf⟩⟩) (fun z => absurd z (by omega))
      | succ k ihk =>
        intro i hi hf
        have hi4 : i < 4 := by omega
        have hcl := h.1 (4 * x + i) (by omega)
        have ei : (((x : Int) * 4) + (i : Int)).toNat = 4 * x + i := by omega
        have next : (A.testBit i = false → 0 < σ 5 (4 * x + i) → ∀ e, e < 4 → e ≠ x → 0 < σ 8 (4 * e + i) → noR (σ 5) (σ 11) e ∧ FailR (σ 5) (σ 8) (σ 11) e (A ||| 2 ^ i)) → Wp (d + (n + 1) + 2) Y0_makeRoom SX 125 [some (vr 5), some (vr 8), some (vr 11), some (vi (x : Int)), some (vi (A : Int)), some (vi (i : Int)), none] [] σ (qi fun z σ' => mrQ σ x A z σ') (fun _ _ _ _ => False) := by
          intro hni
          refine b0_makeRoom_125 _ _ _ (ihk (i + 1) (by omega) (fun q hq => ?_))
          by_cases e : q = i
          · subst e; exact hni
          · exact hf q (by omega)
        refine b0_makeRoom_3 _ _ _ ⟨by omega, by omega⟩ (fun z => absurd z (by omega)) (fun _ => ?_)
        refine b0_makeRoom_9 _ _ _ ⟨by omega, by omega⟩ (by rw [ei]; exact ⟨by omega, by omega⟩) (fun q => next fun _ z => by rw [ei] at q; omega) (fun hc => ?_)
        rw [ei] at hc
        refine b0_makeRoom_20 (d := d + n + 2) _ _ _ (ok_isIn (a := A) (k := i) (by omega) (by omega)) (fun z σ' hz => ?_)
        obtain ⟨rfl, hz⟩ := hz
        cases hb : A.testBit i with
        | true =>
          rw [hb, if_pos rfl] at hz
          subst hz
          exact b0_makeRoom_27 _ _ _ _ ⟨by decide, by decide⟩ (fun q => absurd q (by decide)) (fun _ => b0_makeRoom_30 _ _ _ (next fun z => by rw [hb] at z; cases z))
        | false =>
          rw [hb, if_neg (by decide)] at hz
          subst hz
          refine b0_makeRoom_27 _ _ _ _ ⟨by decide, by decide⟩ (fun _ => ?_) (fun q => absurd rfl q)
          exact b0_makeRoom_33 _ _ _ (l2 i hi4 hb (by omega) 4 0 rfl (fun e he => by omega) (fun hfl => next fun _ _ => hfl))
    exact b0_makeRoom_0 _ _ (l1 4 0 rfl (fun q hq => by omega))
end XE
