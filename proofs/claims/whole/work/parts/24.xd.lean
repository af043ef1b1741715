/-! ===== the class: a table that fits ===== -/
def noR (c rm : Tb) (e : Nat) : Prop := ∀ p, p < 4 → ¬ (0 < rm p ∧ 0 < c (4 * e + p))
def clR (c t : Tb) (A : Nat) (R : Nat → Prop) : Prop := ∀ e q f, e < 4 → q < 4 → f < 4 → R e → A.testBit q = false → 0 < c (4 * e + q) → 0 < t (4 * f + q) → R f
def FailR (c t rm : Tb) (e A : Nat) : Prop := ∃ R : Nat → Prop, R e ∧ (∀ f, f < 4 → R f → f ≠ e → noR c rm f) ∧ clR c t A R
theorem fail_all {c t rm : Tb} {x A : Nat} (hx : x < 4) (h : ∀ q, q < 4 → A.testBit q = false → 0 < c (4 * x + q) → ∀ e, e < 4 → e ≠ x → 0 < t (4 * e + q) → noR c rm e ∧ FailR c t rm e (A ||| 2 ^ q)) : FailR c t rm x A := by
  refine ⟨fun f => f = x ∨ ∃ (q e : Nat) (R' : Nat → Prop), q < 4 ∧ e < 4 ∧ A.testBit q = false ∧ 0 < c (4 * x + q) ∧ e ≠ x ∧ 0 < t (4 * e + q) ∧ noR c rm e ∧ R' e ∧ (∀ f, f < 4 → R' f → f ≠ e → noR c rm f) ∧ clR c t (A ||| 2 ^ q) R' ∧ R' f, Or.inl rfl, fun f hf hR hne => ?_, fun e q f he hq hf hR hA hc ht => ?_⟩
  · rcases hR with rfl | ⟨q, e, R', -, -, -, -, -, -, h7, -, h9, -, h11⟩
    · exact absurd rfl hne
    · by_cases q2 : f = e
      · rw [q2]; exact h7
      · exact h9 f hf h11 q2
  · have key : 0 < c (4 * x + q) → f = x ∨ ∃ (q e : Nat) (R' : Nat → Prop), q < 4 ∧ e < 4 ∧ A.testBit q = false ∧ 0 < c (4 * x + q) ∧ e ≠ x ∧ 0 < t (4 * e + q) ∧ noR c rm e ∧ R' e ∧ (∀ f, f < 4 → R' f → f ≠ e → noR c rm f) ∧ clR c t (A ||| 2 ^ q) R' ∧ R' f := by
      intro hcx
      by_cases q2 : f = x
      · exact Or.inl q2
      · obtain ⟨n1, R', r1, r2, r3⟩ := h q hq hA hcx f hf q2 ht
        exact Or.inr ⟨q, f, R', hq, hf, hA, hcx, q2, ht, n1, r1, r2, r3, r1⟩
    rcases hR with rfl | ⟨q0, e0, R', g1, g2, g3, g4, g5, g6, g7, g8, g9, g10, g11⟩
    · exact key hc
    · by_cases q2 : q = q0
      · subst q2; exact key g4
      · refine Or.inr ⟨q0, e0, R', g1, g2, g3, g4, g5, g6, g7, g8, g9, g10, g10 e q f he hq hf g11 ?_ hc ht⟩
        rw [Nat.testBit_or, hA, Nat.testBit_two_pow, Bool.false_or, decide_eq_false_iff_not]
        omega
theorem mask_ex (R : Nat → Prop) : ∃ A, A < 16 ∧ ∀ e, e < 4 → (A.testBit e = true ↔ R e) := by
  classical
  have key : ∀ b0 b1 b2 b3 : Bool, ∃ A, A < 16 ∧ (A.testBit 0 = b0 ∧ A.testBit 1 = b1 ∧ A.testBit 2 = b2 ∧ A.testBit 3 = b3) := by decide +kernel
  obtain ⟨A, hA, h0, h1, h2, h3⟩ := key (decide (R 0)) (decide (R 1)) (decide (R 2)) (decide (R 3))
  refine ⟨A, hA, fun e he => ?_⟩
  rcases (show e = 0 ∨ e = 1 ∨ e = 2 ∨ e = 3 by omega) with rfl | rfl | rfl | rfl
  · rw [h0]; simp
  · rw [h1]; simp
  · rw [h2]; simp
  · rw [h3]; simp
theorem sm4 (f : Nat → Int) : sm 4 f = f 0 + f 1 + f 2 + f 3 := by simp [sm]
/-- where no seat more can be found, there is a block -/
theorem fail_bad {c t rm sz sh : Tb} {D x : Nat} (hD : D ≤ 4) (hx : x < 4) (h0 : ∀ l, l < 16 → 0 ≤ t l) (hz : ∀ l, l < 16 → c l = 0 → t l = 0) (hcn : ∀ l, l < 16 → 0 ≤ c l) (hcD : ∀ l, l < 16 → D ≤ l / 4 → c l = 0) (hrm : ∀ p, p < 4 → 0 ≤ rm p ∧ col t p + rm p = sh p) (hrow : ∀ e, e < 4 → row t e ≤ sz e) (hxr : row t x < sz x) (hxD : x < D) (hn : noR c rm x) (hF : FailR c t rm x 0) : ∃ A, 1 ≤ A ∧ A < 2 ^ D ∧ badS c sz sh A := by
  obtain ⟨R, r1, r2, r3⟩ := hF
  have r2' : ∀ f, f < 4 → R f → noR c rm f := fun f hf hR => by
    by_cases q : f = x
    · rw [q]; exact hn
    · exact r2 f hf hR q
  obtain ⟨A, hA, hb⟩ := mask_ex (fun e => R e ∧ e < D)
  have hA2 : A < 2 ^ D := by
    apply Nat.lt_pow_two_of_testBit
    intro i hi
    by_cases q : i < 4
    · cases hbit : A.testBit i with
      | false => rfl
      | true => have := (hb i q).mp hbit; omega
    · exact Nat.testBit_lt_two_pow (Nat.lt_of_lt_of_le hA (Nat.pow_le_pow_right (n := 2) (i := 4) (j := i) (by omega) (by omega)))
  have hAx : A.testBit x = true := (hb x hx).mpr ⟨r1, hxD⟩
  refine ⟨A, ?_, hA2, ?_⟩
  · rcases Nat.eq_zero_or_pos A with q | q
    · rw [q] at hAx; simp at hAx
    · exact q
  have pos : ∀ e q, e < 4 → q < 4 → 0 < t (4 * e + q) → 0 < c (4 * e + q) ∧ e < D := by
    intro e q he hq ht
    have a1 := hz (4 * e + q) (by omega)
    have a2 := hcn (4 * e + q) (by omega)
    have a3 : c (4 * e + q) ≠ 0 := fun z => by have := a1 z; omega
    refine ⟨by omega, ?_⟩
    apply Classical.byContradiction
    intro hno
    exact a3 (hcD (4 * e + q) (by omega) (by omega))
  -- a reached party's share lies in the set
  have shq : ∀ q, q < 4 → rchB c A q = true → sh q = sm 4 (fun e => if A.testBit e = true then t (4 * e + q) else 0) := by
    intro q hq hr
    obtain ⟨l, l1, l2, l3, l4⟩ := (rchB_iff hq).mp hr
    have hl : l = 4 * (l / 4) + q := by omega
    have hRe := (hb (l / 4) (by omega)).mp l4
    have hno := r2' (l / 4) (by omega) hRe.1 q hq
    rw [← hl] at hno
    have hr0 := hrm q hq
    have hrz : rm q = 0 := by
      have : ¬ 0 < rm q := fun z => hno ⟨z, l3⟩
      omega
    have inR : ∀ f, f < 4 → (if A.testBit f = true then t (4 * f + q) else 0) = t (4 * f + q) := by
      intro f hf
      by_cases tf : 0 < t (4 * f + q)
      · obtain ⟨p1, p2⟩ := pos f q hf hq tf
        have := r3 (l / 4) q f (by omega) hq hf hRe.1 (Nat.zero_testBit q) (by rw [← hl]; exact l3) tf
        rw [if_pos ((hb f hf).mpr ⟨this, p2⟩)]
      · have := h0 (4 * f + q) (by omega)
        split <;> omega
    rw [sm_ext inR, sm4]
    have e := hr0.2
    unfold col at e
    simp only [Nat.mul_zero, Nat.zero_add, Nat.mul_one, Nat.reduceMul]
    omega
  have sup : supS c sh A ≤ sm 4 (fun e => if A.testBit e = true then row t e else 0) := by
    have s1 : supS c sh A ≤ sm 4 (fun q => sm 4 (fun e => if A.testBit e = true then t (4 * e + q) else 0)) := by
      refine sm_le fun q hq => ?_
      split
      · next hr => rw [shq q hq hr]; exact Int.le_refl _
      · exact sm_nn fun e he => by
          have := h0 (4 * e + q) (by omega)
          split <;> omega
    have s2 : sm 4 (fun q => sm 4 (fun e => if A.testBit e = true then t (4 * e + q) else 0)) = sm 4 (fun e => if A.testBit e = true then row t e else 0) := by
      simp only [sm4, row]
      generalize A.testBit 0 = b0
      generalize A.testBit 1 = b1
      generalize A.testBit 2 = b2
      generalize A.testBit 3 = b3
      cases b0 <;> cases b1 <;> cases b2 <;> cases b3 <;> simp <;> omega
    omega
  have dem : sm 4 (fun e => if A.testBit e = true then row t e else 0) < demS sz A := by
    refine sm_lt (fun e he => ?_) ⟨x, hx, ?_⟩
    · have := hrow e he
      split <;> omega
    · rw [if_pos hAx, if_pos hAx]; exact hxr
  unfold badS
  omega
section XD
variable {d : Nat} {σ : HP} {Q : MQt} {X : MXt}
theorem ok_afill : Ok d Y7_fill_53178 SX [vr 8, vi 0] σ (qv fun σ' => (∀ r, r ≠ 8 → σ' r = σ r) ∧ ∀ l, l < 16 → σ' 8 l = 0) := by
  refine Ok.ofWp (by decide) (Nat.le_of_ble_eq_true rfl) ?_
  have lp : ∀ k i : Nat, i + k = 16 → ∀ τ : HP, (∀ r, r ≠ 8 → τ r = σ r) → (∀ l, l < i → τ 8 l = 0) → Wp d Y7_fill_53178 SX 5 [some (vr 8), some (vi 0), some (vi (i : Int)), some (vi 16)] [] τ (qv fun σ' => (∀ r, r ≠ 8 → σ' r = σ r) ∧ ∀ l, l < 16 → σ' 8 l = 0) (fun _ _ _ _ => False) := by
    intro k
    induction k with
    | zero =>
      intro i hi τ h1 h2
      have e : i = 16 := by omega
      subst e
      exact b7_fill_53178_5 _ _ _ ⟨by omega, by omega⟩ ⟨by decide, by decide⟩ (fun _ => b7_fill_53178_20 ⟨rfl, h1, h2⟩) (fun h => absurd h (by omega))
    | succ k ih =>
      intro i hi τ h1 h2
      refine b7_fill_53178_5 _ _ _ ⟨by omega, by omega⟩ ⟨by decide, by decide⟩ (fun h => absurd h (by omega)) (fun _ => b7_fill_53178_10 _ _ _ ⟨by omega, by omega⟩ (ih (i + 1) (by omega) _ (fun r hr => ?_) (fun l hl => ?_)))
      · rw [up_ne hr]; exact h1 r hr
      · show up τ 8 i 0 8 l = 0
        by_cases q : l = i
        · rw [q, up_at]
        · rw [up_nj q]; exact h2 l (by omega)
  refine b7_fill_53178_0 _ ?_
  refine Wp.alen (r := 8) (n := 16) (by decide +kernel) rfl ?_
  exact b7_fill_53178_4 _ _ _ (lp 16 0 rfl σ (fun _ _ => rfl) (fun l hl => by omega))
/-- what holds of the table that is being filled -/
def FB (σ : HP) : Prop := (∀ l, l < 16 → 0 ≤ σ 5 l ∧ σ 5 l ≤ 500) ∧ (∀ l, l < 16 → 0 ≤ σ 8 l ∧ (σ 5 l = 0 → σ 8 l = 0)) ∧ ∀ p, p < 4 → 0 ≤ σ 11 p ∧ col (σ 8) p + σ 11 p = σ 7 p ∧ σ 7 p ≤ 20
theorem FB.le20 (h : FB σ) : ∀ l, l < 16 → 0 ≤ σ 8 l ∧ σ 8 l ≤ 20 := by
  intro l hl
  have h1 := h.2.2 (l % 4) (by omega)
  have a0 := (h.2.1 (l % 4) (by omega)).1
  have a1 := (h.2.1 (4 + l % 4) (by omega)).1
  have a2 := (h.2.1 (8 + l % 4) (by omega)).1
  have a3 := (h.2.1 (12 + l % 4) (by omega)).1
  have e := h1.2.1
  unfold col at e
  rcases (show l / 4 = 0 ∨ l / 4 = 1 ∨ l / 4 = 2 ∨ l / 4 = 3 by omega) with q | q | q | q
  · rw [show l % 4 = l by omega] at *; omega
  · rw [show 4 + l % 4 = l by omega] at *; omega
  · rw [show 8 + l % 4 = l by omega] at *; omega
  · rw [show 12 + l % 4 = l by omega] at *; omega
theorem ok_isStronger {a b : Nat} (ha : a < 16) (hb : b < 16) (h : FB σ) : Ok d Y0_isStronger SX [vr 5, vr 8, vi a, vi b] σ (qi fun z σ' => σ' = σ ∧ (z = 0 ∨ z = 1)) := by
  refine Ok.ofWp (by decide) (Nat.le_of_ble_eq_true rfl) ?_
  have m : ∀ a b, a < 16 → b < 16 → in32 (σ 5 a * (2 * σ 8 b + 1)) := by
    intro a b ha hb
    have h1 := h.1 a ha
    have h2 := h.le20 b hb
    have h3 := Int.mul_le_mul h1.2 (show 2 * σ 8 b + 1 ≤ 41 by omega) (by omega) (by omega)
    have h4 := Int.mul_nonneg h1.1 (show 0 ≤ 2 * σ 8 b + 1 by omega)
    exact ⟨by omega, by omega⟩
  exact b0_isStronger_0 _ _ ⟨by omega, by omega⟩ ⟨by omega, by omega⟩ (m a b ha hb) (m b a hb ha) (fun _ => b0_isStronger_29 (b0_isStronger_30 _ (Or.inl rfl) ⟨0, rfl, rfl, Or.inl rfl⟩)) (fun _ => b0_isStronger_25 (b0_isStronger_30 _ (Or.inr rfl) ⟨1, rfl, rfl, Or.inr rfl⟩))
def gvS (σ : HP) (x p : Nat) : HP := up (up σ 8 (4 * x + p) (σ 8 (4 * x + p) + 1)) 11 p (σ 11 p - 1)
theorem ok_takeRoom {x : Nat} (hx : x < 4) (h : FB σ) : Ok (d + 1) Y0_takeRoom SX [vr 5, vr 8, vr 11, vi x] σ (qi fun z σ' => (z = 0 ∧ σ' = σ ∧ noR (σ 5) (σ 11) x) ∨ (z = 1 ∧ ∃ p, p < 4 ∧ 0 < σ 11 p ∧ 0 < σ 5 (4 * x + p) ∧ σ' = gvS σ x p)) := by
  refine Ok.ofWp (by decide) (Nat.le_of_ble_eq_true rfl) ?_
  have lp : ∀ k i : Nat, i + k = 4 → ∀ b : Int, ((b = -1 ∧ ∀ p, p < i → ¬ (0 < σ 11 p ∧ 0 < σ 5 (4 * x + p))) ∨ (∃ p, p < 4 ∧ 0 < σ 11 p ∧ 0 < σ 5 (4 * x + p) ∧ b = ((4 * x + p : Nat) : Int))) →
      Wp (d + 1) Y0_takeRoom SX 6 [some (vr 5), some (vr 8), some (vr 11), some (vi (x : Int)), some (vi b), some (vi (i : Int)), none] [] σ (qi fun z σ' => (z = 0 ∧ σ' = σ ∧ noR (σ 5) (σ 11) x) ∨ (z = 1 ∧ ∃ p, p < 4 ∧ 0 < σ 11 p ∧ 0 < σ 5 (4 * x + p) ∧ σ' = gvS σ x p)) (fun _ _ _ _ => False) := by
    intro k
    induction k with
    | zero =>
      intro i hi b hb
      have e : i = 4 := by omega
      subst e
      refine b0_takeRoom_6 _ _ _ ⟨by omega, by omega⟩ (fun _ => ?_) (fun h => absurd h (by omega))
      rcases hb with ⟨rfl, hn⟩ | ⟨p, hp, h1, h2, rfl⟩
      · exact b0_takeRoom_61 _ ⟨by decide, by decide⟩ (fun q => absurd q (by decide)) (fun _ => b0_takeRoom_66 ⟨0, rfl, Or.inl ⟨rfl, rfl, hn⟩⟩)
      · refine b0_takeRoom_61 _ ⟨by omega, by omega⟩ (fun _ => ?_) (fun q => absurd q (by omega))
        refine b0_takeRoom_68 _ ⟨by omega, by omega⟩ ⟨by omega, by omega⟩ ⟨by omega, by omega⟩ ⟨1, rfl, Or.inr ⟨rfl, p, hp, h1, h2, ?_⟩⟩
        have e1 : (((4 * x + p : Nat) : Int)).toNat = 4 * x + p := by omega
        have e2 : (((4 * x + p : Nat) : Int) % 4).toNat = p := by omega
        rw [e1, e2, up_nr (by decide)]
        rfl
    | succ k ih =>
      intro i hi b hb
      have hi4 : i < 4 := by omega
      have hrm := h.2.2 i hi4
      have hcol : 0 ≤ col (σ 8) i := by
        have a0 := (h.2.1 i (by omega)).1
        have a1 := (h.2.1 (4 + i) (by omega)).1
        have a2 := (h.2.1 (8 + i) (by omega)).1
        have a3 := (h.2.1 (12 + i) (by omega)).1
        unfold col; omega
      have hcl := h.1 (4 * x + i) (by omega)
      have ei : (((x : Int) * 4) + (i : Int)) = ((4 * x + i : Nat) : Int) := by omega
      have et : (((4 * x + i : Nat) : Int)).toNat = 4 * x + i := by omega
      refine b0_takeRoom_6 _ _ _ ⟨by omega, by omega⟩ (fun h => absurd h (by omega)) (fun _ => ?_)
      have skip : ¬ (0 < σ 11 i ∧ 0 < σ 5 (4 * x + i)) → Wp (d + 1) Y0_takeRoom SX 55 [some (vr 5), some (vr 8), some (vr 11), some (vi (x : Int)), some (vi b), some (vi (i : Int)), none] [] σ (qi fun z σ' => (z = 0 ∧ σ' = σ ∧ noR (σ 5) (σ 11) x) ∨ (z = 1 ∧ ∃ p, p < 4 ∧ 0 < σ 11 p ∧ 0 < σ 5 (4 * x + p) ∧ σ' = gvS σ x p)) (fun _ _ _ _ => False) := by
        intro hno
        refine b0_takeRoom_55 _ _ _ (ih (i + 1) (by omega) b ?_)
        rcases hb with ⟨hb1, hb2⟩ | hb
        · refine Or.inl ⟨hb1, fun p hp => ?_⟩
          by_cases q : p = i
          · rw [q]; exact hno
          · exact hb2 p (by omega)
        · exact Or.inr hb
      refine b0_takeRoom_12 _ _ _ ⟨by omega, by omega⟩ (show in32 (σ 11 i) from ⟨by omega, by omega⟩) (fun q => skip fun z => by have q' : σ 11 i ≤ 0 := q; omega) (fun q1 => ?_)
      have q1' : 0 < σ 11 i := q1
      rw [ei]
      refine b0_takeRoom_27 _ _ _ _ ⟨by omega, by omega⟩ (by rw [et]; exact ⟨by omega, by omega⟩) (fun q => skip fun z => by rw [et] at q; omega) (fun q2 => ?_)
      rw [et] at q2
      have take : Wp (d + 1) Y0_takeRoom SX 51 [some (vr 5), some (vr 8), some (vr 11), some (vi (x : Int)), none, some (vi (i : Int)), some (vi ((4 * x + i : Nat) : Int))] [] σ (qi fun z σ' => (z = 0 ∧ σ' = σ ∧ noR (σ 5) (σ 11) x) ∨ (z = 1 ∧ ∃ p, p < 4 ∧ 0 < σ 11 p ∧ 0 < σ 5 (4 * x + p) ∧ σ' = gvS σ x p)) (fun _ _ _ _ => False) :=
        b0_takeRoom_51 _ _ _ (b0_takeRoom_55 _ _ _ (ih (i + 1) (by omega) _ (Or.inr ⟨i, hi4, q1', q2, rfl⟩)))
      have hbb : in32 b := by
        rcases hb with ⟨rfl, -⟩ | ⟨p, hp, -, -, rfl⟩
        · exact ⟨by decide, by decide⟩
        · exact ⟨by omega, by omega⟩
      refine b0_takeRoom_34 _ _ _ _ hbb (fun _ => take) (fun q3 => ?_)
      rcases hb with ⟨rfl, -⟩ | ⟨p, hp, g1, g2, rfl⟩
      · exact absurd q3 (by decide)
      · refine b0_takeRoom_39 _ _ _ _ (ok_isStronger (d := d) (a := 4 * x + i) (b := 4 * x + p) (by omega) (by omega) h) (fun z σ' hz => ?_)
        obtain ⟨rfl, hz⟩ := hz
        refine b0_takeRoom_48 _ _ _ _ _ (by rcases hz with rfl | rfl <;> exact ⟨by decide, by decide⟩) (fun _ => ?_) (fun _ => take)
        exact b0_takeRoom_55 _ _ _ (ih (i + 1) (by omega) _ (Or.inr ⟨p, hp, g1, g2, rfl⟩))
  exact b0_takeRoom_0 _ (lp 4 0 rfl (-1) (Or.inl ⟨rfl, fun p hp => by omega⟩))
end XD
