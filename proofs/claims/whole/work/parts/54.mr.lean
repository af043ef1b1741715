/-! ===== the rings there are ===== -/
def difB (r k : Nat) : Bool := (List.range k).all fun i => (List.range k).all fun j => (dg r i != dg r j) || i == j
def begB (r k : Nat) : Bool := difB r k && (List.range k).all fun i => i == 0 || decide (dg r 0 < dg r i)
theorem difB_iff {r k : Nat} : difB r k = true ↔ difP r k := by
  unfold difB difP
  simp only [List.all_eq_true, List.mem_range, Bool.or_eq_true, bne_iff_ne, beq_iff_eq]
  constructor
  · intro h i j hi hj e
    rcases h i hi j hj with q | q
    · exact absurd e q
    · exact q
  · intro h i hi j hj
    by_cases e : dg r i = dg r j
    · exact Or.inr (h i j hi hj e)
    · exact Or.inl e
theorem begB_iff {r k : Nat} : begB r k = true ↔ begP r k := by
  unfold begB begP
  rw [Bool.and_eq_true, difB_iff]
  simp only [List.all_eq_true, List.mem_range, Bool.or_eq_true, beq_iff_eq, decide_eq_true_eq]
  constructor
  · rintro ⟨a, h⟩
    refine ⟨a, fun i h1 h2 => ?_⟩
    rcases h i h2 with q | q
    · omega
    · exact q
  · rintro ⟨a, h⟩
    refine ⟨a, fun i h2 => ?_⟩
    by_cases e : i = 0
    · exact Or.inl e
    · exact Or.inr (h i (by omega) h2)
def allK (k : Nat) : Nat := if k = 2 then 16 else if k = 3 then 64 else 256
/-- how many rows before p differ -/
def cR (k : Nat) : Nat → Nat
  | 0 => 0
  | p + 1 => cR k p + if difB p k then 1 else 0
/-- how many rings before row d -/
def cD (k : Nat) : Nat → Nat
  | 0 => 0
  | d + 1 => cD k d + if begB d k then cR k (allK k) else 0
theorem cR_mono (k : Nat) {p q : Nat} (h : p ≤ q) : cR k p ≤ cR k q := by
  induction q with
  | zero => rw [show p = 0 by omega]; exact Nat.le_refl _
  | succ q ih =>
    by_cases e : p = q + 1
    · rw [e]; exact Nat.le_refl _
    · have := ih (by omega)
      simp only [cR]; omega
theorem cD_mono (k : Nat) {p q : Nat} (h : p ≤ q) : cD k p ≤ cD k q := by
  induction q with
  | zero => rw [show p = 0 by omega]; exact Nat.le_refl _
  | succ q ih =>
    by_cases e : p = q + 1
    · rw [e]; exact Nat.le_refl _
    · have := ih (by omega)
      simp only [cD]; omega
def base (k : Nat) : Nat := if k = 2 then 0 else if k = 3 then 72 else if k = 4 then 264 else 408
theorem cD_2 : cD 2 (allK 2) = 72 := by decide +kernel
theorem cD_3 : cD 3 (allK 3) = 192 := by decide +kernel
theorem cD_4 : cD 4 (allK 4) = 144 := by decide +kernel
theorem base_nx {k : Nat} (h2 : 2 ≤ k) (h4 : k ≤ 4) : base k + cD k (allK k) = base (k + 1) := by
  rcases (show k = 2 ∨ k = 3 ∨ k = 4 by omega) with rfl | rfl | rfl
  · rw [cD_2]; rfl
  · rw [cD_3]; rfl
  · rw [cD_4]; rfl
theorem base_le {k : Nat} : base k ≤ 408 := by unfold base; split <;> (try split) <;> (try split) <;> omega
/-- there is room for one more -/
theorem cnt_lt {k d p : Nat} (h2 : 2 ≤ k) (h4 : k ≤ 4) (hd : d < allK k) (hp : p < allK k) (hb : begB d k = true) (hf : difB p k = true) : base k + cD k d + cR k p < 408 := by
  have a := cR_mono k (show p + 1 ≤ allK k by omega)
  have b := cD_mono k (show d + 1 ≤ allK k by omega)
  have c := base_nx h2 h4
  have e := base_le (k := k + 1)
  simp only [cR, hf, if_true] at a
  simp only [cD, hb, if_true] at b
  omega
