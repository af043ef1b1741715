/-! ===== the model's constructor: all rings stand in a row ===== -/
def cd (k d p : Nat) : Nat := k + 16 * d + 4096 * p
theorem cd_or {k d p : Nat} (hk : k < 8) (hd : d < 256) (hp : p < 256) : bO (bO (k : Int) (bL (d : Int) 4)) (bL (p : Int) 12) = ((cd k d p : Nat) : Int) := by
  have e1 : bL (d : Int) 4 = ((d * 2 ^ 4 : Nat) : Int) := bL_N (k := 4) (by omega) (by omega)
  have e2 : bL (p : Int) 12 = ((p * 2 ^ 12 : Nat) : Int) := bL_N (k := 12) (by omega) (by omega)
  have o1 : k ||| d * 2 ^ 4 = 2 ^ 4 * d + k := by
    rw [Nat.or_comm, Nat.mul_comm, Nat.two_pow_add_eq_or_of_lt (by omega)]
  have o2 : (2 ^ 4 * d + k) ||| p * 2 ^ 12 = 2 ^ 12 * p + (2 ^ 4 * d + k) := by
    rw [Nat.or_comm, Nat.mul_comm p]
    exact (Nat.two_pow_add_eq_or_of_lt (i := 12) (b := 2 ^ 4 * d + k) (by omega) p).symm
  rw [e1, e2, bO_N (by omega) (by omega), o1, bO_N (by omega) (by omega), o2]
  unfold cd
  omega
theorem cd_code {k d p : Nat} (hk : k ≤ 4) (hd : d < 256) (hp : p < 256) : isCode (cd k d p) k (dg d) (dg p) := by
  unfold cd
  refine ⟨by omega, by omega, fun i hi => ?_⟩
  unfold dg
  rcases (show i = 0 ∨ i = 1 ∨ i = 2 ∨ i = 3 by omega) with rfl | rfl | rfl | rfl <;> constructor <;> simp <;> omega
theorem ring_of {k d p : Nat} (h2 : 2 ≤ k) (h4 : k ≤ 4) (hb : begP d k) (hf : difP p k) : isRing k (dg d) (dg p) :=
  ⟨h2, h4, fun i _ => ⟨dg_lt d i, dg_lt p i⟩, hb.1, hf, fun i h0 hi => hb.2 i h0 hi⟩
def pk (n : Nat) (D : Nat → Nat) : Nat := (if 0 < n then D 0 else 0) + 4 * (if 1 < n then D 1 else 0) + 16 * (if 2 < n then D 2 else 0) + 64 * (if 3 < n then D 3 else 0)
theorem pk_dg {n : Nat} {D : Nat → Nat} (h2 : 2 ≤ n) (h4 : n ≤ 4) (hD : ∀ i, i < n → D i < 4) : pk n D < allK n ∧ ∀ i, i < n → dg (pk n D) i = D i := by
  have a := hD 0 (by omega)
  have b := hD 1 (by omega)
  unfold pk allK dg
  rcases (show n = 2 ∨ n = 3 ∨ n = 4 by omega) with rfl | rfl | rfl
  · refine ⟨by simp; omega, fun i hi => ?_⟩
    rcases (show i = 0 ∨ i = 1 by omega) with rfl | rfl <;> simp <;> omega
  · have c := hD 2 (by omega)
    refine ⟨by simp; omega, fun i hi => ?_⟩
    rcases (show i = 0 ∨ i = 1 ∨ i = 2 by omega) with rfl | rfl | rfl <;> simp <;> omega
  · have c := hD 2 (by omega)
    have e := hD 3 (by omega)
    refine ⟨by simp; omega, fun i hi => ?_⟩
    rcases (show i = 0 ∨ i = 1 ∨ i = 2 ∨ i = 3 by omega) with rfl | rfl | rfl | rfl <;> simp <;> omega
def lxB (k d p k' d' p' : Nat) : Prop := k' < k ∨ (k' = k ∧ (d' < d ∨ (d' = d ∧ p' < p)))
def okB (k' d' p' : Nat) : Prop := 2 ≤ k' ∧ k' ≤ 4 ∧ d' < allK k' ∧ p' < allK k' ∧ begP d' k' ∧ difP p' k'
/-- what stands in the row when (k, d, p) is looked at -/
def RI (ρ τ : HP) (n k d p : Nat) : Prop := (∀ r, r ≠ 0 → r ≠ 7 → τ r = ρ r) ∧ (∀ j, j ≠ 14 → τ 0 j = ρ 0 j) ∧ τ 0 14 = n ∧ (∀ i, i < n → ∃ r n' D P, τ 7 i = (r : Nat) ∧ isRing n' D P ∧ isCode r n' D P) ∧ ∀ k' d' p', okB k' d' p' → lxB k d p k' d' p' → ∃ i, i < n ∧ τ 7 i = (cd k' d' p' : Nat)
theorem RI.mv {ρ τ : HP} {n k d p k2 d2 p2 : Nat} (h : RI ρ τ n k d p) (hl : ∀ k' d' p', okB k' d' p' → lxB k2 d2 p2 k' d' p' → lxB k d p k' d' p') : RI ρ τ n k2 d2 p2 := ⟨h.1, h.2.1, h.2.2.1, h.2.2.2.1, fun k' d' p' a b => h.2.2.2.2 k' d' p' a (hl k' d' p' a b)⟩
theorem RI.rg {ρ τ : HP} (h : RI ρ τ 408 5 0 0) : RG τ := by
  obtain ⟨-, -, h14, hs, hc⟩ := h
  refine ⟨h14, hs, fun n D P hR => ?_⟩
  obtain ⟨r1, r2, r3, r4, r5, r6⟩ := id hR
  obtain ⟨a1, a2⟩ := pk_dg (D := D) r1 r2 (fun i hi => (r3 i hi).1)
  obtain ⟨b1, b2⟩ := pk_dg (D := P) r1 r2 (fun i hi => (r3 i hi).2)
  have l256 : allK n ≤ 256 := by unfold allK; split <;> (try split) <;> omega
  obtain ⟨i, hi, e⟩ := hc n (pk n D) (pk n P) ⟨r1, r2, a1, b1, ⟨fun i j hi hj e => r4 i j hi hj (by rw [← a2 i hi, ← a2 j hj]; exact e), fun i h0 hi => by rw [a2 0 (by omega), a2 i hi]; exact r6 i h0 hi⟩, fun i j hi hj e => r5 i j hi hj (by rw [← b2 i hi, ← b2 j hj]; exact e)⟩ (Or.inl (by omega))
  obtain ⟨c1, c2, c3⟩ := cd_code (k := n) (d := pk n D) (p := pk n P) r2 (by omega) (by omega)
  refine ⟨i, _, hi, e, c1, c2, fun j hj => ?_⟩
  rw [← a2 j hj, ← b2 j hj]
  exact c3 j hj
