/-! ===== the small machine: pure states, whole numbers; what it says of a method holds of the machine itself ===== -/
abbrev MV : Type := Int ⊕ Int ⊕ Nat
abbrev vi (z : Int) : MV := Sum.inl z
abbrev vl (z : Int) : MV := Sum.inr (Sum.inl z)
abbrev vr (r : Nat) : MV := Sum.inr (Sum.inr r)
abbrev ML : Type := List (Option MV)
abbrev HP : Type := Nat → Nat → Int
abbrev SC : Type := (Nat ⊕ Nat) ⊕ (Nat × List (Option Nat))
abbrev SH : Type := List SC
abbrev YD : Type := MethodName × ByteArray × Nat × Option FieldType
def up (σ : HP) (r j : Nat) (v : Int) : HP := fun r' j' => if r' = r ∧ j' = j then v else σ r' j'
def in32 (z : Int) : Prop := -2147483648 ≤ z ∧ z ≤ 2147483647
def in64 (z : Int) : Prop := -9223372036854775808 ≤ z ∧ z ≤ 9223372036854775807
def cv (ad : Nat → Nat) (v : MV) : Value := match v with
  | .inl z => .int (Int32.ofInt z)
  | .inr (.inl z) => .long (Int64.ofInt z)
  | .inr (.inr r) => .ref (ad r)
def cf (ad : Nat → Nat) (σ : HP) (r k : Nat) (f : Option Nat) : Value := match f with
  | none => .int (Int32.ofInt (σ r k))
  | some q => .ref (ad q)
def ce (ad : Nat → Nat) (cI cJ : ClassId) (σ : HP) (r : Nat) (c : SC) : va_E := match c with
  | .inl (.inl n) => .inl (cI, n, .inl (fun j => Int32.ofInt (σ r j)))
  | .inl (.inr n) => .inl (cJ, n, .inr (.inl (fun j => Int64.ofInt (σ r j))))
  | .inr (ci, fs) => .inr (ci, fs.mapIdx (cf ad σ r))
def cw (ad : Nat → Nat) (cI cJ : ClassId) (S : SH) (σ : HP) : va_W := S.mapIdx (fun r c => (ad r, ce ad cI cJ σ r c))
theorem cw_get {ad : Nat → Nat} {cI cJ : ClassId} {S : SH} {σ : HP} {r : Nat} {c : SC} (h : S[r]? = some c) : (cw ad cI cJ S σ)[r]? = some (ad r, ce ad cI cJ σ r c) := by
  simp [cw, h]
theorem cw_len {ad : Nat → Nat} {cI cJ : ClassId} {S : SH} {σ : HP} : (cw ad cI cJ S σ).length = S.length := by simp [cw]
theorem ce_ne {ad : Nat → Nat} {cI cJ : ClassId} {σ : HP} {r k j : Nat} {v : Int} (c : SC) (h : k ≠ r) : ce ad cI cJ (up σ r j v) k c = ce ad cI cJ σ k c := by
  rcases c with (n | n) | ⟨ci, fs⟩
  · simp [ce, up, h]
  · simp [ce, up, h]
  · have : cf ad (up σ r j v) k = cf ad σ k := by
      funext i f
      cases f <;> simp [cf, up, h]
    simp [ce, this]
theorem cw_set {ad : Nat → Nat} {cI cJ : ClassId} {S : SH} {σ : HP} {r j : Nat} {c : SC} {v : Int} {e : va_E} (h : S[r]? = some c) (he : e = ce ad cI cJ (up σ r j v) r c) : (cw ad cI cJ S σ).set r (ad r, e) = cw ad cI cJ S (up σ r j v) := by
  have hl : r < S.length := (List.getElem?_eq_some_iff.mp h).1
  apply List.ext_getElem?
  intro k
  by_cases hk : k = r
  · subst hk
    rw [List.getElem?_set_self (by rw [cw_len]; exact hl), cw_get h, he]
  · rw [List.getElem?_set_ne (Ne.symm hk)]
    simp only [cw, List.getElem?_mapIdx]
    cases hs : S[k]? with
    | none => rfl
    | some c' => simp [ce_ne c' hk]
theorem I_toInt {z : Int} (h : in32 z) : (Int32.ofInt z).toInt = z := by
  obtain ⟨h1, h2⟩ := h
  rw [Int32.toInt_ofInt]
  show Int.bmod z 4294967296 = z
  exact Int.bmod_eq_of_le (by omega) (by omega)
theorem J_toInt {z : Int} (h : in64 z) : (Int64.ofInt z).toInt = z := by
  obtain ⟨h1, h2⟩ := h
  rw [Int64.toInt_ofInt]
  show Int.bmod z 18446744073709551616 = z
  exact Int.bmod_eq_of_le (by omega) (by omega)
theorem I_eq {a b : Int} (ha : in32 a) (hb : in32 b) : Int32.ofInt a = Int32.ofInt b ↔ a = b := by
  rw [← Int32.toInt_inj, I_toInt ha, I_toInt hb]
theorem I_lt {a b : Int} (ha : in32 a) (hb : in32 b) : Int32.ofInt a < Int32.ofInt b ↔ a < b := by
  rw [Int32.lt_iff_toInt_lt, I_toInt ha, I_toInt hb]
theorem I_le {a b : Int} (ha : in32 a) (hb : in32 b) : Int32.ofInt a ≤ Int32.ofInt b ↔ a ≤ b := by
  rw [Int32.le_iff_toInt_le, I_toInt ha, I_toInt hb]
theorem J_eq {a b : Int} (ha : in64 a) (hb : in64 b) : Int64.ofInt a = Int64.ofInt b ↔ a = b := by
  rw [← Int64.toInt_inj, J_toInt ha, J_toInt hb]
theorem J_lt {a b : Int} (ha : in64 a) (hb : in64 b) : Int64.ofInt a < Int64.ofInt b ↔ a < b := by
  rw [Int64.lt_iff_toInt_lt, J_toInt ha, J_toInt hb]
theorem I_cl {z : Int} {n : Nat} (h : 0 ≤ z ∧ z < n) (hn : n < 2147483648) : vp_in (Int32.ofInt z) n ∧ (Int32.ofInt z).toNatClampNeg = z.toNat := by
  have h32 : in32 z := ⟨by omega, by omega⟩
  have e : (Int32.ofInt z).toNatClampNeg = z.toNat := by
    show (Int32.ofInt z).toInt.toNat = _
    rw [I_toInt h32]
  refine ⟨?_, e⟩
  rw [vp_in_iff, I_toInt h32]
  omega
theorem I_add (a b : Int) : Int32.ofInt a + Int32.ofInt b = Int32.ofInt (a + b) := (Int32.ofInt_add a b).symm
theorem I_sub (a b : Int) : Int32.ofInt a - Int32.ofInt b = Int32.ofInt (a - b) := (Int32.ofInt_sub a b).symm
theorem I_mul (a b : Int) : Int32.ofInt a * Int32.ofInt b = Int32.ofInt (a * b) := (Int32.ofInt_mul a b).symm
theorem J_add (a b : Int) : Int64.ofInt a + Int64.ofInt b = Int64.ofInt (a + b) := (Int64.ofInt_add a b).symm
theorem J_sub (a b : Int) : Int64.ofInt a - Int64.ofInt b = Int64.ofInt (a - b) := (Int64.ofInt_sub a b).symm
theorem J_mul (a b : Int) : Int64.ofInt a * Int64.ofInt b = Int64.ofInt (a * b) := (Int64.ofInt_mul a b).symm
