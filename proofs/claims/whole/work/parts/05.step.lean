/-! ===== one instruction after another ===== -/
def bA (a b : Int) : Int := (Int32.ofInt a &&& Int32.ofInt b).toInt
def bO (a b : Int) : Int := (Int32.ofInt a ||| Int32.ofInt b).toInt
def bX (a b : Int) : Int := (Int32.ofInt a ^^^ Int32.ofInt b).toInt
def bL (a b : Int) : Int := (Int32.ofInt a <<< (Int32.ofInt b &&& 31)).toInt
def bR (a b : Int) : Int := (Int32.ofInt a >>> (Int32.ofInt b &&& 31)).toInt
def lc (a b : Int) : Int := if a > b then 1 else if a = b then 0 else -1
theorem I_of (x : Int32) : Int32.ofInt x.toInt = x := Int32.ofInt_toInt x
theorem J_lc {a b : Int} (ha : in64 a) (hb : in64 b) : lg_cmp (Int64.ofInt a) (Int64.ofInt b) = Int32.ofInt (lc a b) := by
  unfold lg_cmp lc
  simp only [gt_iff_lt, J_lt hb ha, J_eq ha hb]
  split
  · rfl
  · split <;> rfl
def dOk (a b m : Int) : Prop := 0 ≤ a ∧ a < m ∧ 0 < b ∧ b < m
theorem nI_ofInt (n : Nat) : Int32.ofInt (n : Int) = nI n := rfl
theorem lN_ofInt (n : Nat) : Int64.ofInt (n : Int) = lN n := rfl
theorem I_div {a b : Int} (h : dOk a b 2147483648) : ¬ Int32.ofInt b = 0 ∧ Int32.ofInt a / Int32.ofInt b = Int32.ofInt (a / b) ∧ Int32.ofInt a - Int32.ofInt a / Int32.ofInt b * Int32.ofInt b = Int32.ofInt (a % b) := by
  obtain ⟨h1, h2, h3, h4⟩ := h
  obtain ⟨x, rfl⟩ := Int.eq_ofNat_of_zero_le h1
  obtain ⟨y, rfl⟩ := Int.eq_ofNat_of_zero_le (Int.le_of_lt h3)
  have hx : x < 2 ^ 31 := by omega
  have hy : y < 2 ^ 31 := by omega
  have hy0 : 0 < y := by omega
  rw [← Int.natCast_ediv, ← Int.natCast_emod]
  simp only [nI_ofInt]
  exact ⟨nI_ne0 hy0 hy, pk_div hx hy0 hy, pk_rem hx hy0 hy⟩
theorem J_div {a b : Int} (h : dOk a b 9223372036854775808) : ¬ Int64.ofInt b = 0 ∧ Int64.ofInt a / Int64.ofInt b = Int64.ofInt (a / b) ∧ Int64.ofInt a - Int64.ofInt a / Int64.ofInt b * Int64.ofInt b = Int64.ofInt (a % b) := by
  obtain ⟨h1, h2, h3, h4⟩ := h
  obtain ⟨x, rfl⟩ := Int.eq_ofNat_of_zero_le h1
  obtain ⟨y, rfl⟩ := Int.eq_ofNat_of_zero_le (Int.le_of_lt h3)
  have hx : x < 2 ^ 63 := by omega
  have hy : y < 2 ^ 63 := by omega
  have hy0 : 0 < y := by omega
  rw [← Int.natCast_ediv, ← Int.natCast_emod]
  simp only [lN_ofInt]
  refine ⟨fun q => ?_, pk_lDiv hx hy0 hy, pk_lRem hx hy0 hy⟩
  have : lN y = lN 0 := q
  rw [pk_lEQ hy (by decide)] at this
  omega
theorem I_l {a : Int} (h : in32 a) : (Int32.ofInt a).toInt64 = Int64.ofInt a := by
  have h2 : in64 a := ⟨by have := h.1; omega, by have := h.2; omega⟩
  rw [← Int64.toInt_inj, J_toInt h2, Int32.toInt_toInt64, I_toInt h]
def ilen (i : Instr) : Nat := match i with
  | .bipush _ => 2
  | .sipush _ => 3
  | .iload _ => 2
  | .lload _ => 2
  | .aload _ => 2
  | .istore _ => 2
  | .lstore _ => 2
  | .astore _ => 2
  | .iinc _ _ => 3
  | .getfield _ => 3
  | .putfield _ => 3
  | .ldc _ => 2
  | .goto _ => 3
  | .ifCond _ _ => 3
  | .if_icmp _ _ => 3
  | .invokevirtual _ => 3
  | .invokestatic _ => 3
  | .invokespecial _ => 3
  | .new _ => 3
  | _ => 1
def slen : List Instr → Nat
  | [] => 0
  | i :: is => ilen i + slen is
def segb (cc : ByteArray) : Nat → List Instr → Bool
  | _, [] => true
  | pc, i :: is => decide (decode cc pc = .ok (i, ilen i)) && segb cc (pc + ilen i) is
def o1 (st : List MV) (k : Int → List MV → Prop) : Prop := match st with
  | .inl a :: st => k a st
  | _ => False
def o2 (st : List MV) (k : Int → Int → List MV → Prop) : Prop := match st with
  | .inl b :: .inl a :: st => k a b st
  | _ => False
def l1 (st : List MV) (k : Int → List MV → Prop) : Prop := match st with
  | .inr (.inl a) :: st => k a st
  | _ => False
def l2 (st : List MV) (k : Int → Int → List MV → Prop) : Prop := match st with
  | .inr (.inl b) :: .inr (.inl a) :: st => k a b st
  | _ => False
def r1 (st : List MV) (k : Nat → List MV → Prop) : Prop := match st with
  | .inr (.inr r) :: st => k r st
  | _ => False
def gI (ls : ML) (i : Nat) (k : Int → Prop) : Prop := match ls[i]? with
  | some (some (.inl z)) => k z
  | _ => False
def gL (ls : ML) (i : Nat) (k : Int → Prop) : Prop := match ls[i]? with
  | some (some (.inr (.inl z))) => k z
  | _ => False
def gR (ls : ML) (i : Nat) (k : Nat → Prop) : Prop := match ls[i]? with
  | some (some (.inr (.inr z))) => k z
  | _ => False
def lkp : List (Nat × Nat × Nat) → Nat → Option (Nat × Nat)
  | [], _ => none
  | (a, q) :: l, i => if a = i then some q else lkp l i
def aI (S : SH) (r : Nat) (i : Int) : Prop := ∃ n : Nat, S[r]? = some (.inl (.inl n)) ∧ 0 ≤ i ∧ i < n ∧ n < 2147483648
def aJ (S : SH) (r : Nat) (i : Int) : Prop := ∃ n : Nat, S[r]? = some (.inl (.inr n)) ∧ 0 ≤ i ∧ i < n ∧ n < 2147483648
def fty (ci k : Nat) : FieldType := match ci with
  | 0 => tyX0 k
  | 1 => tyX1 k
  | 2 => tyX2 k
  | 3 => tyX3 k
  | _ => tyX4 k
def ffin (ci k : Nat) : Bool := match ci with
  | 0 => (TX0 k).2.2.2
  | 1 => (TX1 k).2.2.2
  | 2 => (TX2 k).2.2.2
  | 3 => (TX3 k).2.2.2
  | _ => (TX4 k).2.2.2
def pOk (ci k : Nat) (z : Int) : Prop := ffin ci k = false ∧ (fty ci k = .int ∨ (fty ci k = .boolean ∧ (z = 0 ∨ z = 1)))
def gF (F : List (Nat × Nat × Nat)) (S : SH) (ix r : Nat) (kS : Nat → Prop) (kR : Nat → Prop) : Prop := match lkp F ix, S[r]? with
  | some (ci, k), some (.inr (cj, fs)) => ci = cj ∧ (match fs[k]? with
    | some none => kS k
    | some (some q) => kR q
    | none => False)
  | _, _ => False
def pF (F : List (Nat × Nat × Nat)) (S : SH) (ix r : Nat) (kS : Nat → Nat → Prop) : Prop := match lkp F ix, S[r]? with
  | some (ci, k), some (.inr (cj, fs)) => ci = cj ∧ (match fs[k]? with
    | some none => kS ci k
    | _ => False)
  | _, _ => False
def one (F : List (Nat × Nat × Nat)) (S : SH) (nL : Nat) (i : Instr) (ls : ML) (st : List MV) (σ : HP) (K : ML → List MV → HP → Prop) : Prop :=
  match i with
  | .iconst z => K ls (vi z :: st) σ
  | .bipush z => (Int8.ofInt z).toInt32 = Int32.ofInt z ∧ K ls (vi z :: st) σ
  | .sipush z => (Int16.ofInt z).toInt32 = Int32.ofInt z ∧ K ls (vi z :: st) σ
  | .lconst z => K ls (vl (z : Nat) :: st) σ
  | .iload_n k => gI ls k (fun z => K ls (vi z :: st) σ)
  | .iload k => gI ls k (fun z => K ls (vi z :: st) σ)
  | .lload_n k => gL ls k (fun z => K ls (vl z :: st) σ)
  | .lload k => gL ls k (fun z => K ls (vl z :: st) σ)
  | .aload_n k => gR ls k (fun z => K ls (vr z :: st) σ)
  | .aload k => gR ls k (fun z => K ls (vr z :: st) σ)
  | .istore_n k => o1 st (fun z st => (k : Nat) < nL ∧ K (sto1 ls k (vi z)) st σ)
  | .istore k => o1 st (fun z st => k < nL ∧ K (sto1 ls k (vi z)) st σ)
  | .lstore_n k => l1 st (fun z st => (k : Nat) + 1 < nL ∧ K (sto2 ls k (vl z)) st σ)
  | .lstore k => l1 st (fun z st => k + 1 < nL ∧ K (sto2 ls k (vl z)) st σ)
  | .astore_n k => r1 st (fun z st => (k : Nat) < nL ∧ K (sto1 ls k (vr z)) st σ)
  | .astore k => r1 st (fun z st => k < nL ∧ K (sto1 ls k (vr z)) st σ)
  | .iinc k z => gI ls k (fun x => k < nL ∧ K (sto1 ls k (vi (x + z))) st σ)
  | .iadd => o2 st (fun a b st => K ls (vi (a + b) :: st) σ)
  | .isub => o2 st (fun a b st => K ls (vi (a - b) :: st) σ)
  | .imul => o2 st (fun a b st => K ls (vi (a * b) :: st) σ)
  | .idiv => o2 st (fun a b st => dOk a b 2147483648 ∧ K ls (vi (a / b) :: st) σ)
  | .irem => o2 st (fun a b st => dOk a b 2147483648 ∧ K ls (vi (a % b) :: st) σ)
  | .iand => o2 st (fun a b st => K ls (vi (bA a b) :: st) σ)
  | .ior => o2 st (fun a b st => K ls (vi (bO a b) :: st) σ)
  | .ixor => o2 st (fun a b st => K ls (vi (bX a b) :: st) σ)
  | .ishl => o2 st (fun a b st => K ls (vi (bL a b) :: st) σ)
  | .ishr => o2 st (fun a b st => K ls (vi (bR a b) :: st) σ)
  | .ladd => l2 st (fun a b st => K ls (vl (a + b) :: st) σ)
  | .lsub => l2 st (fun a b st => K ls (vl (a - b) :: st) σ)
  | .lmul => l2 st (fun a b st => K ls (vl (a * b) :: st) σ)
  | .ldiv => l2 st (fun a b st => dOk a b 9223372036854775808 ∧ K ls (vl (a / b) :: st) σ)
  | .lrem => l2 st (fun a b st => dOk a b 9223372036854775808 ∧ K ls (vl (a % b) :: st) σ)
  | .i2l => o1 st (fun a st => in32 a ∧ K ls (vl a :: st) σ)
  | .lcmp => l2 st (fun a b st => in64 a ∧ in64 b ∧ K ls (vi (lc a b) :: st) σ)
  | .dup => match st with
    | v :: st => mcat v = 1 ∧ K ls (v :: v :: st) σ
    | _ => False
  | .dup2 => match st with
    | v :: w :: st => mcat v = 1 ∧ mcat w = 1 ∧ K ls (v :: w :: v :: w :: st) σ
    | _ => False
  | .pop => match st with
    | v :: st => mcat v = 1 ∧ K ls st σ
    | _ => False
  | .getfield ix => r1 st (fun r st => gF F S ix r (fun k => K ls (vi (σ r k) :: st) σ) (fun q => K ls (vr q :: st) σ))
  | .putfield ix => o1 st (fun z st => r1 st (fun r st => pF F S ix r (fun ci k => pOk ci k z ∧ K ls st (up σ r k z))))
  | .iaload => o1 st (fun i st => r1 st (fun r st => aI S r i ∧ K ls (vi (σ r i.toNat) :: st) σ))
  | .laload => o1 st (fun i st => r1 st (fun r st => aJ S r i ∧ K ls (vl (σ r i.toNat) :: st) σ))
  | .iastore => o2 st (fun i z st => r1 st (fun r st => aI S r i ∧ K ls st (up σ r i.toNat z)))
  | .lastore => l1 st (fun z st => o1 st (fun i st => r1 st (fun r st => aJ S r i ∧ K ls st (up σ r i.toNat z))))
  | _ => False
def blk (F : List (Nat × Nat × Nat)) (S : SH) (nL : Nat) : List Instr → ML → List MV → HP → (ML → List MV → HP → Prop) → Prop
  | [], ls, st, σ, K => K ls st σ
  | i :: is, ls, st, σ, K => one F S nL i ls st σ (fun ls' st' σ' => blk F S nL is ls' st' σ' K)
/-- the words of a class's field entries -/
def fokb (own : String) (F : List (Nat × Nat × Nat)) : Bool := F.all (fun q => match CL[q.2.1]? with
  | some (_, T, N) => decide (q.2.2 < N) && decide (Cond.fieldLink own q.1 (T q.2.2).1 (T q.2.2).2.1 (T q.2.2).2.2.1 ∈ WA)
  | none => false)
theorem lkp_mem {F : List (Nat × Nat × Nat)} {ix : Nat} {q : Nat × Nat} (h : lkp F ix = some q) : (ix, q) ∈ F := by
  induction F with
  | nil => cases h
  | cons a l ih =>
    obtain ⟨x, y⟩ := a
    simp only [lkp] at h
    split at h
    · next e => cases h; subst e; exact List.mem_cons_self
    · exact List.mem_cons_of_mem _ (ih h)
theorem fok {own : String} {F : List (Nat × Nat × Nat)} (hF : fokb own F = true) {ix ci k : Nat} (h : lkp F ix = some (ci, k)) : ∃ (C : String) (T : u_T) (N : Nat), CL[ci]? = some (C, T, N) ∧ k < N ∧ Cond.fieldLink own ix (T k).1 (T k).2.1 (T k).2.2.1 ∈ WA := by
  have h1 := List.all_eq_true.mp hF _ (lkp_mem h)
  dsimp only at h1
  split at h1
  · next C T N e =>
    simp only [Bool.and_eq_true, decide_eq_true_eq] at h1
    exact ⟨C, T, N, e, h1.1, h1.2⟩
  · cases h1
theorem inWA : ∀ q ∈ CL, ∀ w ∈ u_ws q.1 q.2.1 q.2.2, w ∈ WA := by decide +kernel
theorem clTy : ∀ ci, ci < 5 → ∀ q, CL[ci]? = some q → (∀ k, k < q.2.2 → parseFieldDescriptor (q.2.1 k).2.2.1 = some (fty ci k)) ∧ (∀ k, k < q.2.2 → (q.2.1 k).2.2.2 = ffin ci k) ∧ ∀ a, a < q.2.2 → ∀ b, b < q.2.2 → a ≠ b → (q.2.1 a).2.1 ≠ (q.2.1 b).2.1 := by
  intro ci hc q hq
  match ci, hq with
  | 0, hq => cases hq; exact ⟨tyX0_ok, fun _ _ => rfl, nmX0⟩
  | 1, hq => cases hq; exact ⟨tyX1_ok, fun _ _ => rfl, nmX1⟩
  | 2, hq => cases hq; exact ⟨tyX2_ok, fun _ _ => rfl, nmX2⟩
  | 3, hq => cases hq; exact ⟨tyX3_ok, fun _ _ => rfl, nmX3⟩
  | 4, hq => cases hq; exact ⟨tyX4_ok, fun _ _ => rfl, nmX4⟩
  | n + 5, hq => omega
