/-! ===== the model: sets that have too much ===== -/
def cO (O : Nat) : Tb := fun l => if O.testBit l then 1 else 0
theorem cO_pos {O l : Nat} : 0 < cO O l ↔ O.testBit l = true := by
  unfold cO
  cases O.testBit l <;> simp
theorem bit_lt {s D e : Nat} (hs : s < 2 ^ D) (h : s.testBit e = true) : e < D := by
  by_cases q : e < D
  · exact q
  · have : s.testBit e = false := Nat.testBit_lt_two_pow (Nat.lt_of_lt_of_le hs (Nat.pow_le_pow_right (by decide) (by omega)))
    rw [this] at h; cases h
section ML
variable {d : Nat} {σ ρ : HP} {Q : MQt} {X : MXt} {D P : Nat}
theorem mok_isReached {s p O : Nat} (hs : s < 2 ^ D) (h1 : ρ 0 1 = D) (D4 : D ≤ 4) (hp : p < 4) (hO : O < 65536) : Ok d Y4_isReached SM [vr 0, vi s, vi p, vi O] ρ (qi fun z ρ' => ρ' = ρ ∧ z = if rchB (cO O) s p = true then 1 else 0) := by
  refine Ok.ofWp (by decide) (Nat.le_of_ble_eq_true rfl) ?_
  have pD : 2 ^ D ≤ 2 ^ 4 := Nat.pow_le_pow_right (by decide) D4
  have s16 : s < 16 := by omega
  have i1 : in32 (ρ 0 1) := by rw [h1]; exact ⟨by omega, by omega⟩
  have lp : ∀ m i : Nat, i + m = D → ∀ b : Int, ((b = 1 ∧ ∃ e, e < i ∧ s.testBit e = true ∧ O.testBit (4 * e + p) = true) ∨ (b = 0 ∧ ∀ e, e < i → ¬ (s.testBit e = true ∧ O.testBit (4 * e + p) = true))) → Wp d Y4_isReached SM 6 [some (vr 0), some (vi (s : Int)), some (vi (p : Int)), some (vi (O : Int)), some (vi b), some (vi (i : Int))] [] ρ (qi fun z ρ' => ρ' = ρ ∧ z = if rchB (cO O) s p = true then 1 else 0) (fun _ _ _ _ => False) := by
    intro m
    induction m with
    | zero =>
      intro i hi b hb
      have e : i = D := by omega
      subst e
      refine b4_isReached_6 _ _ _ _ _ ⟨by omega, by omega⟩ i1 (fun _ => b4_isReached_57 _ (by rcases hb with ⟨q, -⟩ | ⟨q, -⟩ <;> simp [q]) ⟨b, rfl, rfl, ?_⟩) (fun g => by rw [h1] at g; omega)
      rcases hb with ⟨rfl, e, e1, e2, e3⟩ | ⟨rfl, hb⟩
      · rw [if_pos]
        exact (rchB_iff hp).2 ⟨4 * e + p, by omega, by omega, cO_pos.2 e3, by rw [show (4 * e + p) / 4 = e by omega]; exact e2⟩
      · rw [if_neg]
        intro g
        obtain ⟨l, l1, l2, l3, l4⟩ := (rchB_iff hp).1 g
        refine hb (l / 4) (bit_lt hs l4) ⟨l4, ?_⟩
        rw [show 4 * (l / 4) + p = l by omega]
        exact cO_pos.1 l3
    | succ m ih =>
      intro i hi b hb
      have eb := bit_N (a := s) (k := i) (by omega) (by omega)
      have eo := bit_N (a := O) (k := 4 * i + p) (by omega) (by omega)
      have ec : (4 * (i : Int) + (p : Int)) = ((4 * i + p : Nat) : Int) := by omega
      refine b4_isReached_6 _ _ _ _ _ ⟨by omega, by omega⟩ i1 (fun g => by rw [h1] at g; omega) (fun _ => ?_)
      have yes : (∃ e, e < i + 1 ∧ s.testBit e = true ∧ O.testBit (4 * e + p) = true) → Wp d Y4_isReached SM 44 [some (vr 0), some (vi (s : Int)), some (vi (p : Int)), some (vi (O : Int)), none, some (vi (i : Int))] [] ρ (qi fun z ρ' => ρ' = ρ ∧ z = if rchB (cO O) s p = true then 1 else 0) (fun _ _ _ _ => False) := fun g => b4_isReached_44 _ _ _ _ (b4_isReached_49 _ _ _ _ _ (ih (i + 1) (by omega) 1 (Or.inl ⟨rfl, g⟩)))
      rcases hb with ⟨rfl, e, e1, e2⟩ | ⟨rfl, hb⟩
      · exact b4_isReached_15 _ _ _ _ _ ⟨by decide, by decide⟩ (fun _ => yes ⟨e, by omega, e2⟩) (fun g => absurd g (by decide))
      · refine b4_isReached_15 _ _ _ _ _ ⟨by decide, by decide⟩ (fun g => absurd rfl g) (fun _ => ?_)
        have no : ¬ (s.testBit i = true ∧ O.testBit (4 * i + p) = true) → Wp d Y4_isReached SM 48 [some (vr 0), some (vi (s : Int)), some (vi (p : Int)), some (vi (O : Int)), none, some (vi (i : Int))] [] ρ (qi fun z ρ' => ρ' = ρ ∧ z = if rchB (cO O) s p = true then 1 else 0) (fun _ _ _ _ => False) := by
          intro g
          refine b4_isReached_48 _ _ _ _ (b4_isReached_49 _ _ _ _ _ (ih (i + 1) (by omega) 0 (Or.inr ⟨rfl, fun e he => ?_⟩)))
          by_cases q : e = i
          · subst q; exact g
          · exact hb e (by omega)
        refine b4_isReached_20 _ _ _ _ (by rw [eb]; split <;> exact ⟨by decide, by decide⟩) (fun g => no (fun g2 => ?_)) (fun g => ?_)
        · rw [eb, if_pos g2.1] at g; exact g rfl
        · have g1 : s.testBit i = true := by
            cases q : s.testBit i with
            | true => rfl
            | false => rw [eb, q, if_neg (by decide)] at g; exact absurd g (by decide)
          refine b4_isReached_30 _ _ _ _ (by rw [ec, eo]; split <;> exact ⟨by decide, by decide⟩) (fun g2 => no (fun g3 => ?_)) (fun g2 => yes ⟨i, by omega, g1, ?_⟩)
          · rw [ec, eo, if_pos g3.2] at g2; exact g2 rfl
          · cases q : O.testBit (4 * i + p) with
            | true => rfl
            | false => rw [ec, eo, q, if_neg (by decide)] at g2; exact absurd g2 (by decide)
  exact b4_isReached_0 _ _ _ (lp D 0 (by omega) 0 (Or.inr ⟨rfl, fun e he => by omega⟩))
theorem mok_openLists (h1 : ρ 0 1 = D) (h2 : ρ 0 2 = P) (D4 : D ≤ 4) (P4 : P ≤ 4) (h4 : ∀ l, l < 16 → 0 ≤ ρ 4 l ∧ ρ 4 l ≤ 500) : Ok d Y4_openLists SM [vr 0] ρ (qi fun z ρ' => ρ' = ρ ∧ ∃ O : Nat, z = O ∧ O < 65536 ∧ ∀ l, O.testBit l = true ↔ l < 16 ∧ l / 4 < D ∧ l % 4 < P ∧ 0 < ρ 4 l) := by
  refine Ok.ofWp (by decide) (Nat.le_of_ble_eq_true rfl) ?_
  have i1 : in32 (ρ 0 1) := by rw [h1]; exact ⟨by omega, by omega⟩
  have i2 : in32 (ρ 0 2) := by rw [h2]; exact ⟨by omega, by omega⟩
  have lp : ∀ m i : Nat, i + m = 16 → ∀ O : Nat, O < 65536 → (∀ l, O.testBit l = true ↔ l < i ∧ l / 4 < D ∧ l % 4 < P ∧ 0 < ρ 4 l) → Wp d Y4_openLists SM 4 [some (vr 0), some (vi (O : Int)), some (vi (i : Int))] [] ρ (qi fun z ρ' => ρ' = ρ ∧ ∃ O : Nat, z = O ∧ O < 65536 ∧ ∀ l, O.testBit l = true ↔ l < 16 ∧ l / 4 < D ∧ l % 4 < P ∧ 0 < ρ 4 l) (fun _ _ _ _ => False) := by
    intro m
    induction m with
    | zero =>
      intro i hi O hO hb
      have e : i = 16 := by omega
      subst e
      exact b4_openLists_4 _ _ ⟨by omega, by omega⟩ (fun _ => b4_openLists_55 _ ⟨_, rfl, rfl, O, rfl, hO, hb⟩) (fun g => absurd g (by omega))
    | succ m ih =>
      intro i hi O hO hb
      have ei : (i : Int).toNat = i := Int.toNat_natCast i
      have x4 := h4 i (by omega)
      refine b4_openLists_4 _ _ ⟨by omega, by omega⟩ (fun g => absurd g (by omega)) (fun _ => ?_)
      have no : ¬ (i / 4 < D ∧ i % 4 < P ∧ 0 < ρ 4 i) → Wp d Y4_openLists SM 47 [some (vr 0), some (vi (O : Int)), some (vi (i : Int))] [] ρ (qi fun z ρ' => ρ' = ρ ∧ ∃ O : Nat, z = O ∧ O < 65536 ∧ ∀ l, O.testBit l = true ↔ l < 16 ∧ l / 4 < D ∧ l % 4 < P ∧ 0 < ρ 4 l) (fun _ _ _ _ => False) := by
        intro g
        refine b4_openLists_47 _ _ (b4_openLists_48 _ _ (ih (i + 1) (by omega) O hO (fun l => ?_)))
        rw [hb l]
        constructor
        · rintro ⟨a, b⟩; exact ⟨by omega, b⟩
        · rintro ⟨a, b⟩
          refine ⟨?_, b⟩
          by_cases e : l = i
          · subst e; exact absurd b g
          · omega
      refine b4_openLists_10 _ _ ⟨by omega, by omega⟩ ⟨by omega, by omega⟩ i1 (fun g => no (fun g2 => by rw [h1] at g; omega)) (fun g1 => ?_)
      refine b4_openLists_20 _ _ ⟨by omega, by omega⟩ ⟨by omega, by omega⟩ i2 (fun g => no (fun g2 => by rw [h2] at g; omega)) (fun g2 => ?_)
      refine b4_openLists_30 _ _ ⟨by omega, by omega⟩ (by rw [ei]; exact ⟨by omega, by omega⟩) (fun g => no (fun g2 => by rw [ei] at g; omega)) (fun g3 => ?_)
      rw [h1] at g1
      rw [h2] at g2
      rw [ei] at g3
      have p16 : 2 ^ i < 2 ^ 16 := Nat.pow_lt_pow_right (by decide) (by omega)
      have eb : bO (O : Int) (bL 1 (i : Int)) = ((O ||| 2 ^ i : Nat) : Int) := by
        rw [show (1 : Int) = ((1 : Nat) : Int) from rfl, bL_N (by omega) (by omega), Nat.one_mul, bO_N (by omega) (by omega)]
      refine b4_openLists_39 _ _ (b4_openLists_48 _ _ ?_)
      rw [eb]
      refine ih (i + 1) (by omega) _ (Nat.or_lt_two_pow (n := 16) hO p16) (fun l => ?_)
      rw [tb_or, Bool.or_eq_true, decide_eq_true_eq, hb l]
      constructor
      · rintro (⟨a, b⟩ | rfl)
        · exact ⟨by omega, b⟩
        · exact ⟨by omega, by omega, by omega, g3⟩
      · rintro ⟨a, b⟩
        by_cases e : l = i
        · exact Or.inr e
        · exact Or.inl ⟨by omega, b⟩
  exact b4_openLists_0 (lp 16 0 rfl 0 (by omega) (fun l => by simp))
def tmP (c a b : Tb) (D A : Nat) : Prop := (A = 0 ∧ ∀ s, 1 ≤ s → s < 2 ^ D → ¬ badS c a b s) ∨ (1 ≤ A ∧ A < 2 ^ D ∧ badS c a b A ∧ ∀ s, 1 ≤ s → s < A → ¬ badS c a b s)
theorem mok_tooMuch {a b : Tb} {O : Nat} (h1 : ρ 0 1 = D) (h2 : ρ 0 2 = P) (D4 : D ≤ 4) (P4 : P ≤ 4) (hO : O < 65536) (h22 : ρ 0 22 = O) (hOP : ∀ l, O.testBit l = true → l < 16 ∧ l % 4 < P) (ha : ∀ e, e < 4 → ρ 12 e = a e ∧ 0 ≤ a e ∧ a e ≤ 20) (hb : ∀ q, q < 4 → ρ 13 q = b q ∧ 0 ≤ b q ∧ b q ≤ 20) :
    Ok (d + 1) Y4_tooMuch SM [vr 0] ρ (qi fun z ρ' => ρ' = ρ ∧ ∃ A : Nat, z = A ∧ A < 16 ∧ tmP (cO O) a b D A) := by
  refine Ok.ofWp (by decide) (Nat.le_of_ble_eq_true rfl) ?_
  have i1 : in32 (ρ 0 1) := by rw [h1]; exact ⟨by omega, by omega⟩
  have i2 : in32 (ρ 0 2) := by rw [h2]; exact ⟨by omega, by omega⟩
  have pD : 2 ^ D ≤ 2 ^ 4 := Nat.pow_le_pow_right (by decide) D4
  have eL : bL 1 (ρ 0 1) = ((2 ^ D : Nat) : Int) := by
    rw [h1, show (1 : Int) = ((1 : Nat) : Int) from rfl, bL_N (by omega) (by omega), Nat.one_mul]
  have lp : ∀ m s : Nat, s + m = 2 ^ D → 1 ≤ s → (∀ t, 1 ≤ t → t < s → ¬ badS (cO O) a b t) → Wp (d + 1) Y4_tooMuch SM 2 [some (vr 0), some (vi (s : Int)), none, none] [] ρ (qi fun z ρ' => ρ' = ρ ∧ ∃ A : Nat, z = A ∧ A < 16 ∧ tmP (cO O) a b D A) (fun _ _ _ _ => False) := by
    intro m
    induction m with
    | zero =>
      intro s hs h0 hno
      have e : s = 2 ^ D := by omega
      subst e
      exact b4_tooMuch_2 _ ⟨by omega, by omega⟩ (by rw [eL]; exact ⟨by omega, by omega⟩) (fun _ => b4_tooMuch_106 ⟨0, rfl, rfl, 0, rfl, by omega, Or.inl ⟨rfl, hno⟩⟩) (fun g => by rw [eL] at g; omega)
    | succ m ih =>
      intro s hs h0 hno
      have sD : s < 2 ^ D := by omega
      refine b4_tooMuch_2 _ ⟨by omega, by omega⟩ (by rw [eL]; exact ⟨by omega, by omega⟩) (fun g => by rw [eL] at g; omega) (fun _ => b4_tooMuch_12 _ ?_)
      have eD : sm D (fun e => if s.testBit e = true then a e else 0) = demS a s := by
        refine sm_D D4 (fun e he q => ?_)
        rw [if_neg]
        intro g
        have := bit_lt sD g
        omega
      have eP : sm P (fun q => if rchB (cO O) s q = true then b q else 0) = supS (cO O) b s := by
        refine sm_D P4 (fun q hq g => ?_)
        rw [if_neg]
        intro g2
        obtain ⟨l, l1, l2, l3, l4⟩ := (rchB_iff hq).1 g2
        have := (hOP l (cO_pos.1 l3)).2
        omega
      have db := dem_bd (sz := a) (m := 20) (by decide) (fun e he => (ha e he).2) s
      have sb : 0 ≤ supS (cO O) b s ∧ supS (cO O) b s ≤ 80 := by
        have := sm_bd (f := fun q => if rchB (cO O) s q = true then b q else 0) (m := 20) 4 (fun q hq => by
          have := (hb q hq).2
          split <;> omega)
        exact ⟨this.1, by have := this.2; unfold supS; omega⟩
      have l2 : ∀ y q : Nat, q + y = P → Wp (d + 1) Y4_tooMuch SM 54 [some (vr 0), some (vi (s : Int)), some (vi (demS a s - sm q (fun q => if rchB (cO O) s q = true then b q else 0))), some (vi (q : Int))] [] ρ (qi fun z ρ' => ρ' = ρ ∧ ∃ A : Nat, z = A ∧ A < 16 ∧ tmP (cO O) a b D A) (fun _ _ _ _ => False) := by
        intro y
        induction y with
        | zero =>
          intro q hq
          have e : q = P := by omega
          subst e
          refine b4_tooMuch_54 _ _ _ ⟨by omega, by omega⟩ i2 (fun _ => ?_) (fun g => by rw [h2] at g; omega)
          rw [eP]
          refine b4_tooMuch_94 _ _ ⟨by omega, by omega⟩ (fun g => b4_tooMuch_100 _ (ih (s + 1) (by omega) (by omega) (fun t t1 t2 => ?_))) (fun g => b4_tooMuch_98 _ ⟨_, rfl, rfl, s, rfl, by omega, Or.inr ⟨h0, sD, by unfold badS; omega, hno⟩⟩)
          by_cases e : t = s
          · subst e; unfold badS; omega
          · exact hno t t1 (by omega)
        | succ y ihy =>
          intro q hq
          have q4 : q < 4 := by omega
          refine b4_tooMuch_54 _ _ _ ⟨by omega, by omega⟩ i2 (fun g => by rw [h2] at g; omega) (fun _ => ?_)
          refine b4_tooMuch_62 (d := d) _ _ _ (P := fun z ρ' => ρ' = ρ ∧ z = if rchB (cO O) s q = true then 1 else 0) (by rw [h22]; exact mok_isReached sD h1 D4 q4 hO) (fun z ρ1 hz => ?_)
          obtain ⟨rfl, hz⟩ := hz
          have nx := ihy (q + 1) (by omega)
          simp only [sm] at nx
          by_cases g : rchB (cO O) s q = true
          · rw [if_pos g] at hz nx
            subst hz
            refine b4_tooMuch_72 _ _ _ _ ⟨by decide, by decide⟩ (fun g => absurd g (by decide)) (fun _ => b4_tooMuch_75 _ _ _ ⟨by omega, by omega⟩ (b4_tooMuch_87 _ _ _ ?_))
            rw [Int.toNat_natCast, (hb q q4).1, Int.sub_sub]
            exact nx
          · rw [if_neg g] at hz nx
            subst hz
            refine b4_tooMuch_72 _ _ _ _ ⟨by decide, by decide⟩ (fun _ => b4_tooMuch_86 _ _ _ (b4_tooMuch_87 _ _ _ ?_)) (fun g => absurd rfl g)
            rw [Int.add_zero] at nx
            exact nx
      have l1 : ∀ y e : Nat, e + y = D → Wp (d + 1) Y4_tooMuch SM 16 [some (vr 0), some (vi (s : Int)), some (vi (sm e (fun e => if s.testBit e = true then a e else 0))), some (vi (e : Int))] [] ρ (qi fun z ρ' => ρ' = ρ ∧ ∃ A : Nat, z = A ∧ A < 16 ∧ tmP (cO O) a b D A) (fun _ _ _ _ => False) := by
        intro y
        induction y with
        | zero =>
          intro e he
          have e' : e = D := by omega
          subst e'
          refine b4_tooMuch_16 _ _ _ ⟨by omega, by omega⟩ i1 (fun _ => b4_tooMuch_52 _ _ ?_) (fun g => by rw [h1] at g; omega)
          rw [eD]
          have := l2 P 0 (by omega)
          simp only [sm, Int.sub_zero] at this
          exact this
        | succ y ihy =>
          intro e he
          have e4 : e < 4 := by omega
          have eb := bit_N (a := s) (k := e) (by omega) (by omega)
          have nx := ihy (e + 1) (by omega)
          simp only [sm] at nx
          refine b4_tooMuch_16 _ _ _ ⟨by omega, by omega⟩ i1 (fun g => by rw [h1] at g; omega) (fun _ => ?_)
          cases q : s.testBit e with
          | true =>
            rw [q, if_pos rfl] at eb nx
            refine b4_tooMuch_24 _ _ _ (by rw [eb]; exact ⟨by decide, by decide⟩) (fun g => absurd eb g) (fun _ => b4_tooMuch_33 _ _ _ ⟨by omega, by omega⟩ (b4_tooMuch_45 _ _ _ ?_))
            rw [Int.toNat_natCast, (ha e e4).1]
            exact nx
          | false =>
            rw [q, if_neg (by decide)] at eb nx
            refine b4_tooMuch_24 _ _ _ (by rw [eb]; exact ⟨by decide, by decide⟩) (fun _ => b4_tooMuch_44 _ _ _ (b4_tooMuch_45 _ _ _ ?_)) (fun g => by rw [eb] at g; exact absurd g (by decide))
            rw [Int.add_zero] at nx
            exact nx
      exact l1 D 0 (by omega)
  exact b4_tooMuch_0 (lp (2 ^ D - 1) 1 (by have := Nat.two_pow_pos D; omega) (by omega) (fun t t1 t2 => by omega))
theorem mok_give {x p : Nat} {n : Int} (hx : x < 4) (hp : p < 4) : Ok d Y4_give SM [vr 0, vi x, vi p, vi n] ρ (qv fun ρ' => (∀ r, r ≠ 8 → r ≠ 12 → r ≠ 13 → ρ' r = ρ r) ∧ ρ' 8 = inc (ρ 8) (4 * x + p) n ∧ ρ' 12 = inc (ρ 12) x (-n) ∧ ρ' 13 = inc (ρ 13) p (-n)) := by
  refine Ok.ofWp (by decide) (Nat.le_of_ble_eq_true rfl) ?_
  have e1 : (4 * (x : Int) + (p : Int)).toNat = 4 * x + p := by omega
  refine b4_give_0 _ _ _ ⟨by omega, by omega⟩ ⟨by omega, by omega⟩ ⟨by omega, by omega⟩ ⟨rfl, ?_, ?_, ?_, ?_⟩
  · intro r a b c; rw [up_ne c, up_ne b, up_ne a]
  · rw [up_ne (show (8 : Nat) ≠ 13 by decide), up_ne (show (8 : Nat) ≠ 12 by decide), e1, up_inc]
  · rw [up_ne (show (12 : Nat) ≠ 13 by decide), Int.toNat_natCast, Int.sub_eq_add_neg, up_inc, up_ne (show (12 : Nat) ≠ 8 by decide)]
  · rw [Int.toNat_natCast, Int.toNat_natCast, Int.sub_eq_add_neg, Int.sub_eq_add_neg, up_inc, up_ne (show (13 : Nat) ≠ 12 by decide), up_ne (show (13 : Nat) ≠ 8 by decide)]
end ML
