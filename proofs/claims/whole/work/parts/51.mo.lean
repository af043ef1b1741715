/-! ===== the model: all numbers ===== -/
section MO
variable {d : Nat} {ρ : HP} {Q : MQt} {X : MXt} {D P : Nat}
theorem b01 (b : Bool) : in32 (if b then 1 else 0) := by cases b <;> exact ⟨by decide, by decide⟩
theorem mnRound {c t : Tb} (h1 : ρ 0 1 = D) (h2 : ρ 0 2 = P) (D4 : D ≤ 4) (P4 : P ≤ 4) (h4 : ∀ l, l < 16 → ρ 4 l = c l) (h8 : ∀ l, l < 16 → ρ 8 l = t l) (ho : obeyT c t) (hc : ∀ l, l < 16 → 0 ≤ c l ∧ c l ≤ 500) (ht : ∀ l, l < 16 → 0 ≤ t l ∧ t l ≤ 20) (hz : ∀ l, l < 16 → 0 < t l → 0 < c l) (hout : ∀ l, l < 16 → D ≤ l / 4 ∨ P ≤ l % 4 → c l = 0) (i : Nat) (hi : i < 8) (τ : HP) (t1 : ∀ r, r ≠ 14 → r ≠ 15 → τ r = ρ r) (t2 : ∀ j, j < 8 → τ 14 j = (nums c t i).1 j ∧ τ 15 j = (nums c t i).2 j)
    (K : ∀ τ' : HP, (∀ r, r ≠ 14 → r ≠ 15 → τ' r = ρ r) → (∀ j, j < 8 → τ' 14 j = (nums c t (i + 1)).1 j ∧ τ' 15 j = (nums c t (i + 1)).2 j) → chg c t i = true → Wp (d + 1 + 1) Y4_numberAll SM 39 [some (vr 0), some (vi 1), none, none, none, none] [] τ' (qv fun ρ' => (∀ r, r ≠ 14 → r ≠ 15 → ρ' r = ρ r) ∧ ∀ j, j < 8 → ρ' 14 j = (nums c t 8).1 j ∧ ρ' 15 j = (nums c t 8).2 j) (fun _ _ _ _ => False)) :
    Wp (d + 1 + 1) Y4_numberAll SM 39 [some (vr 0), some (vi 1), none, none, none, none] [] τ (qv fun ρ' => (∀ r, r ≠ 14 → r ≠ 15 → ρ' r = ρ r) ∧ ∀ j, j < 8 → ρ' 14 j = (nums c t 8).1 j ∧ ρ' 15 j = (nums c t 8).2 j) (fun _ _ _ _ => False) := by
  have t0 : ∀ l, l < 16 → 0 ≤ t l := fun l hl => (ht l hl).1
  refine b4_numberAll_39 _ ⟨by decide, by decide⟩ (fun g => absurd g (by decide)) (fun _ => b4_numberAll_43 ?_)
  generalize hN : nums c t i = N at t2
  obtain ⟨A, B⟩ := N
  have hP : PI c t A B := by have := nums_PI ho t0 hz i; rw [hN] at this; exact this
  have lp : ∀ m k : Nat, k + m = 16 → ∀ τ : HP, (∀ r, r ≠ 14 → r ≠ 15 → τ r = ρ r) → (∀ j, j < 8 → τ 14 j = (rdN c t A B k).1 j ∧ τ 15 j = (rdN c t A B k).2.1 j) → Wp (d + 1 + 1) Y4_numberAll SM 47 [some (vr 0), some (vi (if (rdN c t A B k).2.2 then 1 else 0)), some (vi (k : Int)), none, none, none] [] τ (qv fun ρ' => (∀ r, r ≠ 14 → r ≠ 15 → ρ' r = ρ r) ∧ ∀ j, j < 8 → ρ' 14 j = (nums c t 8).1 j ∧ ρ' 15 j = (nums c t 8).2 j) (fun _ _ _ _ => False) := by
    intro m
    induction m with
    | zero =>
      intro k hk τ u1 u2
      have e : k = 16 := by omega
      subst e
      refine b4_numberAll_47 _ _ ⟨by omega, by omega⟩ (fun _ => b4_numberAll_199 _ ?_) (fun g => absurd g (by omega))
      have en : nums c t (i + 1) = ((rdN c t A B 16).1, (rdN c t A B 16).2.1) := by
        show ((rdN c t (nums c t i).1 (nums c t i).2 16).1, (rdN c t (nums c t i).1 (nums c t i).2 16).2.1) = _
        rw [hN]
      have ec : chg c t i = (rdN c t A B 16).2.2 := by
        show (rdN c t (nums c t i).1 (nums c t i).2 16).2.2 = _
        rw [hN]
      cases hg : (rdN c t A B 16).2.2 with
      | true =>
        rw [if_pos rfl]
        exact K τ u1 (by rw [en]; exact u2) (by rw [ec]; exact hg)
      | false =>
        rw [if_neg (by decide)]
        refine b4_numberAll_39 _ ⟨by decide, by decide⟩ (fun _ => b4_numberAll_202 ⟨rfl, u1, fun j hj => ?_⟩) (fun g => absurd rfl g)
        have s8 := nums_stay (c := c) (t := t) (r := i) (by rw [ec]; exact hg) (8 - i)
        have s1 := nums_stay (c := c) (t := t) (r := i) (by rw [ec]; exact hg) 1
        rw [show i + (8 - i) = 8 by omega] at s8
        rw [s8, ← s1, en]
        exact u2 j hj
    | succ m ih =>
      intro k hk τ u1 u2
      have k16 : k < 16 := by omega
      have ek : (k : Int).toNat = k := Int.toNat_natCast k
      have x4 : τ 4 k = c k := by rw [u1 4 (by decide) (by decide)]; exact h4 k k16
      have x8 : τ 8 k = t k := by rw [u1 8 (by decide) (by decide)]; exact h8 k k16
      have ck := hc k k16
      have tk := ht k k16
      have zk := hz k k16
      have P0 := (rd_all ho t0 hz hP k (by omega)).1
      have P1 := (ns1_PI ho t0 k16 P0).1
      have B0 : BD (rdN c t A B k).1 (rdN c t A B k).2.1 := PI_bd hc ht P0
      have B1 : BD (ns1 c t k (rdN c t A B k)).1 (ns1 c t k (rdN c t A B k)).2.1 := PI_bd hc ht P1
      have e4 : (k : Int) / 4 = ((k / 4 : Nat) : Int) := by omega
      have e5 : 4 + (k : Int) % 4 = ((4 + k % 4 : Nat) : Int) := by omega
      have en : rdN c t A B (k + 1) = ns2 c t k (ns1 c t k (rdN c t A B k)) := rfl
      refine b4_numberAll_47 _ _ ⟨by omega, by omega⟩ (fun g => absurd g (by omega)) (fun _ => ?_)
      -- to the next list
      have fin : ∀ (τ' : HP) (b : Bool), (∀ r, r ≠ 14 → r ≠ 15 → τ' r = ρ r) → (∀ j, j < 8 → τ' 14 j = (rdN c t A B (k + 1)).1 j ∧ τ' 15 j = (rdN c t A B (k + 1)).2.1 j) → b = (rdN c t A B (k + 1)).2.2 → Wp (d + 1 + 1) Y4_numberAll SM 192 [some (vr 0), none, some (vi (k : Int)), none, none, none] [vi (if b then 1 else 0)] τ' (qv fun ρ' => (∀ r, r ≠ 14 → r ≠ 15 → ρ' r = ρ r) ∧ ∀ j, j < 8 → ρ' 14 j = (nums c t 8).1 j ∧ ρ' 15 j = (nums c t 8).2 j) (fun _ _ _ _ => False) := by
        rintro τ' b w1 w2 rfl
        exact b4_numberAll_192 _ _ (ih (k + 1) (by omega) τ' w1 w2)
      -- what was there before stays
      have old : ∀ (τ' : HP) (b : Bool), (∀ r, r ≠ 14 → r ≠ 15 → τ' r = ρ r) → (∀ j, j < 8 → τ' 14 j = (rdN c t A B (k + 1)).1 j ∧ τ' 15 j = (rdN c t A B (k + 1)).2.1 j) → b = (rdN c t A B (k + 1)).2.2 → Wp (d + 1 + 1) Y4_numberAll SM 183 [some (vr 0), some (vi (if b then 1 else 0)), some (vi (k : Int)), none, none, none] [] τ' (qv fun ρ' => (∀ r, r ≠ 14 → r ≠ 15 → ρ' r = ρ r) ∧ ∀ j, j < 8 → ρ' 14 j = (nums c t 8).1 j ∧ ρ' 15 j = (nums c t 8).2 j) (fun _ _ _ _ => False) := by
        intro τ' b w1 w2 hb
        cases b with
        | true => exact b4_numberAll_183 _ _ ⟨by decide, by decide⟩ (fun g => absurd g (by decide)) (fun _ => b4_numberAll_187 _ (fin τ' true w1 w2 hb))
        | false => exact b4_numberAll_183 _ _ ⟨by decide, by decide⟩ (fun _ => b4_numberAll_191 _ (fin τ' false w1 w2 hb)) (fun g => absurd rfl g)
      -- the way back
      have back : ∀ (τ' : HP) (b : Bool) (v5 : Int), (v5 = 1 ∨ (v5 = 0 ∧ c k = 0)) → (∀ r, r ≠ 14 → r ≠ 15 → τ' r = ρ r) → (∀ j, j < 8 → τ' 14 j = (ns1 c t k (rdN c t A B k)).1 j ∧ τ' 15 j = (ns1 c t k (rdN c t A B k)).2.1 j) → b = (ns1 c t k (rdN c t A B k)).2.2 → Wp (d + 1 + 1) Y4_numberAll SM 140 [some (vr 0), none, some (vi (k : Int)), some (vi ((k / 4 : Nat) : Int)), some (vi ((4 + k % 4 : Nat) : Int)), some (vi v5)] [vi (if b then 1 else 0)] τ' (qv fun ρ' => (∀ r, r ≠ 14 → r ≠ 15 → ρ' r = ρ r) ∧ ∀ j, j < 8 → ρ' 14 j = (nums c t 8).1 j ∧ ρ' 15 j = (nums c t 8).2 j) (fun _ _ _ _ => False) := by
        intro τ' b v5 hv w1 w2 hb
        have y4 : τ' 4 k = c k := by rw [w1 4 (by decide) (by decide)]; exact h4 k k16
        have y8 : τ' 8 k = t k := by rw [w1 8 (by decide) (by decide)]; exact h8 k k16
        have skip : ¬ 0 < t k → Wp (d + 1 + 1) Y4_numberAll SM 183 [some (vr 0), some (vi (if b then 1 else 0)), some (vi (k : Int)), none, none, none] [] τ' (qv fun ρ' => (∀ r, r ≠ 14 → r ≠ 15 → ρ' r = ρ r) ∧ ∀ j, j < 8 → ρ' 14 j = (nums c t 8).1 j ∧ ρ' 15 j = (nums c t 8).2 j) (fun _ _ _ _ => False) := by
          intro g
          have e2 : rdN c t A B (k + 1) = ns1 c t k (rdN c t A B k) := by rw [en]; unfold ns2; rw [if_neg g]
          exact old τ' b w1 (by rw [e2]; exact w2) (by rw [e2]; exact hb)
        rcases hv with rfl | ⟨rfl, c0⟩
        · refine b4_numberAll_140 _ _ _ _ _ ⟨by decide, by decide⟩ (fun g => absurd g (by decide)) (fun _ => ?_)
          refine b4_numberAll_146 _ _ _ _ ⟨by omega, by omega⟩ (by rw [ek, y8]; exact ⟨by omega, by omega⟩) (fun g => skip (by rw [ek, y8] at g; omega)) (fun g => ?_)
          rw [ek, y8] at g
          refine b4_numberAll_155 (d := d + 1) _ _ _ _ ⟨by omega, by omega⟩ (by rw [ek, y8]; exact ⟨by omega, by omega⟩) (by rw [ek, y4]; exact ⟨by omega, by omega⟩) (by rw [ek, y4, y8]; exact mok_raise w2 B1 (by omega) (by omega) ⟨by omega, by omega⟩ ⟨zk g, ck.2⟩) (fun z τ2 hz2 => ?_)
          obtain ⟨m1, m2, m3⟩ := hz2
          have m4 : ∀ r, r ≠ 14 → r ≠ 15 → τ2 r = ρ r := fun r a b => by rw [m1 r a b]; exact w1 r a b
          have m5 : ∀ j, j < 8 → τ2 14 j = (rdN c t A B (k + 1)).1 j ∧ τ2 15 j = (rdN c t A B (k + 1)).2.1 j := by
            rw [en]; unfold ns2; rw [if_pos g]; exact m2
          rcases m3 with ⟨rfl, hw⟩ | ⟨rfl, hw⟩
          · refine b4_numberAll_180 _ _ _ ⟨by decide, by decide⟩ (fun _ => b4_numberAll_187 _ (fin τ2 true m4 m5 ?_)) (fun g => absurd g (by decide))
            rw [en]; unfold ns2; rw [if_pos g]; simp [hw]
          · refine b4_numberAll_180 _ _ _ ⟨by decide, by decide⟩ (fun g => absurd rfl g) (fun _ => old τ2 b m4 m5 ?_)
            rw [hb, en]; unfold ns2; rw [if_pos g]; simp [hw]
        · exact b4_numberAll_140 _ _ _ _ _ ⟨by decide, by decide⟩ (fun _ => skip (fun g => by have := zk g; omega)) (fun g => absurd rfl g)
      -- the flag before the way back
      have mid : ∀ (τ' : HP) (b : Bool) (v5 : Int), (v5 = 1 ∨ (v5 = 0 ∧ c k = 0)) → (∀ r, r ≠ 14 → r ≠ 15 → τ' r = ρ r) → (∀ j, j < 8 → τ' 14 j = (ns1 c t k (rdN c t A B k)).1 j ∧ τ' 15 j = (ns1 c t k (rdN c t A B k)).2.1 j) → b = (ns1 c t k (rdN c t A B k)).2.2 → Wp (d + 1 + 1) Y4_numberAll SM 131 [some (vr 0), some (vi (if b then 1 else 0)), some (vi (k : Int)), some (vi ((k / 4 : Nat) : Int)), some (vi ((4 + k % 4 : Nat) : Int)), some (vi v5)] [] τ' (qv fun ρ' => (∀ r, r ≠ 14 → r ≠ 15 → ρ' r = ρ r) ∧ ∀ j, j < 8 → ρ' 14 j = (nums c t 8).1 j ∧ ρ' 15 j = (nums c t 8).2 j) (fun _ _ _ _ => False) := by
        intro τ' b v5 hv w1 w2 hb
        cases b with
        | true => exact b4_numberAll_131 _ _ _ _ _ ⟨by decide, by decide⟩ (fun g => absurd g (by decide)) (fun _ => b4_numberAll_135 _ _ _ _ (back τ' true v5 hv w1 w2 hb))
        | false => exact b4_numberAll_131 _ _ _ _ _ ⟨by decide, by decide⟩ (fun _ => b4_numberAll_139 _ _ _ _ (back τ' false v5 hv w1 w2 hb)) (fun g => absurd rfl g)
      have skip1 : ∀ v5 : Int, (v5 = 1 ∨ (v5 = 0 ∧ c k = 0)) → ¬ 0 < c k → Wp (d + 1 + 1) Y4_numberAll SM 131 [some (vr 0), some (vi (if (rdN c t A B k).2.2 then 1 else 0)), some (vi (k : Int)), some (vi ((k / 4 : Nat) : Int)), some (vi ((4 + k % 4 : Nat) : Int)), some (vi v5)] [] τ (qv fun ρ' => (∀ r, r ≠ 14 → r ≠ 15 → ρ' r = ρ r) ∧ ∀ j, j < 8 → ρ' 14 j = (nums c t 8).1 j ∧ ρ' 15 j = (nums c t 8).2 j) (fun _ _ _ _ => False) := by
        intro v5 hv g
        have e1 : ns1 c t k (rdN c t A B k) = rdN c t A B k := by unfold ns1; rw [if_neg g]
        exact mid τ _ v5 hv u1 (by rw [e1]; exact u2) (by rw [e1])
      -- is there such a list
      have list0 : c k = 0 → Wp (d + 1 + 1) Y4_numberAll SM 86 [some (vr 0), some (vi (if (rdN c t A B k).2.2 then 1 else 0)), some (vi (k : Int)), some (vi ((k / 4 : Nat) : Int)), some (vi ((4 + k % 4 : Nat) : Int)), none] [] τ (qv fun ρ' => (∀ r, r ≠ 14 → r ≠ 15 → ρ' r = ρ r) ∧ ∀ j, j < 8 → ρ' 14 j = (nums c t 8).1 j ∧ ρ' 15 j = (nums c t 8).2 j) (fun _ _ _ _ => False) := fun g =>
        b4_numberAll_86 _ _ _ _ (b4_numberAll_87 _ _ _ _ _ ⟨by decide, by decide⟩ (fun _ => skip1 0 (Or.inr ⟨rfl, g⟩) (by omega)) (fun g => absurd rfl g))
      have g01 : τ 0 1 = D := by rw [u1 0 (by decide) (by decide)]; exact h1
      have g02 : τ 0 2 = P := by rw [u1 0 (by decide) (by decide)]; exact h2
      refine b4_numberAll_53 _ _ ⟨by omega, by omega⟩ ⟨by omega, by omega⟩ (by rw [g01]; exact ⟨by omega, by omega⟩) (fun g => ?_) (fun g => ?_)
      · rw [g01] at g
        rw [e4, e5]
        exact list0 (hout k k16 (Or.inl (by omega)))
      · rw [e4, e5]
        refine b4_numberAll_72 _ _ _ _ ⟨by omega, by omega⟩ ⟨by omega, by omega⟩ (by rw [g02]; exact ⟨by omega, by omega⟩) (fun g2 => list0 (hout k k16 (Or.inr (by rw [g02] at g2; omega)))) (fun g2 => ?_)
        refine b4_numberAll_82 _ _ _ _ (b4_numberAll_87 _ _ _ _ _ ⟨by decide, by decide⟩ (fun g => absurd g (by decide)) (fun _ => ?_))
        refine b4_numberAll_94 _ _ _ _ _ ⟨by omega, by omega⟩ (by rw [ek, x4]; exact ⟨by omega, by omega⟩) (fun g3 => skip1 1 (Or.inl rfl) (by rw [ek, x4] at g3; omega)) (fun g3 => ?_)
        rw [ek, x4] at g3
        refine b4_numberAll_103 (d := d + 1) _ _ _ _ _ ⟨by omega, by omega⟩ (by rw [ek, x4]; exact ⟨by omega, by omega⟩) (by rw [ek, x8]; exact ⟨by omega, by omega⟩) (by rw [ek, x4, x8]; exact mok_raise u2 B0 (by omega) (by omega) ⟨g3, ck.2⟩ ⟨by omega, by omega⟩) (fun z τ2 hz2 => ?_)
        obtain ⟨m1, m2, m3⟩ := hz2
        have m4 : ∀ r, r ≠ 14 → r ≠ 15 → τ2 r = ρ r := fun r a b => by rw [m1 r a b]; exact u1 r a b
        have m5 : ∀ j, j < 8 → τ2 14 j = (ns1 c t k (rdN c t A B k)).1 j ∧ τ2 15 j = (ns1 c t k (rdN c t A B k)).2.1 j := by
          unfold ns1; rw [if_pos g3]; exact m2
        rcases m3 with ⟨rfl, hw⟩ | ⟨rfl, hw⟩
        · refine b4_numberAll_128 _ _ _ _ _ _ ⟨by decide, by decide⟩ (fun _ => b4_numberAll_135 _ _ _ _ (back τ2 true 1 (Or.inl rfl) m4 m5 ?_)) (fun g => absurd g (by decide))
          unfold ns1; rw [if_pos g3]; simp [hw]
        · refine b4_numberAll_128 _ _ _ _ _ _ ⟨by decide, by decide⟩ (fun g => absurd rfl g) (fun _ => mid τ2 _ 1 (Or.inl rfl) m4 m5 ?_)
          unfold ns1; rw [if_pos g3]; simp [hw]
  exact lp 16 0 rfl τ t1 t2
theorem mok_numberAll {c t : Tb} (h1 : ρ 0 1 = D) (h2 : ρ 0 2 = P) (D4 : D ≤ 4) (P4 : P ≤ 4) (h4 : ∀ l, l < 16 → ρ 4 l = c l) (h8 : ∀ l, l < 16 → ρ 8 l = t l) (ho : obeyT c t) (hc : ∀ l, l < 16 → 0 ≤ c l ∧ c l ≤ 500) (ht : ∀ l, l < 16 → 0 ≤ t l ∧ t l ≤ 20) (hz : ∀ l, l < 16 → 0 < t l → 0 < c l) (hout : ∀ l, l < 16 → D ≤ l / 4 ∨ P ≤ l % 4 → c l = 0) :
    Ok (d + 2) Y4_numberAll SM [vr 0] ρ (qv fun ρ' => (∀ r, r ≠ 14 → r ≠ 15 → ρ' r = ρ r) ∧ ∀ j, j < 8 → ρ' 14 j = (nums c t 8).1 j ∧ ρ' 15 j = (nums c t 8).2 j) := by
  refine Ok.ofWp (by decide) (Nat.le_of_ble_eq_true rfl) ?_
  have t0 : ∀ l, l < 16 → 0 ≤ t l := fun l hl => (ht l hl).1
  -- rounds
  have OL : ∀ y i : Nat, i + y = 7 → ∀ τ : HP, (∀ r, r ≠ 14 → r ≠ 15 → τ r = ρ r) → (∀ j, j < 8 → τ 14 j = (nums c t i).1 j ∧ τ 15 j = (nums c t i).2 j) → Wp (d + 1 + 1) Y4_numberAll SM 39 [some (vr 0), some (vi 1), none, none, none, none] [] τ (qv fun ρ' => (∀ r, r ≠ 14 → r ≠ 15 → ρ' r = ρ r) ∧ ∀ j, j < 8 → ρ' 14 j = (nums c t 8).1 j ∧ ρ' 15 j = (nums c t 8).2 j) (fun _ _ _ _ => False) := by
    intro y
    induction y with
    | zero =>
      intro i hi τ t1 t2
      have e : i = 7 := by omega
      subst e
      exact mnRound h1 h2 D4 P4 h4 h8 ho hc ht hz hout 7 (by omega) τ t1 t2 (fun τ' _ _ g => by rw [chg7 ho t0 hz] at g; cases g)
    | succ y ihy =>
      intro i hi τ t1 t2
      exact mnRound h1 h2 D4 P4 h4 h8 ho hc ht hz hout i (by omega) τ t1 t2 (fun τ' u1 u2 _ => ihy (i + 1) (by omega) τ' u1 u2)
  have l1 : ∀ k i : Nat, i + k = 8 → ∀ τ : HP, (∀ r, r ≠ 14 → r ≠ 15 → τ r = ρ r) → (∀ j, j < i → τ 14 j = (nums c t 0).1 j ∧ τ 15 j = (nums c t 0).2 j) →
      Wp (d + 1 + 1) Y4_numberAll SM 2 [some (vr 0), some (vi (i : Int)), none, none, none, none] [] τ (qv fun ρ' => (∀ r, r ≠ 14 → r ≠ 15 → ρ' r = ρ r) ∧ ∀ j, j < 8 → ρ' 14 j = (nums c t 8).1 j ∧ ρ' 15 j = (nums c t 8).2 j) (fun _ _ _ _ => False) := by
    intro k
    induction k with
    | zero =>
      intro i hi τ h1' h2'
      have e : i = 8 := by omega
      subst e
      exact b4_numberAll_2 _ ⟨by omega, by omega⟩ (fun _ => b4_numberAll_37 (OL 7 0 rfl τ h1' h2')) (fun q => absurd q (by omega))
    | succ k ih =>
      intro i hi τ h1' h2'
      have ei : (i : Int).toNat = i := Int.toNat_natCast i
      have main : ∀ s : Int, s = (nums c t 0).1 i → Wp (d + 1 + 1) Y4_numberAll SM 23 [some (vr 0), some (vi (i : Int)), none, none, none, none] [vl s, vi (i : Int), vr 14] τ (qv fun ρ' => (∀ r, r ≠ 14 → r ≠ 15 → ρ' r = ρ r) ∧ ∀ j, j < 8 → ρ' 14 j = (nums c t 8).1 j ∧ ρ' 15 j = (nums c t 8).2 j) (fun _ _ _ _ => False) := by
        rintro s rfl
        refine b4_numberAll_23 _ _ _ ⟨by omega, by omega⟩ ⟨by omega, by omega⟩ ?_
        rw [ei]
        refine ih (i + 1) (by omega) _ (fun r a b => by rw [up_ne b, up_ne a]; exact h1' r a b) (fun j hj => ?_)
        by_cases e : j = i
        · subst e
          rw [up_nr (by decide), up_at, up_at]
          exact ⟨rfl, rfl⟩
        · rw [up_nr (by decide), up_nj e, up_nj e, up_nr (by decide)]
          exact h2' j (by omega)
      refine b4_numberAll_2 _ ⟨by omega, by omega⟩ (fun q => absurd q (by omega)) (fun _ => ?_)
      refine b4_numberAll_8 _ ⟨by omega, by omega⟩ (fun q => b4_numberAll_22 _ _ (main 0 ?_)) (fun q => b4_numberAll_18 _ _ (main 1 ?_))
      · simp only [nums]; rw [if_neg (by omega)]
      · simp only [nums]; rw [if_pos (by omega)]
  exact b4_numberAll_0 (l1 8 0 rfl ρ (fun _ _ _ => rfl) (fun j hj => by omega))
end MO
