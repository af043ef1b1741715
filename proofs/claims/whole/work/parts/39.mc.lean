/-! ===== the model: the order, the shares ===== -/
theorem cr_lt_le {x y z a b c : Int} (ha : 0 < a) (hb : 0 < b) (hc : 0 < c) (h1 : x * b < y * a) (h2 : y * c ≤ z * b) : x * c < z * a := by
  have k1 : x * b * c < y * a * c := Int.mul_lt_mul_of_pos_right h1 hc
  have k2 : y * c * a ≤ z * b * a := Int.mul_le_mul_of_nonneg_right h2 (Int.le_of_lt ha)
  have k3 : x * c * b < z * a * b := by
    rw [show x * c * b = x * b * c by rw [Int.mul_assoc, Int.mul_comm c, ← Int.mul_assoc], show z * a * b = z * b * a by rw [Int.mul_assoc, Int.mul_comm a, ← Int.mul_assoc]]
    rw [show y * c * a = y * a * c by rw [Int.mul_assoc, Int.mul_comm c, ← Int.mul_assoc]] at k2
    omega
  exact Int.lt_of_mul_lt_mul_right k3 (Int.le_of_lt hb)
theorem cr_le_lt {x y z a b c : Int} (ha : 0 < a) (hb : 0 < b) (hc : 0 < c) (h1 : x * b ≤ y * a) (h2 : y * c < z * b) : x * c < z * a := by
  have k1 : x * b * c ≤ y * a * c := Int.mul_le_mul_of_nonneg_right h1 (Int.le_of_lt hc)
  have k2 : y * c * a < z * b * a := Int.mul_lt_mul_of_pos_right h2 ha
  have k3 : x * c * b < z * a * b := by
    rw [show x * c * b = x * b * c by rw [Int.mul_assoc, Int.mul_comm c, ← Int.mul_assoc], show z * a * b = z * b * a by rw [Int.mul_assoc, Int.mul_comm a, ← Int.mul_assoc]]
    rw [show y * c * a = y * a * c by rw [Int.mul_assoc, Int.mul_comm c, ← Int.mul_assoc]] at k2
    omega
  exact Int.lt_of_mul_lt_mul_right k3 (Int.le_of_lt hb)
theorem cr_eq {x y z a b c : Int} (hb : 0 < b) (h1 : x * b = y * a) (h2 : y * c = z * b) : x * c = z * a := by
  have k3 : x * c * b = z * a * b := by
    rw [show x * c * b = x * b * c by rw [Int.mul_assoc, Int.mul_comm c, ← Int.mul_assoc], h1, show z * a * b = z * b * a by rw [Int.mul_assoc, Int.mul_comm a, ← Int.mul_assoc], ← h2, Int.mul_assoc, Int.mul_comm a, ← Int.mul_assoc]
  exact Int.eq_of_mul_eq_mul_right (by omega) k3
section GB
variable {w s rk : Tb}
theorem gb_tr {p q r : Nat} (hs : ∀ p, 0 ≤ s p) (h1 : gbF w s rk p q) (h2 : gbF w s rk q r) : gbF w s rk p r := by
  have a := hs p
  have b := hs q
  have c := hs r
  have pa : 0 < 2 * s p + 1 := by omega
  have pb : 0 < 2 * s q + 1 := by omega
  have pc : 0 < 2 * s r + 1 := by omega
  unfold gbF at h1 h2 ⊢
  rcases h1 with h1 | ⟨h1, r1⟩ <;> rcases h2 with h2 | ⟨h2, r2⟩
  · exact Or.inl (cr_lt_le pc pb pa h2 (Int.le_of_lt h1))
  · exact Or.inl (cr_le_lt pc pb pa (Int.le_of_eq h2.symm) h1)
  · exact Or.inl (cr_lt_le pc pb pa h2 (Int.le_of_eq h1.symm))
  · exact Or.inr ⟨cr_eq pb h1 h2, by omega⟩
theorem gb_as {p q : Nat} (h1 : gbF w s rk p q) (h2 : gbF w s rk q p) : False := by
  unfold gbF at h1 h2
  omega
theorem gb_tot {p q : Nat} (hr : rk p ≠ rk q) : gbF w s rk p q ∨ gbF w s rk q p := by
  unfold gbF
  omega
theorem bst_best (hs : ∀ p, 0 ≤ s p) (hr : ∀ p q, p < 4 → q < 4 → rk p = rk q → p = q) : ∀ n, n < 4 → ∀ q, q ≤ n → q ≠ bstF w s rk n → gbF w s rk (bstF w s rk n) q
  | 0, _, q, hq, hn => by simp only [bstF] at hn; omega
  | n + 1, h4, q, hq, hn => by
    have ih := bst_best hs hr n (by omega)
    have bl := bstF_le w s rk n
    simp only [bstF] at hn ⊢
    by_cases g : gbF w s rk (n + 1) (bstF w s rk n)
    · rw [if_pos g] at hn ⊢
      by_cases e : q = bstF w s rk n
      · rw [e]; exact g
      · exact gb_tr hs g (ih q (by omega) e)
    · rw [if_neg g] at hn ⊢
      by_cases e : q = n + 1
      · subst e
        rcases gb_tot (w := w) (s := s) (rk := rk) (p := n + 1) (q := bstF w s rk n) (fun he => hn (hr _ _ h4 (by omega) he)) with k | k
        · exact absurd k g
        · exact k
      · exact ih q (by omega) hn
end GB
/-- how many stand before -/
def NQ (rk : Tb) (x : Int) : Int := sm 4 (fun q => if rk q < x then 1 else 0)
theorem NQ_nx (rk : Tb) (x : Int) : NQ rk (x + 1) = NQ rk x + sm 4 (fun q => if rk q = x then 1 else 0) := by
  have one : ∀ q, (if rk q < x + 1 then (1 : Int) else 0) = (if rk q < x then 1 else 0) + if rk q = x then 1 else 0 := by
    intro q
    by_cases a : rk q < x
    · rw [if_pos (by omega), if_pos a, if_neg (by omega)]; rfl
    · by_cases b : rk q = x
      · rw [if_pos (by omega), if_neg a, if_pos b]; rfl
      · rw [if_neg (by omega), if_neg a, if_neg b]; rfl
  unfold NQ
  rw [sum4, sum4, sum4, one 0, one 1, one 2, one 3]
  omega
theorem NQ_no {rk : Tb} {x : Int} (h : ∀ q, q < 4 → rk q ≠ x) : NQ rk (x + 1) = NQ rk x := by
  rw [NQ_nx, sum4, if_neg (h 0 (by omega)), if_neg (h 1 (by omega)), if_neg (h 2 (by omega)), if_neg (h 3 (by omega))]
  omega
theorem NQ_yes {rk : Tb} {p : Nat} (hp : p < 4) (hr : ∀ p q, p < 4 → q < 4 → rk p = rk q → p = q) : NQ rk (rk p + 1) = NQ rk (rk p) + 1 := by
  have e : ∀ q, q < 4 → (if rk q = rk p then (1 : Int) else 0) = if q = p then 1 else 0 := by
    intro q hq
    by_cases a : rk q = rk p
    · rw [if_pos a, if_pos (hr q p hq hp a)]
    · rw [if_neg a, if_neg (fun b => a (by rw [b]))]
  rw [NQ_nx, sum4, e 0 (by omega), e 1 (by omega), e 2 (by omega), e 3 (by omega)]
  rcases (show p = 0 ∨ p = 1 ∨ p = 2 ∨ p = 3 by omega) with rfl | rfl | rfl | rfl <;> simp
theorem NQ_mono (rk : Tb) {x y : Int} (h : x ≤ y) : NQ rk x ≤ NQ rk y := by
  have one : ∀ q, (if rk q < x then (1 : Int) else 0) ≤ if rk q < y then 1 else 0 := by
    intro q
    by_cases a : rk q < x
    · rw [if_pos a, if_pos (by omega)]; exact Int.le_refl _
    · rw [if_neg a]; split <;> omega
  have a := one 0
  have b := one 1
  have c := one 2
  have e := one 3
  unfold NQ
  rw [sum4, sum4]
  omega
theorem NQ_0 {rk : Tb} (h : ∀ p, p < 4 → 0 ≤ rk p) : NQ rk 0 = 0 := by
  unfold NQ
  have a := h 0 (by omega)
  have b := h 1 (by omega)
  have c := h 2 (by omega)
  have e := h 3 (by omega)
  rw [sum4, if_neg (by omega), if_neg (by omega), if_neg (by omega), if_neg (by omega)]
  rfl
section MC
variable {d : Nat} {σ ρ : HP} {Q : MQt} {X : MXt} {D P : Nat}
theorem NQ_top (h : XI σ D P) : NQ (σ 4) (4 + P) = P := by
  have hr := h.2.2.2.2.2.2.2.1.1
  have P4 := h.2.1
  have e : ∀ q, q < 4 → (if σ 4 q < 4 + (P : Int) then (1 : Int) else 0) = if q < P then 1 else 0 := by
    intro q hq
    have := hr q hq
    by_cases a : q < P
    · rw [if_pos (by omega), if_pos a]
    · rw [if_neg (by omega), if_neg a]
  unfold NQ
  rw [sum4, e 0 (by omega), e 1 (by omega), e 2 (by omega), e 3 (by omega)]
  rcases (show P = 0 ∨ P = 1 ∨ P = 2 ∨ P = 3 ∨ P = 4 by omega) with rfl | rfl | rfl | rfl | rfl <;> simp
theorem NQ_lt (h : XI σ D P) {p : Nat} (hp : p < P) : 0 ≤ NQ (σ 4) (σ 4 p) ∧ NQ (σ 4) (σ 4 p) < P := by
  have P4 := h.2.1
  have hr := h.2.2.2.2.2.2.2.1
  have a := NQ_yes (rk := σ 4) (p := p) (by omega) hr.2
  have b := NQ_top h
  have c := hr.1 p (by omega)
  have e := NQ_mono (σ 4) (show σ 4 p + 1 ≤ 4 + (P : Int) by omega)
  have f := NQ_0 (rk := σ 4) (fun p hp => (h.1.2.2.2.2.2.2.2 p hp).1)
  have g := NQ_mono (σ 4) (show (0 : Int) ≤ σ 4 p by omega)
  omega
theorem mok_inOrder {k : Nat} (h : XI σ D P) (hk : k < P) (m2 : ρ 0 2 = P) (m3 : ∀ i, i < 4 → -1 ≤ ρ 3 i ∧ ρ 3 i < 4) (m4 : ∀ p i : Nat, p < 4 → i < 4 → (ρ 3 i = p ↔ σ 4 p = i)) : Ok d Y4_inOrder SM [vr 0, vi k] ρ (qi fun z ρ' => ρ' = ρ ∧ ∃ p : Nat, z = p ∧ p < P ∧ NQ (σ 4) (σ 4 p) = k) := by
  refine Ok.ofWp (by decide) (Nat.le_of_ble_eq_true rfl) ?_
  have P4 := h.2.1
  have hr := h.2.2.2.2.2.2.2.1
  have n0 := NQ_0 (rk := σ 4) (fun p hp => (h.1.2.2.2.2.2.2.2 p hp).1)
  have l2 : ∀ H : Nat, H < 16 → (∀ q, q < 4 → (H.testBit q = true ↔ σ 4 q < 4)) → ∀ n p : Nat, p + n = P → NQ (σ 4) (4 + p) ≤ k → Wp d Y4_inOrder SM 59 [some (vr 0), none, some (vi ((k : Int) - NQ (σ 4) (4 + p))), some (vi (H : Int)), some (vi (p : Int))] [] ρ (qi fun z ρ' => ρ' = ρ ∧ ∃ p : Nat, z = p ∧ p < P ∧ NQ (σ 4) (σ 4 p) = k) (fun _ _ _ _ => False) := by
    intro H H16 hH n
    induction n with
    | zero =>
      intro p hp hle
      have e : p = P := by omega
      subst e
      have := NQ_top h
      omega
    | succ n ih =>
      intro p hp hle
      have p4 : p < 4 := by omega
      have low := NQ_mono (σ 4) (show (0 : Int) ≤ 4 + (p : Int) by omega)
      have eb := bit_N (a := H) (k := p) (by omega) (by omega)
      refine b4_inOrder_59 _ _ _ ⟨by omega, by omega⟩ (by rw [m2]; exact ⟨by omega, by omega⟩) (fun g => by rw [m2] at g; omega) (fun _ => ?_)
      have hp4 := hr.1 p p4
      cases hb : H.testBit p with
      | true =>
        rw [hb, if_pos rfl] at eb
        have q4 := (hH p p4).1 hb
        have no : NQ (σ 4) (4 + p + 1) = NQ (σ 4) (4 + p) := NQ_no fun q hq e => by
          have := hr.1 q hq
          have : q = p := by omega
          subst this; omega
        refine b4_inOrder_68 _ _ _ (by rw [eb]; exact ⟨by decide, by decide⟩) (fun _ => ?_) (fun g => by rw [eb] at g; exact absurd g (by decide))
        have := ih (p + 1) (by omega) (by rw [show (4 : Int) + ((p + 1 : Nat) : Int) = 4 + p + 1 by omega, no]; exact hle)
        rw [show (4 : Int) + ((p + 1 : Nat) : Int) = 4 + p + 1 by omega, no] at this
        exact b4_inOrder_87 _ _ _ this
      | false =>
        rw [hb, if_neg (by decide)] at eb
        have q4 : ¬ σ 4 p < 4 := fun g => by rw [(hH p p4).2 g] at hb; cases hb
        have e4 : σ 4 p = 4 + (p : Int) := by omega
        have yes := NQ_yes (rk := σ 4) p4 hr.2
        rw [e4] at yes
        refine b4_inOrder_68 _ _ _ (by rw [eb]; exact ⟨by decide, by decide⟩) (fun g => by rw [eb] at g; exact absurd rfl g) (fun _ => ?_)
        refine b4_inOrder_77 _ _ _ ⟨by omega, by omega⟩ (fun g => ?_) (fun g => b4_inOrder_81 _ ⟨_, rfl, rfl, p, rfl, by omega, by rw [e4]; omega⟩)
        have := ih (p + 1) (by omega) (by rw [show (4 : Int) + ((p + 1 : Nat) : Int) = 4 + p + 1 by omega, yes]; omega)
        rw [show (4 : Int) + ((p + 1 : Nat) : Int) = 4 + p + 1 by omega, yes, show (k : Int) - (NQ (σ 4) (4 + p) + 1) = (k : Int) - NQ (σ 4) (4 + p) + -1 by omega] at this
        exact b4_inOrder_84 _ _ _ (b4_inOrder_87 _ _ _ this)
  have l1 : ∀ n i : Nat, i + n = 4 → ∀ H : Nat, H < 16 → (∀ q, q < 4 → (H.testBit q = true ↔ σ 4 q < i)) → NQ (σ 4) i ≤ k → Wp d Y4_inOrder SM 7 [some (vr 0), none, some (vi ((k : Int) - NQ (σ 4) i)), some (vi (H : Int)), some (vi (i : Int))] [] ρ (qi fun z ρ' => ρ' = ρ ∧ ∃ p : Nat, z = p ∧ p < P ∧ NQ (σ 4) (σ 4 p) = k) (fun _ _ _ _ => False) := by
    intro n
    induction n with
    | zero =>
      intro i hi H H16 hH hle
      have e : i = 4 := by omega
      subst e
      exact b4_inOrder_7 _ _ _ ⟨by omega, by omega⟩ (fun _ => b4_inOrder_56 _ _ (l2 H H16 hH P 0 (by omega) hle)) (fun g => absurd g (by omega))
    | succ n ih =>
      intro i hi H H16 hH hle
      have i4 : i < 4 := by omega
      have ei : (i : Int).toNat = i := Int.toNat_natCast i
      have b3 := m3 i i4
      have low := NQ_mono (σ 4) (show (0 : Int) ≤ (i : Int) by omega)
      refine b4_inOrder_7 _ _ _ ⟨by omega, by omega⟩ (fun g => absurd g (by omega)) (fun _ => ?_)
      refine b4_inOrder_13 _ _ _ ⟨by omega, by omega⟩ (by rw [ei]; exact ⟨by omega, by omega⟩) (fun g => ?_) (fun g => ?_)
      · rw [ei] at g
        have nq : ∀ q, q < 4 → σ 4 q ≠ i := fun q hq e => by
          have := (m4 q i hq i4).2 e
          omega
        have no : NQ (σ 4) ((i : Int) + 1) = NQ (σ 4) i := NQ_no nq
        have := ih (i + 1) (by omega) H H16 (fun q hq => by
          rw [hH q hq]
          have := nq q hq
          omega) (by rw [show ((i + 1 : Nat) : Int) = (i : Int) + 1 by omega, no]; exact hle)
        rw [show ((i + 1 : Nat) : Int) = (i : Int) + 1 by omega, no] at this
        exact b4_inOrder_50 _ _ _ this
      · rw [ei] at g
        obtain ⟨p, hp⟩ : ∃ p : Nat, ρ 3 i = p := ⟨(ρ 3 i).toNat, by omega⟩
        have p4 : p < 4 := by omega
        have e4 := (m4 p i p4 i4).1 hp
        have pP : p < P := by
          have := hr.1 p p4
          omega
        have yes := NQ_yes (rk := σ 4) p4 hr.2
        rw [e4] at yes
        refine b4_inOrder_23 _ _ _ ⟨by omega, by omega⟩ (fun g2 => ?_) (fun g2 => b4_inOrder_27 _ ⟨by omega, by omega⟩ ⟨_, rfl, rfl, p, by rw [ei]; exact hp, pP, by rw [e4]; omega⟩)
        refine b4_inOrder_35 _ _ _ ⟨by omega, by omega⟩ (b4_inOrder_50 _ _ _ ?_)
        have p16 : 2 ^ p < 2 ^ 4 := Nat.pow_lt_pow_right (by decide) p4
        have eb : bO (H : Int) (bL 1 (p : Int)) = ((H ||| 2 ^ p : Nat) : Int) := by
          rw [show (1 : Int) = ((1 : Nat) : Int) from rfl, bL_N (by omega) (by omega), Nat.one_mul, bO_N (by omega) (by omega)]
        rw [ei, hp, eb]
        have := ih (i + 1) (by omega) (H ||| 2 ^ p) (Nat.or_lt_two_pow (n := 4) H16 p16) (fun q hq => by
          rw [tb_or, Bool.or_eq_true, decide_eq_true_eq, hH q hq]
          constructor
          · rintro (g | g)
            · omega
            · subst g; omega
          · intro g
            by_cases e : σ 4 q = i
            · exact Or.inr (hr.2 q p hq p4 (by rw [e, e4]))
            · exact Or.inl (by omega)) (by rw [show ((i + 1 : Nat) : Int) = (i : Int) + 1 by omega, yes]; omega)
        rw [show ((i + 1 : Nat) : Int) = (i : Int) + 1 by omega, yes, show (k : Int) - (NQ (σ 4) i + 1) = (k : Int) - NQ (σ 4) i + -1 by omega] at this
        exact this
  have := l1 4 0 rfl 0 (by omega) (fun q hq => by
    have := (h.1.2.2.2.2.2.2.2 q hq).1
    simp
    omega) (by rw [show ((0 : Nat) : Int) = 0 from rfl, n0]; omega)
  rw [show ((0 : Nat) : Int) = 0 from rfl, n0, show (k : Int) - 0 = k by omega] at this
  exact b4_inOrder_0 _ this
end MC
