/-! ===== the class: the rounds of the numbers ===== -/
def BD (A B : Tb) : Prop := ∀ v, v < 8 → 0 ≤ A v ∧ A v ≤ 3707437500000000 ∧ 0 < B v ∧ (A v = 0 ∨ B v ≤ 353220125000000)
section XK
variable {d : Nat} {σ : HP} {Q : MQt} {X : MXt}
theorem ok_isLess {a b c e : Nat} (ha : a < 9223372036854775808) (hb : b < 9223372036854775808) (hc : c < 9223372036854775808) (he : e < 9223372036854775808) (b0 : 0 < b) (e0 : 0 < e) : Ok d Y1_isLess SX [vl a, vl b, vl c, vl e] σ (qi fun z σ' => σ' = σ ∧ ((z = 1 ∧ a * e < c * b) ∨ (z = 0 ∧ ¬ a * e < c * b))) := by
  refine Ok.ofWp (by decide) (Nat.le_of_ble_eq_true rfl) ?_
  refine b1_isLess_0 _ _ _ _ ?_
  have hE : EU 99 a b ∨ EU 99 c e ∨ (a < b ∧ c < e) := by
    by_cases q : b ≤ a
    · exact Or.inl ⟨q, Or.inr (by rw [fb100]; omega)⟩
    · by_cases q2 : e ≤ c
      · exact Or.inr (Or.inl ⟨q2, Or.inr (by rw [fb100]; omega)⟩)
      · exact Or.inr (Or.inr ⟨by omega, by omega⟩)
  rcases hE with hE | hE | ⟨q1, q2⟩
  · exact wp_isLess 99 0 a b c e (by omega) (Or.inl hE) ha hb hc he b0 e0 _ Iff.rfl
  · exact wp_isLess 99 0 a b c e (by omega) (Or.inr hE) ha hb hc he b0 e0 _ Iff.rfl
  · have z1 : (a : Int) / (b : Int) = 0 := by rw [← Int.natCast_ediv, Nat.div_eq_of_lt q1]; rfl
    have z2 : (c : Int) / (e : Int) = 0 := by rw [← Int.natCast_ediv, Nat.div_eq_of_lt q2]; rfl
    refine b1_isLess_3 _ _ _ _ _ ⟨by decide, by decide⟩ (fun q => absurd q (by decide)) (fun _ => ?_)
    refine b1_isLess_10 _ _ _ _ _ ⟨by omega, by omega⟩ (fun q => absurd q (by omega)) (fun _ => ?_)
    refine b1_isLess_16 _ _ _ _ _ ⟨by omega, by omega⟩ (fun q => absurd q (by omega)) (fun _ => ?_)
    refine b1_isLess_23 _ _ _ _ _ ⟨by omega, by omega⟩ ⟨by omega, by omega⟩ ⟨by omega, by omega⟩ ⟨by omega, by omega⟩ (by rw [z1]; exact ⟨by decide, by decide⟩) (by rw [z2]; exact ⟨by decide, by decide⟩) (fun g => ?_) (fun g => absurd (by rw [z1, z2]) g)
    rw [z1, z2]
    have fin : (a = 0 ∨ c = 0) → Wp d Y1_isLess SX 89 [none, none, none, none, none, none, none, none, none, none, none, none, none, none, none, some (vl ((c : Int) - 0 * (e : Int))), none] [] σ (qi fun z σ' => σ' = σ ∧ ((z = 1 ∧ a * e < c * b) ∨ (z = 0 ∧ ¬ a * e < c * b))) (fun _ _ _ _ => False) := by
      intro hz
      refine b1_isLess_89 _ ⟨by omega, by omega⟩ (fun q => ?_) (fun q => ?_)
      · refine b1_isLess_100 (b1_isLess_101 _ (Or.inl rfl) ⟨0, rfl, rfl, Or.inr ⟨rfl, fun hh => ?_⟩⟩)
        rw [show c = 0 by omega] at hh
        omega
      · refine b1_isLess_96 (b1_isLess_101 _ (Or.inr rfl) ⟨1, rfl, rfl, Or.inl ⟨rfl, ?_⟩⟩)
        rcases hz with hz | hz
        · rw [hz, Nat.zero_mul]
          exact Nat.mul_pos (by omega) b0
        · omega
    refine b1_isLess_57 _ _ _ _ _ _ _ ⟨by omega, by omega⟩ (fun q => fin (by omega)) (fun q => ?_)
    refine b1_isLess_82 _ _ _ _ _ ⟨by omega, by omega⟩ (fun q2 => ?_) (fun q2 => fin (by omega))
    refine b1_isLess_102 _ _ _ _ _ ?_
    rw [show (a : Int) - 0 * (b : Int) = (a : Int) by omega, show (c : Int) - 0 * (e : Int) = (c : Int) by omega]
    exact wp_isLess 99 1 e c b a (by omega) (Or.inl ⟨by omega, Or.inr (by rw [fb100]; omega)⟩) he hc hb ha (by omega) (by omega) _ (by rw [Nat.mul_comm a, Nat.mul_comm c])
theorem ok_goWay {A B : Tb} {u v : Nat} {x y : Int} (hA : ∀ j, j < 8 → σ 16 j = A j ∧ σ 17 j = B j) (hB : BD A B) (hu : u < 8) (hv : v < 8) (hx : 0 < x ∧ x ≤ 500) (hy : 0 < y ∧ y ≤ 500) :
    Ok (d + 1) Y1_goWay SX [vr 15, vi u, vi v, vi x, vi y] σ (qi fun z σ' => (∀ r, r ≠ 16 → r ≠ 17 → σ' r = σ r) ∧ (∀ j, j < 8 → σ' 16 j = stA A B u v x y j ∧ σ' 17 j = stB A B u v x y j) ∧ ((z = 1 ∧ impW A B u v x y) ∨ (z = 0 ∧ ¬ impW A B u v x y))) := by
  refine Ok.ofWp (by decide) (Nat.le_of_ble_eq_true rfl) ?_
  obtain ⟨u1, u2, u3, u4⟩ := hB u hu
  obtain ⟨v1, v2, v3, v4⟩ := hB v hv
  have eu : (u : Int).toNat = u := Int.toNat_natCast u
  have ev : (v : Int).toNat = v := Int.toNat_natCast v
  have au := (hA u hu).1
  have bu := (hA u hu).2
  have av := (hA v hv).1
  have bv := (hA v hv).2
  have p1 : 0 ≤ A u * x ∧ A u * x ≤ 3707437500000000 * 500 := ⟨Int.mul_nonneg u1 (by omega), Int.mul_le_mul u2 hx.2 (by omega) (by omega)⟩
  have hno : ¬ impW A B u v x y → Wp (d + 1) Y1_goWay SX 63 [none, none, none, none, none, none, none, none, none, none, none] [] σ (qi fun z σ' => (∀ r, r ≠ 16 → r ≠ 17 → σ' r = σ r) ∧ (∀ j, j < 8 → σ' 16 j = stA A B u v x y j ∧ σ' 17 j = stB A B u v x y j) ∧ ((z = 1 ∧ impW A B u v x y) ∨ (z = 0 ∧ ¬ impW A B u v x y))) (fun _ _ _ _ => False) := by
    intro hi
    refine b1_goWay_63 ⟨0, rfl, fun _ _ _ => rfl, fun j hj => ?_, Or.inr ⟨rfl, hi⟩⟩
    unfold stA stB
    rw [if_neg hi, if_neg hi]
    exact hA j hj
  refine b1_goWay_0 _ _ _ _ ⟨by omega, by omega⟩ ⟨by omega, by omega⟩ ⟨by omega, by omega⟩ (by rw [eu, au]; exact ⟨by omega, by omega⟩) (fun q => ?_) (fun q => ?_)
  · rw [eu, au] at q
    refine hno fun hi => hi.1 ?_
    rcases Int.mul_eq_zero.1 q with q | q
    · exact q
    · omega
  · rw [eu, au] at q ⊢
    rw [bu]
    have a0 : A u ≠ 0 := fun e => q (by rw [e, Int.zero_mul])
    have p2 : 0 < B u * y ∧ B u * y ≤ 353220125000000 * 500 := ⟨Int.mul_pos u3 hy.1, Int.mul_le_mul (by omega) hy.2 (by omega) (by omega)⟩
    obtain ⟨n1, e1⟩ : ∃ n : Nat, A u * x = (n : Int) := ⟨(A u * x).toNat, by omega⟩
    obtain ⟨n2, e2⟩ : ∃ n : Nat, B u * y = (n : Int) := ⟨(B u * y).toNat, by omega⟩
    have hyes : impW A B u v x y → Wp (d + 1) Y1_goWay SX 65 [some (vr 15), none, some (vi (v : Int)), none, none, some (vl (A u * x)), none, some (vl (B u * y)), none, none, none] [] σ (qi fun z σ' => (∀ r, r ≠ 16 → r ≠ 17 → σ' r = σ r) ∧ (∀ j, j < 8 → σ' 16 j = stA A B u v x y j ∧ σ' 17 j = stB A B u v x y j) ∧ ((z = 1 ∧ impW A B u v x y) ∨ (z = 0 ∧ ¬ impW A B u v x y))) (fun _ _ _ _ => False) := by
      intro hi
      rw [e1, e2]
      refine b1_goWay_65 (d := d) _ _ _ (ok_gcd (a := n1) (b := n2) (by omega) (by omega) (by omega) (by omega)) (fun z σ' hz => ?_)
      obtain ⟨rfl, rfl⟩ := hz
      have g1 : 0 < Nat.gcd n1 n2 := Nat.gcd_pos_of_pos_left _ (by omega)
      have g2 : Nat.gcd n1 n2 ≤ n1 := Nat.le_of_dvd (by omega) (Nat.gcd_dvd_left _ _)
      refine b1_goWay_72 _ _ _ _ ⟨by omega, by omega⟩ ⟨by omega, by omega⟩ ⟨by omega, by omega⟩ ⟨by omega, by omega⟩ ⟨1, rfl, fun r a b => by rw [up_ne b, up_ne a], fun j hj => ?_, Or.inl ⟨rfl, hi⟩⟩
      unfold stA stB
      rw [if_pos hi, if_pos hi, ev, e1, e2, Int.gcd_natCast_natCast]
      by_cases ej : j = v
      · subst ej
        rw [if_pos rfl, if_pos rfl, up_nr (by decide), up_at, up_at]
        exact ⟨rfl, rfl⟩
      · rw [if_neg ej, if_neg ej, up_nr (by decide), up_nj ej, up_nj ej, up_nr (by decide)]
        exact hA j hj
    refine b1_goWay_30 _ _ _ ⟨by omega, by omega⟩ (by rw [ev, av]; exact ⟨by omega, by omega⟩) (fun g => ?_) (fun g => ?_)
    · rw [ev, av] at g
      exact hyes ⟨a0, Or.inl (by omega)⟩
    · rw [ev, av] at g
      obtain ⟨n3, e3⟩ : ∃ n : Nat, A v = (n : Int) := ⟨(A v).toNat, by omega⟩
      obtain ⟨n4, e4⟩ : ∃ n : Nat, B v = (n : Int) := ⟨(B v).toNat, by omega⟩
      refine b1_goWay_41 (d := d) _ _ _ ⟨by omega, by omega⟩ (P := fun z σ' => σ' = σ ∧ ((z = 1 ∧ n3 * n2 < n1 * n4) ∨ (z = 0 ∧ ¬ n3 * n2 < n1 * n4))) ?_ (fun z σ' hz => ?_)
      · rw [ev, av, bv, e1, e2, e3, e4]
        exact ok_isLess (by omega) (by omega) (by omega) (by omega) (by omega) (by omega)
      · obtain ⟨rfl, hz⟩ := hz
        have hiff : (A v * (B u * y) < A u * x * B v) ↔ n3 * n2 < n1 * n4 := by
          rw [e1, e2, e3, e4, ← Int.natCast_mul, ← Int.natCast_mul]
          exact Int.ofNat_lt
        rcases hz with ⟨rfl, hl⟩ | ⟨rfl, hl⟩
        · exact b1_goWay_60 _ _ _ _ ⟨by decide, by decide⟩ (fun _ => hyes ⟨a0, Or.inr (hiff.2 hl)⟩) (fun g => absurd g (by decide))
        · refine b1_goWay_60 _ _ _ _ ⟨by decide, by decide⟩ (fun g => absurd rfl g) (fun _ => hno fun hi => ?_)
          rcases hi.2 with h | h
          · omega
          · exact hl (hiff.1 h)
theorem ok_goRound {A B c t : Tb} (h5 : ∀ l, l < 16 → σ 5 l = c l) (h8 : ∀ l, l < 16 → σ 8 l = t l) (hA : ∀ j, j < 8 → σ 16 j = A j ∧ σ 17 j = B j) (ho : obeyT c t) (hc : ∀ l, l < 16 → 0 ≤ c l ∧ c l ≤ 500) (ht : ∀ l, l < 16 → 0 ≤ t l ∧ t l ≤ 20) (hz : ∀ l, l < 16 → 0 < t l → 0 < c l) (hP : PI c t A B) :
    Ok (d + 2) Y1_goRound SX [vr 15, vr 5, vr 8] σ (qi fun z σ' => (∀ r, r ≠ 16 → r ≠ 17 → σ' r = σ r) ∧ (∀ j, j < 8 → σ' 16 j = (rdN c t A B 16).1 j ∧ σ' 17 j = (rdN c t A B 16).2.1 j) ∧ z = if (rdN c t A B 16).2.2 then 1 else 0) := by
  refine Ok.ofWp (by decide) (Nat.le_of_ble_eq_true rfl) ?_
  have t0 : ∀ l, l < 16 → 0 ≤ t l := fun l hl => (ht l hl).1
  have lp : ∀ k i : Nat, i + k = 16 → ∀ τ : HP, (∀ r, r ≠ 16 → r ≠ 17 → τ r = σ r) → (∀ j, j < 8 → τ 16 j = (rdN c t A B i).1 j ∧ τ 17 j = (rdN c t A B i).2.1 j) →
      Wp (d + 1 + 1) Y1_goRound SX 5 [some (vr 15), some (vr 5), some (vr 8), some (vi (if (rdN c t A B i).2.2 then 1 else 0)), some (vi (i : Int)), none, none, none] [] τ (qi fun z σ' => (∀ r, r ≠ 16 → r ≠ 17 → σ' r = σ r) ∧ (∀ j, j < 8 → σ' 16 j = (rdN c t A B 16).1 j ∧ σ' 17 j = (rdN c t A B 16).2.1 j) ∧ z = if (rdN c t A B 16).2.2 then 1 else 0) (fun _ _ _ _ => False) := by
    intro k
    induction k with
    | zero =>
      intro i hi τ h1 h2
      have e : i = 16 := by omega
      subst e
      exact b1_goRound_5 _ _ ⟨by omega, by omega⟩ (fun _ => b1_goRound_96 _ (by split <;> simp) ⟨_, rfl, h1, h2, rfl⟩) (fun q => absurd q (by omega))
    | succ k ih =>
      intro i hi τ h1 h2
      have hi' : i < 16 := by omega
      have ei : (i : Int).toNat = i := Int.toNat_natCast i
      have t5 : τ 5 i = c i := by rw [h1 5 (by decide) (by decide)]; exact h5 i hi'
      have t8 : τ 8 i = t i := by rw [h1 8 (by decide) (by decide)]; exact h8 i hi'
      have ci := hc i hi'
      have ti := ht i hi'
      have P0 := (rd_all ho t0 hz hP i (by omega)).1
      have P1 := (ns1_PI ho t0 hi' P0).1
      have B0 : BD (rdN c t A B i).1 (rdN c t A B i).2.1 := PI_bd hc ht P0
      have B1 : BD (ns1 c t i (rdN c t A B i)).1 (ns1 c t i (rdN c t A B i)).2.1 := PI_bd hc ht P1
      have e4 : (i : Int) / 4 = ((i / 4 : Nat) : Int) := by omega
      have e5 : 4 + (i : Int) % 4 = ((4 + i % 4 : Nat) : Int) := by omega
      refine b1_goRound_5 _ _ ⟨by omega, by omega⟩ (fun q => absurd q (by omega)) (fun _ => ?_)
      -- the way back
      have back : ∀ τ' : HP, (∀ r, r ≠ 16 → r ≠ 17 → τ' r = σ r) → (∀ j, j < 8 → τ' 16 j = (ns1 c t i (rdN c t A B i)).1 j ∧ τ' 17 j = (ns1 c t i (rdN c t A B i)).2.1 j) →
          Wp (d + 1 + 1) Y1_goRound SX 62 [some (vr 15), some (vr 5), some (vr 8), some (vi (if (ns1 c t i (rdN c t A B i)).2.2 then 1 else 0)), some (vi (i : Int)), some (vi ((i / 4 : Nat) : Int)), some (vi ((4 + i % 4 : Nat) : Int)), some (vi (t i))] [] τ' (qi fun z σ' => (∀ r, r ≠ 16 → r ≠ 17 → σ' r = σ r) ∧ (∀ j, j < 8 → σ' 16 j = (rdN c t A B 16).1 j ∧ σ' 17 j = (rdN c t A B 16).2.1 j) ∧ z = if (rdN c t A B 16).2.2 then 1 else 0) (fun _ _ _ _ => False) := by
        intro τ' g1 g2
        have s5 : τ' 5 i = c i := by rw [g1 5 (by decide) (by decide)]; exact h5 i hi'
        have en : rdN c t A B (i + 1) = ns2 c t i (ns1 c t i (rdN c t A B i)) := rfl
        refine b1_goRound_62 _ _ _ _ _ ⟨by omega, by omega⟩ (fun q => ?_) (fun q => ?_)
        · refine b1_goRound_90 _ _ ?_
          have e2 : rdN c t A B (i + 1) = ns1 c t i (rdN c t A B i) := by rw [en]; unfold ns2; rw [if_neg (by omega)]
          have := ih (i + 1) (by omega) τ' g1 (by rw [e2]; exact g2)
          rw [e2] at this
          exact this
        · have cz := hz i hi' q
          refine b1_goRound_67 (d := d + 1) _ _ _ _ _ ⟨by omega, by omega⟩ (by rw [ei, s5]; exact ok_goWay g2 B1 (by omega) (by omega) ⟨by omega, by omega⟩ ⟨cz, ci.2⟩) (fun z τ2 hz2 => ?_)
          obtain ⟨m1, m2, m3⟩ := hz2
          have m4 : ∀ r, r ≠ 16 → r ≠ 17 → τ2 r = σ r := fun r a b => by rw [m1 r a b]; exact g1 r a b
          have fin : ∀ b : Bool, b = (rdN c t A B (i + 1)).2.2 → Wp (d + 1 + 1) Y1_goRound SX 90 [some (vr 15), some (vr 5), some (vr 8), some (vi (if b then 1 else 0)), some (vi (i : Int)), none, none, none] [] τ2 (qi fun z σ' => (∀ r, r ≠ 16 → r ≠ 17 → σ' r = σ r) ∧ (∀ j, j < 8 → σ' 16 j = (rdN c t A B 16).1 j ∧ σ' 17 j = (rdN c t A B 16).2.1 j) ∧ z = if (rdN c t A B 16).2.2 then 1 else 0) (fun _ _ _ _ => False) := by
            rintro b rfl
            refine b1_goRound_90 _ _ (ih (i + 1) (by omega) τ2 m4 ?_)
            rw [en]; unfold ns2; rw [if_pos q]
            exact m2
          rcases m3 with ⟨rfl, hw⟩ | ⟨rfl, hw⟩
          · refine b1_goRound_85 _ _ _ ⟨by decide, by decide⟩ (fun g => absurd g (by decide)) (fun _ => b1_goRound_88 _ (fin true ?_))
            rw [en]; unfold ns2; rw [if_pos q]; simp [hw]
          · refine b1_goRound_85 _ _ _ ⟨by decide, by decide⟩ (fun _ => fin _ ?_) (fun g => absurd rfl g)
            rw [en]; unfold ns2; rw [if_pos q]; simp [hw]
      refine b1_goRound_12 _ _ ⟨by omega, by omega⟩ ⟨by omega, by omega⟩ (by rw [ei, t5]; exact ⟨by omega, by omega⟩) (fun q => ?_) (fun q => ?_)
      · rw [ei, t5] at q
        rw [ei, t8, e4, e5]
        have e1 : ns1 c t i (rdN c t A B i) = rdN c t A B i := by unfold ns1; rw [if_neg (by omega)]
        have := back τ h1 (by rw [e1]; exact h2)
        rw [e1] at this
        exact this
      · rw [ei, t5] at q
        rw [ei, t8, e4, e5]
        refine b1_goRound_39 (d := d + 1) _ _ _ _ _ ⟨by omega, by omega⟩ (by rw [ei, t5]; exact ok_goWay h2 B0 (by omega) (by omega) ⟨q, ci.2⟩ ⟨by omega, by omega⟩) (fun z τ2 hz2 => ?_)
        obtain ⟨m1, m2, m3⟩ := hz2
        have m4 : ∀ r, r ≠ 16 → r ≠ 17 → τ2 r = σ r := fun r a b => by rw [m1 r a b]; exact h1 r a b
        have m5 : ∀ j, j < 8 → τ2 16 j = (ns1 c t i (rdN c t A B i)).1 j ∧ τ2 17 j = (ns1 c t i (rdN c t A B i)).2.1 j := by
          unfold ns1; rw [if_pos q]; exact m2
        have bk := back τ2 m4 m5
        rcases m3 with ⟨rfl, hw⟩ | ⟨rfl, hw⟩
        · refine b1_goRound_57 _ _ _ _ _ _ ⟨by decide, by decide⟩ (fun g => absurd g (by decide)) (fun _ => b1_goRound_60 _ _ _ _ ?_)
          have e1 : (ns1 c t i (rdN c t A B i)).2.2 = true := by unfold ns1; rw [if_pos q]; simp [hw]
          rw [e1] at bk
          exact bk
        · refine b1_goRound_57 _ _ _ _ _ _ ⟨by decide, by decide⟩ (fun _ => ?_) (fun g => absurd rfl g)
          have e1 : (ns1 c t i (rdN c t A B i)).2.2 = (rdN c t A B i).2.2 := by unfold ns1; rw [if_pos q]; simp [hw]
          rw [e1] at bk
          exact bk
  exact b1_goRound_0 (lp 16 0 rfl σ (fun _ _ _ => rfl) hA)
theorem nums_stay {c t : Tb} {r : Nat} (h : chg c t r = false) : ∀ k, nums c t (r + k) = nums c t r := by
  have h1 : nums c t (r + 1) = nums c t r := by
    obtain ⟨a, b⟩ := rd_same (c := c) (t := t) (A := (nums c t r).1) (B := (nums c t r).2) 16 h
    show (_, _) = _
    rw [a, b]
  intro k
  induction k with
  | zero => rfl
  | succ k ih =>
    rw [show nums c t (r + (k + 1)) = ((rdN c t (nums c t (r + k)).1 (nums c t (r + k)).2 16).1, (rdN c t (nums c t (r + k)).1 (nums c t (r + k)).2 16).2.1) from rfl, ih]
    exact h1
theorem ok_measure {c t : Tb} (h5 : ∀ l, l < 16 → σ 5 l = c l) (h8 : ∀ l, l < 16 → σ 8 l = t l) (ho : obeyT c t) (hc : ∀ l, l < 16 → 0 ≤ c l ∧ c l ≤ 500) (ht : ∀ l, l < 16 → 0 ≤ t l ∧ t l ≤ 20) (hz : ∀ l, l < 16 → 0 < t l → 0 < c l) :
    Ok (d + 3) Y1_measure SX [vr 15, vr 5, vr 8] σ (qv fun σ' => (∀ r, r ≠ 16 → r ≠ 17 → σ' r = σ r) ∧ ∀ j, j < 8 → σ' 16 j = (nums c t 8).1 j ∧ σ' 17 j = (nums c t 8).2 j) := by
  refine Ok.ofWp (by decide) (Nat.le_of_ble_eq_true rfl) ?_
  have t0 : ∀ l, l < 16 → 0 ≤ t l := fun l hl => (ht l hl).1
  have l2 : ∀ k i : Nat, i + k = 8 → ∀ (τ : HP) (b : Int), (∀ r, r ≠ 16 → r ≠ 17 → τ r = σ r) → (∀ j, j < 8 → τ 16 j = (nums c t i).1 j ∧ τ 17 j = (nums c t i).2 j) → (b = 1 ∨ (b = 0 ∧ nums c t 8 = nums c t i)) →
      Wp (d + 2 + 1) Y1_measure SX 42 [some (vr 15), some (vr 5), some (vr 8), some (vi b), some (vi (i : Int))] [] τ (qv fun σ' => (∀ r, r ≠ 16 → r ≠ 17 → σ' r = σ r) ∧ ∀ j, j < 8 → σ' 16 j = (nums c t 8).1 j ∧ σ' 17 j = (nums c t 8).2 j) (fun _ _ _ _ => False) := by
    intro k
    induction k with
    | zero =>
      intro i hi τ b h1 h2 hb
      have e : i = 8 := by omega
      subst e
      exact b1_measure_42 _ _ ⟨by omega, by omega⟩ (fun _ => b1_measure_66 ⟨rfl, h1, h2⟩) (fun q => absurd q (by omega))
    | succ k ih =>
      intro i hi τ b h1 h2 hb
      refine b1_measure_42 _ _ ⟨by omega, by omega⟩ (fun q => absurd q (by omega)) (fun _ => ?_)
      rcases hb with rfl | ⟨rfl, hb⟩
      · refine b1_measure_49 _ _ ⟨by decide, by decide⟩ (fun q => absurd q (by decide)) (fun _ => ?_)
        refine b1_measure_53 (d := d + 2) _ (ok_goRound (c := c) (t := t) (fun l hl => by rw [h1 5 (by decide) (by decide)]; exact h5 l hl) (fun l hl => by rw [h1 8 (by decide) (by decide)]; exact h8 l hl) h2 ho hc ht hz (nums_PI ho t0 hz i)) (fun z τ2 hz2 => ?_)
        obtain ⟨m1, m2, m3⟩ := hz2
        refine b1_measure_59 _ _ (ih (i + 1) (by omega) τ2 z (fun r a b => by rw [m1 r a b]; exact h1 r a b) m2 ?_)
        cases hg : chg c t i with
        | true =>
          left
          rw [m3]
          exact if_pos hg
        | false =>
          right
          refine ⟨?_, ?_⟩
          · rw [m3]
            exact if_neg (by unfold chg at hg; rw [hg]; decide)
          · have a := nums_stay hg (k + 1)
            have b := nums_stay hg 1
            rw [b, ← a, hi]
      · refine b1_measure_49 _ _ ⟨by decide, by decide⟩ (fun _ => b1_measure_66 ⟨rfl, h1, fun j hj => by rw [hb]; exact h2 j hj⟩) (fun q => absurd rfl q)
  have l1 : ∀ k i : Nat, i + k = 8 → ∀ τ : HP, (∀ r, r ≠ 16 → r ≠ 17 → τ r = σ r) → (∀ j, j < i → τ 16 j = (nums c t 0).1 j ∧ τ 17 j = (nums c t 0).2 j) →
      Wp (d + 2 + 1) Y1_measure SX 2 [some (vr 15), some (vr 5), some (vr 8), some (vi (i : Int)), none] [] τ (qv fun σ' => (∀ r, r ≠ 16 → r ≠ 17 → σ' r = σ r) ∧ ∀ j, j < 8 → σ' 16 j = (nums c t 8).1 j ∧ σ' 17 j = (nums c t 8).2 j) (fun _ _ _ _ => False) := by
    intro k
    induction k with
    | zero =>
      intro i hi τ h1 h2
      have e : i = 8 := by omega
      subst e
      exact b1_measure_2 _ ⟨by omega, by omega⟩ (fun _ => b1_measure_37 (l2 8 0 rfl τ 1 h1 h2 (Or.inl rfl))) (fun q => absurd q (by omega))
    | succ k ih =>
      intro i hi τ h1 h2
      have ei : (i : Int).toNat = i := Int.toNat_natCast i
      have main : ∀ s : Int, s = (nums c t 0).1 i → Wp (d + 2 + 1) Y1_measure SX 23 [some (vr 15), some (vr 5), some (vr 8), some (vi (i : Int)), none] [vl s, vi (i : Int), vr 16] τ (qv fun σ' => (∀ r, r ≠ 16 → r ≠ 17 → σ' r = σ r) ∧ ∀ j, j < 8 → σ' 16 j = (nums c t 8).1 j ∧ σ' 17 j = (nums c t 8).2 j) (fun _ _ _ _ => False) := by
        rintro s rfl
        refine b1_measure_23 _ _ _ ⟨by omega, by omega⟩ ⟨by omega, by omega⟩ ?_
        rw [ei]
        refine ih (i + 1) (by omega) _ (fun r a b => by rw [up_ne b, up_ne a]; exact h1 r a b) (fun j hj => ?_)
        by_cases e : j = i
        · subst e
          rw [up_nr (by decide), up_at, up_at]
          exact ⟨rfl, rfl⟩
        · rw [up_nr (by decide), up_nj e, up_nj e, up_nr (by decide)]
          exact h2 j (by omega)
      refine b1_measure_2 _ ⟨by omega, by omega⟩ (fun q => absurd q (by omega)) (fun _ => ?_)
      refine b1_measure_8 _ ⟨by omega, by omega⟩ (fun q => b1_measure_22 _ _ (main 0 ?_)) (fun q => b1_measure_18 _ _ (main 1 ?_))
      · simp only [nums]; rw [if_neg (by omega)]
      · simp only [nums]; rw [if_pos (by omega)]
  exact b1_measure_0 (l1 8 0 rfl σ (fun _ _ _ => rfl) (fun j hj => by omega))
end XK
