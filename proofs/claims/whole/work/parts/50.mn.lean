/-! ===== the model: the numbers ===== -/
section MN
variable {d : Nat} {ρ : HP} {Q : MQt} {X : MXt} {D P : Nat}
theorem mok_common : ∀ (n a b : Nat), b ≤ n → 0 < a → a < 9223372036854775808 → b < 9223372036854775808 → ∀ g : Nat, Nat.gcd a b = g → Wp d Y4_common SM 6 [none, none, none, none, some (vl (a : Int)), none, some (vl (b : Int)), none, none, none] [] ρ (ql fun z ρ' => ρ' = ρ ∧ z = (g : Int)) (fun _ _ _ _ => False) := by
  intro n
  induction n with
  | zero =>
    intro a b hb ha h1 h2 g hg
    have e : b = 0 := by omega
    subst e
    rw [Nat.gcd_zero_right] at hg
    subst hg
    exact b4_common_6 _ _ ⟨by omega, by omega⟩ (fun _ => b4_common_31 _ ⟨_, rfl, rfl, rfl⟩) (fun g => absurd rfl g)
  | succ n ih =>
    intro a b hb ha h1 h2 g hg
    by_cases e : b = 0
    · subst e
      rw [Nat.gcd_zero_right] at hg
      subst hg
      exact b4_common_6 _ _ ⟨by omega, by omega⟩ (fun _ => b4_common_31 _ ⟨_, rfl, rfl, rfl⟩) (fun g => absurd rfl g)
    · have b0 : 0 < b := by omega
      have hm := Nat.mod_lt a b0
      refine b4_common_6 _ _ ⟨by omega, by omega⟩ (fun g => absurd g (by omega)) (fun _ => b4_common_13 _ _ ⟨by omega, by omega⟩ ⟨by omega, by omega⟩ ?_)
      exact ih b (a % b) (by omega) b0 h2 (by omega) g (by rw [← hg, Nat.gcd_comm a b, Nat.gcd_rec b a, Nat.gcd_comm])
theorem mokk_common {a b : Nat} (ha : 0 < a) (h1 : a < 9223372036854775808) (h2 : b < 9223372036854775808) : Ok d Y4_common SM [vl a, vl b] ρ (ql fun z ρ' => ρ' = ρ ∧ z = (Nat.gcd a b : Int)) := by
  refine Ok.ofWp (by decide) (Nat.le_of_ble_eq_true rfl) ?_
  exact b4_common_0 _ _ (mok_common b a b (Nat.le_refl b) ha h1 h2 _ rfl)
theorem mok_isMore : ∀ (n p q r s : Nat), q ≤ n → 0 < q → 0 < s → p < 9223372036854775808 → q < 9223372036854775808 → r < 9223372036854775808 → s < 9223372036854775808 → ∀ (t : Int) (R : Prop), ((t = 0 ∧ (R ↔ r * q < p * s)) ∨ (t = 1 ∧ (R ↔ p * s < r * q))) → Wp d Y4_isMore SM 17 [none, none, none, none, none, none, none, none, some (vl (p : Int)), none, some (vl (q : Int)), none, some (vl (r : Int)), none, some (vl (s : Int)), none, some (vi t), none, none, none, none] [] ρ (qi fun z ρ' => ρ' = ρ ∧ ((z = 1 ∧ R) ∨ (z = 0 ∧ ¬ R))) (fun _ _ _ _ => False) := by
  intro n
  induction n with
  | zero => intro p q r s h0 h1; omega
  | succ n ih =>
    intro p q r s hn q0 s0 bp bq br bs t R hR
    have d1 : (p : Int) / (q : Int) = ((p / q : Nat) : Int) := (Int.natCast_ediv p q).symm
    have d2 : (r : Int) / (s : Int) = ((r / s : Nat) : Int) := (Int.natCast_ediv r s).symm
    have e1 : (p : Int) % (q : Int) = ((p % q : Nat) : Int) := (Int.natCast_emod p q).symm
    have e2 : (r : Int) % (s : Int) = ((r % s : Nat) : Int) := (Int.natCast_emod r s).symm
    have q1 : p / q ≤ p := Nat.div_le_self p q
    have q2 : r / s ≤ r := Nat.div_le_self r s
    have m1 := Nat.mod_lt p q0
    have m2 := Nat.mod_lt r s0
    have n1 : (0 : Int) ≤ (p : Int) / (q : Int) := by rw [d1]; exact Int.natCast_nonneg _
    have n2 : (0 : Int) ≤ (r : Int) / (s : Int) := by rw [d2]; exact Int.natCast_nonneg _
    have j1 : in64 ((p : Int) / (q : Int)) := by rw [d1]; exact ⟨by omega, by omega⟩
    have j2 : in64 ((r : Int) / (s : Int)) := by rw [d2]; exact ⟨by omega, by omega⟩
    have t01 : in32 t := by rcases hR with ⟨e, -⟩ | ⟨e, -⟩ <;> rw [e] <;> exact ⟨by decide, by decide⟩
    refine b4_isMore_17 _ _ _ _ _ ⟨by omega, by omega⟩ ⟨by omega, by omega⟩ ⟨by omega, by omega⟩ ⟨by omega, by omega⟩ j1 j2 (fun g => ?_) (fun g => ?_)
    · have g2 : ¬ p / q = r / s := by rw [d1, d2] at g; omega
      have l1 : p / q < r / s → p * s < r * q := lt_quo q0 s0
      have l2 : r / s < p / q → r * q < p * s := lt_quo s0 q0
      rcases hR with ⟨rfl, hR⟩ | ⟨rfl, hR⟩
      · refine b4_isMore_125 _ _ _ _ _ t01 (fun _ => ?_) (fun g => absurd rfl g)
        refine b4_isMore_152 _ _ _ _ ⟨by omega, by omega⟩ ⟨by omega, by omega⟩ ⟨by omega, by omega⟩ ⟨by omega, by omega⟩ j1 j2 (fun k => b4_isMore_170 (b4_isMore_171 _ (Or.inl rfl) ⟨0, rfl, rfl, Or.inr ⟨rfl, fun hh => ?_⟩⟩)) (fun k => b4_isMore_166 (b4_isMore_171 _ (Or.inr rfl) ⟨1, rfl, rfl, Or.inl ⟨rfl, hR.2 (l2 (by rw [d1, d2] at k; omega))⟩⟩))
        have a := hR.1 hh
        have b := l1 (by rw [d1, d2] at k; omega)
        omega
      · refine b4_isMore_125 _ _ _ _ _ t01 (fun g => absurd g (by decide)) (fun _ => ?_)
        refine b4_isMore_130 _ _ _ _ ⟨by omega, by omega⟩ ⟨by omega, by omega⟩ ⟨by omega, by omega⟩ ⟨by omega, by omega⟩ j1 j2 (fun k => b4_isMore_148 (b4_isMore_171 _ (Or.inl rfl) ⟨0, rfl, rfl, Or.inr ⟨rfl, fun hh => ?_⟩⟩)) (fun k => b4_isMore_144 (b4_isMore_171 _ (Or.inr rfl) ⟨1, rfl, rfl, Or.inl ⟨rfl, hR.2 (l1 (by rw [d1, d2] at k; omega))⟩⟩))
        have a := hR.1 hh
        have b := l2 (by rw [d1, d2] at k; omega)
        omega
    · have g2 : p / q = r / s := by rw [d1, d2] at g; omega
      have k1 := eq_quo (a := p) (b := q) (c := r) (e := s) g2
      have k2 := eq_quo (a := r) (b := s) (c := p) (e := q) g2.symm
      -- one is at its end
      have fin : ∀ x y : Nat, x < 9223372036854775808 → y < 9223372036854775808 → x = p % q → y = r % s → (x = 0 ∨ y = 0) → Wp d Y4_isMore SM 59 [none, none, none, none, none, none, none, none, none, none, none, none, none, none, none, none, some (vi t), some (vl (x : Int)), none, some (vl (y : Int)), none] [] ρ (qi fun z ρ' => ρ' = ρ ∧ ((z = 1 ∧ R) ∨ (z = 0 ∧ ¬ R))) (fun _ _ _ _ => False) := by
        intro x y bx by' ex ey hz
        rw [← ex, ← ey] at k1 k2
        have c1 : x * s < y * q ↔ x < y := by
          rcases hz with rfl | rfl
          · rw [Nat.zero_mul]
            exact ⟨fun h => Nat.pos_of_mul_pos_right h |> fun _ => by
              rcases Nat.eq_zero_or_pos y with e | e
              · subst e; omega
              · exact e, fun h => Nat.mul_pos h q0⟩
          · rw [Nat.zero_mul]; omega
        have c2 : y * q < x * s ↔ y < x := by
          rcases hz with rfl | rfl
          · rw [Nat.zero_mul]; omega
          · rw [Nat.zero_mul]
            exact ⟨fun h => by
              rcases Nat.eq_zero_or_pos x with e | e
              · subst e; omega
              · exact e, fun h => Nat.mul_pos h s0⟩
        rcases hR with ⟨rfl, hR⟩ | ⟨rfl, hR⟩
        · have hR2 := (hR.trans k2).trans c2
          refine b4_isMore_59 _ _ _ t01 (fun _ => ?_) (fun g => absurd rfl g)
          exact b4_isMore_80 _ _ ⟨by omega, by omega⟩ ⟨by omega, by omega⟩ (fun k => b4_isMore_92 (b4_isMore_93 _ (Or.inl rfl) ⟨0, rfl, rfl, Or.inr ⟨rfl, fun hh => by have := hR2.1 hh; omega⟩⟩)) (fun k => b4_isMore_88 (b4_isMore_93 _ (Or.inr rfl) ⟨1, rfl, rfl, Or.inl ⟨rfl, hR2.2 (by omega)⟩⟩))
        · have hR2 := (hR.trans k1).trans c1
          refine b4_isMore_59 _ _ _ t01 (fun g => absurd g (by decide)) (fun _ => ?_)
          exact b4_isMore_64 _ _ ⟨by omega, by omega⟩ ⟨by omega, by omega⟩ (fun k => b4_isMore_76 (b4_isMore_93 _ (Or.inl rfl) ⟨0, rfl, rfl, Or.inr ⟨rfl, fun hh => by have := hR2.1 hh; omega⟩⟩)) (fun k => b4_isMore_72 (b4_isMore_93 _ (Or.inr rfl) ⟨1, rfl, rfl, Or.inl ⟨rfl, hR2.2 (by omega)⟩⟩))
      refine b4_isMore_31 _ _ _ _ _ ⟨by omega, by omega⟩ ⟨by omega, by omega⟩ ⟨by omega, by omega⟩ ⟨by omega, by omega⟩ (by rw [e1]; exact ⟨by omega, by omega⟩) (fun k => ?_) (fun k => ?_)
      · rw [e1] at k
        rw [e1, e2]
        exact fin (p % q) (r % s) (by omega) (by omega) rfl rfl (Or.inl (by omega))
      · rw [e1] at k
        rw [e1, e2]
        refine b4_isMore_52 _ _ _ _ _ ⟨by omega, by omega⟩ (fun k' => ?_) (fun k' => fin (p % q) (r % s) (by omega) (by omega) rfl rfl (Or.inr (by omega)))
        have nx := ih q (p % q) s (r % s) (by omega) (by omega) (by omega) bq (by omega) bs (by omega)
        rcases hR with ⟨rfl, hR⟩ | ⟨rfl, hR⟩
        · refine b4_isMore_94 _ _ _ _ _ t01 (fun g => absurd rfl g) (fun _ => b4_isMore_115 _ _ _ _ (b4_isMore_120 _ _ _ _ _ (nx 1 R (Or.inr ⟨rfl, ?_⟩))))
          rw [hR, k2, Nat.mul_comm (r % s), Nat.mul_comm (p % q)]
        · refine b4_isMore_94 _ _ _ _ _ t01 (fun _ => b4_isMore_119 _ _ _ _ (b4_isMore_120 _ _ _ _ _ (nx 0 R (Or.inl ⟨rfl, ?_⟩)))) (fun g => absurd g (by decide))
          rw [hR, k1, Nat.mul_comm (r % s), Nat.mul_comm (p % q)]
theorem mokk_isMore {p q r s : Nat} (q0 : 0 < q) (s0 : 0 < s) (bp : p < 9223372036854775808) (bq : q < 9223372036854775808) (br : r < 9223372036854775808) (bs : s < 9223372036854775808) : Ok d Y4_isMore SM [vl p, vl q, vl r, vl s] ρ (qi fun z ρ' => ρ' = ρ ∧ ((z = 1 ∧ r * q < p * s) ∨ (z = 0 ∧ ¬ r * q < p * s))) := by
  refine Ok.ofWp (by decide) (Nat.le_of_ble_eq_true rfl) ?_
  exact b4_isMore_0 _ _ _ _ (mok_isMore q p q r s (Nat.le_refl q) q0 s0 bp bq br bs 0 _ (Or.inl ⟨rfl, Iff.rfl⟩))
theorem mok_raise {A B : Tb} {u v : Nat} {x y : Int} (hA : ∀ j, j < 8 → ρ 14 j = A j ∧ ρ 15 j = B j) (hB : BD A B) (hu : u < 8) (hv : v < 8) (hx : 0 < x ∧ x ≤ 500) (hy : 0 < y ∧ y ≤ 500) :
    Ok (d + 1) Y4_raise SM [vr 0, vi u, vi v, vl x, vl y] ρ (qi fun z ρ' => (∀ r, r ≠ 14 → r ≠ 15 → ρ' r = ρ r) ∧ (∀ j, j < 8 → ρ' 14 j = stA A B u v x y j ∧ ρ' 15 j = stB A B u v x y j) ∧ ((z = 1 ∧ impW A B u v x y) ∨ (z = 0 ∧ ¬ impW A B u v x y))) := by
  refine Ok.ofWp (by decide) (Nat.le_of_ble_eq_true rfl) ?_
  obtain ⟨u1, u2, u3, u4⟩ := hB u hu
  obtain ⟨v1, v2, v3, v4⟩ := hB v hv
  have eu : (u : Int).toNat = u := Int.toNat_natCast u
  have ev : (v : Int).toNat = v := Int.toNat_natCast v
  have au := (hA u hu).1
  have bu := (hA u hu).2
  have av := (hA v hv).1
  have bv := (hA v hv).2
  have no : ¬ impW A B u v x y → (qi fun z ρ' => (∀ r, r ≠ 14 → r ≠ 15 → ρ' r = ρ r) ∧ (∀ j, j < 8 → ρ' 14 j = stA A B u v x y j ∧ ρ' 15 j = stB A B u v x y j) ∧ ((z = 1 ∧ impW A B u v x y) ∨ (z = 0 ∧ ¬ impW A B u v x y))) (some (vi 0)) ρ := by
    intro hi
    refine ⟨0, rfl, fun _ _ _ => rfl, fun j hj => ?_, Or.inr ⟨rfl, hi⟩⟩
    unfold stA stB
    rw [if_neg hi, if_neg hi]
    exact hA j hj
  refine b4_raise_0 _ _ _ _ ⟨by omega, by omega⟩ (by rw [eu, au]; exact ⟨by omega, by omega⟩) (fun q => ?_) (fun q => b4_raise_11 (no (fun hi => hi.1 (by rw [eu, au] at q; exact q))))
  rw [eu, au] at q
  have p1 : 0 < A u * x ∧ A u * x ≤ 3707437500000000 * 500 := ⟨Int.mul_pos (by omega) hx.1, Int.mul_le_mul u2 hx.2 (by omega) (by omega)⟩
  have p2 : 0 < B u * y ∧ B u * y ≤ 353220125000000 * 500 := ⟨Int.mul_pos u3 hy.1, Int.mul_le_mul (by omega) hy.2 (by omega) (by omega)⟩
  obtain ⟨n1, e1⟩ : ∃ n : Nat, A u * x = (n : Int) := ⟨(A u * x).toNat, by omega⟩
  obtain ⟨n2, e2⟩ : ∃ n : Nat, B u * y = (n : Int) := ⟨(B u * y).toNat, by omega⟩
  have yes : impW A B u v x y → Wp (d + 1) Y4_raise SM 69 [some (vr 0), none, some (vi (v : Int)), none, none, none, none, some (vl (A u * x)), none, some (vl (B u * y)), none, none, none] [] ρ (qi fun z ρ' => (∀ r, r ≠ 14 → r ≠ 15 → ρ' r = ρ r) ∧ (∀ j, j < 8 → ρ' 14 j = stA A B u v x y j ∧ ρ' 15 j = stB A B u v x y j) ∧ ((z = 1 ∧ impW A B u v x y) ∨ (z = 0 ∧ ¬ impW A B u v x y))) (fun _ _ _ _ => False) := by
    intro hi
    rw [e1, e2]
    refine b4_raise_69 (d := d) _ _ _ (mokk_common (a := n1) (b := n2) (by omega) (by omega) (by omega)) (fun z ρ1 hz => ?_)
    obtain ⟨rfl, rfl⟩ := hz
    have g1 : 0 < Nat.gcd n1 n2 := Nat.gcd_pos_of_pos_left _ (by omega)
    have g2 : Nat.gcd n1 n2 ≤ n1 := Nat.le_of_dvd (by omega) (Nat.gcd_dvd_left _ _)
    refine b4_raise_76 _ _ _ _ ⟨by omega, by omega⟩ ⟨by omega, by omega⟩ ⟨by omega, by omega⟩ ⟨by omega, by omega⟩ ⟨1, rfl, fun r a b => by rw [up_ne b, up_ne a], fun j hj => ?_, Or.inl ⟨rfl, hi⟩⟩
    unfold stA stB
    rw [if_pos hi, if_pos hi, ev, e1, e2, Int.gcd_natCast_natCast]
    by_cases ej : j = v
    · subst ej
      rw [if_pos rfl, if_pos rfl, up_nr (by decide), up_at, up_at]
      exact ⟨rfl, rfl⟩
    · rw [if_neg ej, if_neg ej, up_nr (by decide), up_nj ej, up_nj ej, up_nr (by decide)]
      exact hA j hj
  refine b4_raise_13 _ _ _ _ ⟨by omega, by omega⟩ ⟨by omega, by omega⟩ (by rw [ev, av]; exact ⟨by omega, by omega⟩) (fun g => ?_) (fun g => ?_)
  · rw [ev, av] at g
    rw [eu, au, bu]
    exact yes ⟨q, Or.inl (by omega)⟩
  · rw [ev, av] at g
    rw [eu, au, bu]
    obtain ⟨n3, e3⟩ : ∃ n : Nat, A v = (n : Int) := ⟨(A v).toNat, by omega⟩
    obtain ⟨n4, e4⟩ : ∃ n : Nat, B v = (n : Int) := ⟨(B v).toNat, by omega⟩
    refine b4_raise_45 (d := d) _ _ _ ⟨by omega, by omega⟩ (P := fun z ρ' => ρ' = ρ ∧ ((z = 1 ∧ n3 * n2 < n1 * n4) ∨ (z = 0 ∧ ¬ n3 * n2 < n1 * n4))) (by rw [ev, av, bv, e1, e2, e3, e4]; exact mokk_isMore (by omega) (by omega) (by omega) (by omega) (by omega) (by omega)) (fun z ρ1 hz => ?_)
    obtain ⟨rfl, hz⟩ := hz
    have hiff : (A v * (B u * y) < A u * x * B v) ↔ n3 * n2 < n1 * n4 := by
      rw [e1, e2, e3, e4, ← Int.natCast_mul, ← Int.natCast_mul]
      exact Int.ofNat_lt
    rcases hz with ⟨rfl, hl⟩ | ⟨rfl, hl⟩
    · exact b4_raise_64 _ _ _ _ ⟨by decide, by decide⟩ (fun _ => yes ⟨q, Or.inr (hiff.2 hl)⟩) (fun g => absurd g (by decide))
    · refine b4_raise_64 _ _ _ _ ⟨by decide, by decide⟩ (fun g => absurd rfl g) (fun _ => b4_raise_67 (no fun hi => ?_))
      rcases hi.2 with h | h
      · omega
      · exact hl (hiff.1 h)
end MN
