/-! ===== mathematics: the numbers stand after seven rounds ===== -/
/-- a district's number can't rise through a party on its own way -/
theorem no_P {c t A B : Tb} (ho : obeyT c t) (h0 : ∀ l, l < 16 → 0 ≤ t l) (hPI : PI c t A B) {d p n j : Nat} {D P : Nat → Nat} (hd : d < 4) (hp : p < 4) (h : pathD c t A B d n D P) (hc : 0 < c (4 * d + p)) (hj : j < n) (e : P j = p) : 0 < A (4 + p) ∧ A d * c (4 * d + p) * B (4 + p) ≤ A (4 + p) * (B d * (2 * t (4 * d + p) + 1)) := by
  obtain ⟨h1, h2, h3, h4, h5, h6, h7, h8, h9⟩ := h
  obtain ⟨q1, q2⟩ := h9.2 j hj
  have pn := w_pos h0 h2
  have pj := w_pos h0 (n := j) (D := D) (P := P) ⟨fun i hi => h2.1 i (by omega), fun i hi => h2.2 i (by omega)⟩
  have tj : 0 ≤ t (4 * D j + P j) := h0 _ (by have := h2.1 j (by omega); have := (h2.2 j hj).1; omega)
  have td : 0 ≤ t (4 * d + p) := h0 _ (by omega)
  have hb : 0 < bW t D P j := by unfold bW; omega
  have bk := back_P ho h0 h2 h4 h5 hj (by rw [h3, e]; exact hc) h1
  rw [h3, e] at bk
  rw [e] at q1 q2
  refine ⟨q1, no_gain h6 pn.2 (hPI.1 d (by omega)).2 ?_⟩
  exact t_le bk q2 (Int.mul_pos pn.2 (by omega)) (Int.mul_pos pj.2 hb) (hPI.1 (4 + p) (by omega)).2
theorem no_D {c t A B : Tb} (ho : obeyT c t) (h0 : ∀ l, l < 16 → 0 ≤ t l) (hPI : PI c t A B) {d p n j : Nat} {D P : Nat → Nat} (hd : d < 4) (hp : p < 4) (h : pathP c t A B p n D P) (ht : 0 < t (4 * d + p)) (hc : 0 < c (4 * d + p)) (hj : j ≤ n) (e : D j = d) : A (4 + p) * (2 * t (4 * d + p) - 1) * B d ≤ A d * (B (4 + p) * c (4 * d + p)) := by
  obtain ⟨h1, h2, h3, h4, h5, h6, h7, h8, h9⟩ := h
  have q2 := h9.1 j hj
  have pn := w_pos h0 h2.1
  have pj := w_pos h0 (n := j) (D := D) (P := P) ⟨fun i hi => h2.1.1 i (by omega), fun i hi => h2.1.2 i (by omega)⟩
  have tn : 0 ≤ t (4 * D n + P n) := h0 _ (by have := h2.1.1 n (by omega); have := h2.2.1; omega)
  have hb : 0 < bW t D P n := by unfold bW; omega
  have bk := back_D ho h0 h2 h4 h5 hj (by rw [e, h3]; exact ht) (by rw [e, h3]; exact hc) h1
  rw [e, h3] at bk
  rw [e] at q2
  refine no_gain h6 (Int.mul_pos pn.2 hb) (hPI.1 (4 + p) (by omega)).2 ?_
  exact t_le bk q2 (Int.mul_pos (Int.mul_pos pn.2 hb) hc) pj.2 (hPI.1 d (by omega)).2
theorem imp_not {A B : Tb} {u v : Nat} {x y : Int} (h : 0 < A v ∧ A u * x * B v ≤ A v * (B u * y)) : ¬ impW A B u v x y := by
  rintro ⟨-, q | q⟩
  · omega
  · omega
/-- one step along a way keeps what is known of all numbers -/
theorem PI_P {c t A B : Tb} (ho : obeyT c t) (h0 : ∀ l, l < 16 → 0 ≤ t l) (hPI : PI c t A B) {d p : Nat} (hd : d < 4) (hp : p < 4) (hc : 0 < c (4 * d + p)) : PI c t (stA A B d (4 + p) (c (4 * d + p)) (2 * t (4 * d + p) + 1)) (stB A B d (4 + p) (c (4 * d + p)) (2 * t (4 * d + p) + 1)) := by
  have td : 0 ≤ t (4 * d + p) := h0 _ (by omega)
  obtain ⟨s1, s2, -⟩ := st_le (u := d) (v := 4 + p) hPI.1 (by omega) (by omega) hc (show 0 < 2 * t (4 * d + p) + 1 by omega)
  rcases st_cases (hPI.1 d (by omega)) (hPI.1 (4 + p) (by omega)) hc (show 0 < 2 * t (4 * d + p) + 1 by omega) with ⟨n, e1, e2, -⟩ | ⟨i, hAu, a', b', g, hg, ha, hb, e1, e2, l1, l2, e3, e4, e5⟩
  · rw [e1, e2]; exact hPI
  · generalize stA A B d (4 + p) (c (4 * d + p)) (2 * t (4 * d + p) + 1) = A' at *
    generalize stB A B d (4 + p) (c (4 * d + p)) (2 * t (4 * d + p) + 1) = B' at *
    have oA : ∀ w, w ≠ 4 + p → A' w = A w := fun w hw => by rw [e3, if_neg hw]
    have oB : ∀ w, w ≠ 4 + p → B' w = B w := fun w hw => by rw [e4, if_neg hw]
    refine ⟨s2, fun w hw => by rw [oA w (by omega)]; exact hPI.2.1 w hw, fun w hw => ?_, fun q hq hAq => ?_⟩
    · obtain ⟨n, D, P, h1, h2, h3, h4, h5, h6, h7, h8, h9⟩ := hPI.2.2.1 w hw
      exact ⟨n, D, P, h1, h2, h3, h4, h5, by rw [oA w (by omega), oB w (by omega)]; exact h6, by rw [oA w (by omega)]; exact h7, by rw [oB w (by omega)]; exact h8, h9.mono h0 h2 s1⟩
    · by_cases hqp : q = p
      · subst hqp
        obtain ⟨n, D, P, hpd⟩ := hPI.2.2.1 d hd
        obtain ⟨P', g1, g2, g3, g4, g5, g6⟩ := ext_P h0 hpd hq hc
        obtain ⟨h1, h2, h3, h4, h5, h6, h7, h8, h9⟩ := id hpd
        have fresh : ∀ j, j < n → P j ≠ q := fun j hj e => imp_not (no_P ho h0 hPI hd hq hpd hc hj e) i
        have gn := g4 n (Nat.le_refl n)
        refine ⟨n, D, P', h1, g1, g2, h4, fun a b ha hb he => ?_, ?_, ?_, ?_, ?_⟩
        · by_cases ea : a = n <;> by_cases eb : b = n
          · omega
          · rw [ea, g2, g3 b (by omega)] at he; exact absurd he.symm (fresh b (by omega))
          · rw [eb, g2, g3 a (by omega)] at he; exact absurd he (fresh a (by omega))
          · rw [g3 a (by omega), g3 b (by omega)] at he; exact h5 a b (by omega) (by omega) he
        · rw [e3, e4, if_pos rfl, if_pos rfl, gn.1, gn.2, g5, g6]
          have : (a' * (beW c t D P n * (2 * t (4 * d + q) + 1))) * g = (alW c t D P n * c (4 * d + q) * b') * g := by
            generalize beW c t D P n = be at *
            generalize alW c t D P n = al at *
            grind
          exact x_eq this hg
        · rw [e3, if_pos rfl, gn.1, g5]
          have := Int.mul_le_mul_of_nonneg_right h7 (show 0 ≤ c (4 * d + q) by omega)
          omega
        · rw [e4, if_pos rfl, gn.2, g6]
          have := Int.mul_le_mul_of_nonneg_right h8 (show 0 ≤ 2 * t (4 * d + q) + 1 by omega)
          omega
        · have hk := h9.mono h0 h2 s1
          refine ⟨fun j hj => ?_, fun j hj => ?_⟩
          · rw [(g4 j hj).1, (g4 j hj).2]; exact hk.1 j hj
          · have := hk.2 j hj
            unfold aW bW at this ⊢
            rw [(g4 j (by omega)).1, (g4 j (by omega)).2, g3 j hj]
            exact this
      · obtain ⟨n, D, P, h1, h2, h3, h4, h5, h6, h7, h8, h9⟩ := hPI.2.2.2 q hq (by rw [oA _ (by omega)] at hAq; exact hAq)
        exact ⟨n, D, P, h1, h2, h3, h4, h5, by rw [oA _ (by omega), oB _ (by omega)]; exact h6, by rw [oA _ (by omega)]; exact h7, by rw [oB _ (by omega)]; exact h8, h9.mono h0 h2.1 s1⟩
theorem PI_D {c t A B : Tb} (ho : obeyT c t) (h0 : ∀ l, l < 16 → 0 ≤ t l) (hPI : PI c t A B) {d p : Nat} (hd : d < 4) (hp : p < 4) (ht : 0 < t (4 * d + p)) (hc : 0 < c (4 * d + p)) : PI c t (stA A B (4 + p) d (2 * t (4 * d + p) - 1) (c (4 * d + p))) (stB A B (4 + p) d (2 * t (4 * d + p) - 1) (c (4 * d + p))) := by
  obtain ⟨s1, s2, -⟩ := st_le (u := 4 + p) (v := d) hPI.1 (by omega) (by omega) (show 0 < 2 * t (4 * d + p) - 1 by omega) hc
  rcases st_cases (hPI.1 (4 + p) (by omega)) (hPI.1 d (by omega)) (show 0 < 2 * t (4 * d + p) - 1 by omega) hc with ⟨n, e1, e2, -⟩ | ⟨i, hAu, a', b', g, hg, ha, hb, e1, e2, l1, l2, e3, e4, e5⟩
  · rw [e1, e2]; exact hPI
  · generalize stA A B (4 + p) d (2 * t (4 * d + p) - 1) (c (4 * d + p)) = A' at *
    generalize stB A B (4 + p) d (2 * t (4 * d + p) - 1) (c (4 * d + p)) = B' at *
    have oA : ∀ w, w ≠ d → A' w = A w := fun w hw => by rw [e3, if_neg hw]
    have oB : ∀ w, w ≠ d → B' w = B w := fun w hw => by rw [e4, if_neg hw]
    refine ⟨s2, fun w hw => ?_, fun w hw => ?_, fun q hq hAq => ?_⟩
    · by_cases hwd : w = d
      · subst hwd; rw [e3, if_pos rfl]; exact ha
      · rw [oA w hwd]; exact hPI.2.1 w hw
    · by_cases hwd : w = d
      · subst hwd
        obtain ⟨n, D, P, hpp⟩ := hPI.2.2.2 p hp hAu
        obtain ⟨D', g1, g2, g3, g4, g5, g6⟩ := ext_D hpp hw ht hc
        obtain ⟨h1, h2, h3, h4, h5, h6, h7, h8, h9⟩ := id hpp
        have fresh : ∀ j, j ≤ n → D j ≠ w := fun j hj e => imp_not ⟨hPI.2.1 w hw, no_D ho h0 hPI hw hp hpp ht hc hj e⟩ i
        have inj : ∀ a b, a ≤ n + 1 → b ≤ n + 1 → D' a = D' b → a = b := by
          intro a b ha hb he
          by_cases ea : a = n + 1 <;> by_cases eb : b = n + 1
          · omega
          · rw [ea, g2, g3 b (by omega)] at he; exact absurd he.symm (fresh b (by omega))
          · rw [eb, g2, g3 a (by omega)] at he; exact absurd he (fresh a (by omega))
          · rw [g3 a (by omega), g3 b (by omega)] at he; exact h4 a b (by omega) (by omega) he
        have hn : n + 2 ≤ 4 := pig (f := D') (fun i hi => g1.1 i (by omega)) (fun a b ha hb he => inj a b (by omega) (by omega) he)
        have tn : 0 ≤ t (4 * D n + P n) := h0 _ (by have := h2.1.1 n (by omega); have := h2.2.1; omega)
        refine ⟨n + 1, D', P, by omega, g1, g2, inj, fun a b ha hb he => h5 a b (by omega) (by omega) he, ?_, ?_, ?_, ?_⟩
        · rw [e3, e4, if_pos rfl, if_pos rfl, g5, g6]
          have : (a' * (beW c t D P n * bW t D P n * c (4 * w + p))) * g = (alW c t D P n * aW c D P n * (2 * t (4 * w + p) - 1) * b') * g := by
            generalize beW c t D P n * bW t D P n = be at *
            generalize alW c t D P n * aW c D P n = al at *
            grind
          exact x_eq this hg
        · rw [e3, if_pos rfl, g5]
          have := Int.mul_le_mul_of_nonneg_right h7 (show 0 ≤ 2 * t (4 * w + p) - 1 by omega)
          omega
        · rw [e4, if_pos rfl, g6]
          have := Int.mul_le_mul_of_nonneg_right h8 (show 0 ≤ c (4 * w + p) by omega)
          omega
        · have hk := h9.mono h0 h2.1 s1
          refine ⟨fun j hj => ?_, fun j hj => ?_⟩
          · by_cases ej : j = n + 1
            · subst ej
              rw [g2, g5, g6, e3, e4, if_pos rfl, if_pos rfl]
              have : (alW c t D P n * aW c D P n * (2 * t (4 * w + p) - 1) * b') * g = (a' * (beW c t D P n * bW t D P n * c (4 * w + p))) * g := by
                generalize beW c t D P n * bW t D P n = be at *
                generalize alW c t D P n * aW c D P n = al at *
                grind
              exact Int.le_of_eq (x_eq this hg)
            · rw [(g4 j (by omega)).1, (g4 j (by omega)).2, g3 j (by omega)]; exact hk.1 j (by omega)
          · by_cases ej : j = n
            · subst ej
              unfold aW bW
              rw [(g4 j (by omega)).1, (g4 j (by omega)).2, g3 j (by omega), h3]
              rw [oA _ (by omega), oB _ (by omega)]
              unfold aW bW at h6
              rw [h3] at h6
              exact ⟨hAu, Int.le_of_eq h6.symm⟩
            · have := hk.2 j (by omega)
              unfold aW bW at this ⊢
              rw [(g4 j (by omega)).1, (g4 j (by omega)).2, g3 j (by omega)]
              exact this
      · obtain ⟨n, D, P, h1, h2, h3, h4, h5, h6, h7, h8, h9⟩ := hPI.2.2.1 w hw
        exact ⟨n, D, P, h1, h2, h3, h4, h5, by rw [oA w hwd, oB w hwd]; exact h6, by rw [oA w hwd]; exact h7, by rw [oB w hwd]; exact h8, h9.mono h0 h2 s1⟩
    · obtain ⟨n, D, P, h1, h2, h3, h4, h5, h6, h7, h8, h9⟩ := hPI.2.2.2 q hq (by rw [oA _ (by omega)] at hAq; exact hAq)
      exact ⟨n, D, P, h1, h2, h3, h4, h5, by rw [oA _ (by omega), oB _ (by omega)]; exact h6, by rw [oA _ (by omega)]; exact h7, by rw [oB _ (by omega)]; exact h8, h9.mono h0 h2.1 s1⟩
/-- no number is longer than a long -/
theorem PI_bd {c t A B : Tb} (hc : ∀ l, l < 16 → 0 ≤ c l ∧ c l ≤ 500) (h0 : ∀ l, l < 16 → 0 ≤ t l ∧ t l ≤ 20) (hPI : PI c t A B) : ∀ v, v < 8 → 0 ≤ A v ∧ A v ≤ 3707437500000000 ∧ 0 < B v ∧ (A v = 0 ∨ B v ≤ 353220125000000) := by
  have h19 : ∀ n, n ≤ 3 → pr n (fun _ => (19500 : Int)) ≤ 7414875000000 ∧ 0 ≤ pr n (fun _ => (19500 : Int)) := by
    intro n hn
    rcases (show n = 0 ∨ n = 1 ∨ n = 2 ∨ n = 3 by omega) with rfl | rfl | rfl | rfl <;> simp [pr]
  have h20 : ∀ n, n ≤ 3 → pr n (fun _ => (20500 : Int)) ≤ 8615125000000 ∧ 0 ≤ pr n (fun _ => (20500 : Int)) := by
    intro n hn
    rcases (show n = 0 ∨ n = 1 ∨ n = 2 ∨ n = 3 by omega) with rfl | rfl | rfl | rfl <;> simp [pr]
  intro v hv
  obtain ⟨p1, p2⟩ := hPI.1 v hv
  by_cases hd : v < 4
  · obtain ⟨n, D, P, h1, h2, h3, h4, h5, h6, h7, h8, h9⟩ := hPI.2.2.1 v hd
    obtain ⟨b1, b2⟩ := w_bound hc h0 h2
    have q1 := h19 n h1
    have q2 := h20 n h1
    exact ⟨p1, by omega, p2, Or.inr (by omega)⟩
  · by_cases hz : A v = 0
    · exact ⟨p1, by omega, p2, Or.inl hz⟩
    · obtain ⟨q, rfl⟩ : ∃ q, v = 4 + q := ⟨v - 4, by omega⟩
      obtain ⟨n, D, P, h1, h2, h3, h4, h5, h6, h7, h8, h9⟩ := hPI.2.2.2 q (by omega) (by omega)
      obtain ⟨b1, b2⟩ := w_bound hc h0 h2.1
      have w := w_pos (fun l hl => (h0 l hl).1) h2.1
      have q1 := h19 n h1
      have q2 := h20 n h1
      have i1 := h2.1.1 n (by omega)
      have i2 := h2.2.1
      have c1 := hc (4 * D n + P n) (by omega)
      have t1 := h0 (4 * D n + P n) (by omega)
      have m1 : alW c t D P n * aW c D P n ≤ 7414875000000 * 500 := Int.mul_le_mul (by omega) (by unfold aW; omega) (by unfold aW; omega) (by omega)
      have m2 : beW c t D P n * bW t D P n ≤ 8615125000000 * 41 := Int.mul_le_mul (by omega) (by unfold bW; omega) (by unfold bW; omega) (by omega)
      exact ⟨p1, by omega, p2, Or.inr (by omega)⟩
