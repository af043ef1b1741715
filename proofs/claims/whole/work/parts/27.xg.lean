/-! ===== the class: looking for a ring ===== -/
theorem isRing_ext {k : Nat} {D P D' P' : Nat → Nat} (h : ∀ i, i < k → D' i = D i ∧ P' i = P i) (hr : isRing k D P) : isRing k D' P' := by
  obtain ⟨h1, h2, h3, h4, h5, h6⟩ := hr
  refine ⟨h1, h2, fun i hi => by rw [(h i hi).1, (h i hi).2]; exact h3 i hi, fun i j hi hj he => h4 i j hi hj (by rw [← (h i hi).1, ← (h j hj).1]; exact he), fun i j hi hj he => h5 i j hi hj (by rw [← (h i hi).2, ← (h j hj).2]; exact he), fun i hi hk => by rw [(h 0 (by omega)).1, (h i hk).1]; exact h6 i hi hk⟩
theorem mo_ext {k : Nat} {D P D' P' : Nat → Nat} (h : ∀ i, i < k → D' i = D i ∧ P' i = P i) {i : Nat} (hi : i < k) : mo D' P' i = mo D P i := by unfold mo; rw [(h i hi).1, (h i hi).2]
theorem le_ext {k : Nat} {D P D' P' : Nat → Nat} (h : ∀ i, i < k → D' i = D i ∧ P' i = P i) {i : Nat} (hi : i < k) : le k D' P' i = le k D P i := by
  have : nxt k i < k := by unfold nxt; split <;> omega
  unfold le; rw [(h _ this).1, (h i hi).2]
theorem goodR_ext {c t : Tb} {w : Int} {k : Nat} {D P D' P' : Nat → Nat} (h : ∀ i, i < k → D' i = D i ∧ P' i = P i) (hg : goodR c t w k D P) : goodR c t w k D' P' := by
  obtain ⟨h1, h2, h3⟩ := hg
  have e1 : upR c t k D' P' k = upR c t k D P k := pr_ext fun i hi => by rw [mo_ext h hi, le_ext h hi]
  have e2 : dnR c t k D' P' k = dnR c t k D P k := pr_ext fun i hi => by rw [mo_ext h hi, le_ext h hi]
  refine ⟨isRing_ext h h1, fun i hi => by rw [mo_ext h hi, le_ext h hi]; exact h2 i hi, ?_⟩
  rw [e1, e2]
  rcases h3 with h3 | ⟨h3, h4⟩
  · exact Or.inl h3
  · refine Or.inr ⟨h3, ?_⟩
    have := h1.1
    unfold wishR at h4 ⊢
    rw [(h 0 (by omega)).2, (h (k - 1) (by omega)).2]
    exact h4
/-- a beginning of a ring: n districts, the parties between them -/
def preL (c t : Tb) (n : Nat) (D P : Nat → Nat) : Prop := (∀ i, i < n → D i < 4) ∧ (∀ i j, i < n → j < n → D i = D j → i = j) ∧ (∀ i, 0 < i → i < n → D 0 < D i) ∧ (∀ i, i + 1 < n → P i < 4 ∧ 0 < c (4 * D i + P i) ∧ 0 < t (4 * D (i + 1) + P i)) ∧ ∀ i j, i + 1 < n → j + 1 < n → P i = P j → i = j
/-- .. with a party behind the last district too -/
def preA (c t : Tb) (n : Nat) (D P : Nat → Nat) : Prop := preL c t n D P ∧ P (n - 1) < 4 ∧ 0 < c (4 * D (n - 1) + P (n - 1)) ∧ ∀ i, i + 1 < n → P i ≠ P (n - 1)
theorem preL.toD {c t : Tb} {n : Nat} {D P : Nat → Nat} (hz : ∀ l, l < 16 → 0 < t l → 0 < c l) (hn : 1 ≤ n) (h : preL c t n D P) : toD c t (n - 1) D P := by
  refine ⟨fun i hi => h.1 i (by omega), fun i hi => ?_⟩
  obtain ⟨h1, h2, h3⟩ := h.2.2.2.1 i (by omega)
  have := h.1 (i + 1) (by omega)
  exact ⟨h1, h2, h3, hz _ (by omega) h3⟩
theorem preA_inj {c t : Tb} {n : Nat} {D P : Nat → Nat} (h : preA c t n D P) : ∀ i j, i < n → j < n → P i = P j → i = j := by
  intro i j hi hj he
  by_cases a : i + 1 < n <;> by_cases b : j + 1 < n
  · exact h.1.2.2.2.2 i j a b he
  · have e : j = n - 1 := by omega
    rw [e] at he
    exact absurd he (h.2.2.2 i a)
  · have e : i = n - 1 := by omega
    rw [e] at he
    exact absurd he.symm (h.2.2.2 j b)
  · omega
theorem preA_ring {c t : Tb} {n : Nat} {D P : Nat → Nat} (hn : 2 ≤ n) (hn4 : n ≤ 4) (h : preA c t n D P) : isRing n D P := by
  refine ⟨hn, hn4, fun i hi => ⟨h.1.1 i hi, ?_⟩, h.1.2.1, preA_inj h, h.1.2.2.1⟩
  by_cases a : i + 1 < n
  · exact (h.1.2.2.2.1 i a).1
  · rw [show i = n - 1 by omega]; exact h.2.1
theorem ring_prod {c t : Tb} {n : Nat} (hn : 1 ≤ n) (D P : Nat → Nat) : upR c t n D P n = alW c t D P (n - 1) * aW c D P (n - 1) * (2 * t (4 * D 0 + P (n - 1)) - 1) ∧ dnR c t n D P n = beW c t D P (n - 1) * bW t D P (n - 1) * c (4 * D 0 + P (n - 1)) := by
  obtain ⟨m, rfl⟩ : ∃ m, n = m + 1 := ⟨n - 1, by omega⟩
  have nl : nxt (m + 1) m = 0 := by unfold nxt; rw [if_neg (by omega)]
  have nn : ∀ i, i < m → nxt (m + 1) i = i + 1 := fun i hi => by unfold nxt; rw [if_pos (by omega)]
  simp only [Nat.add_sub_cancel]
  constructor
  · show pr (m + 1) _ = _
    simp only [pr]
    have e : pr m (fun i => c (mo D P i) * (2 * t (le (m + 1) D P i) - 1)) = alW c t D P m := pr_ext fun i hi => by unfold le mo aW gW; rw [nn i hi]
    rw [e]
    unfold le mo aW
    rw [nl, Int.mul_assoc]
  · show pr (m + 1) _ = _
    simp only [pr]
    have e : pr m (fun i => c (le (m + 1) D P i) * (2 * t (mo D P i) + 1)) = beW c t D P m := pr_ext fun i hi => by unfold le mo bW hW; rw [nn i hi, Int.mul_comm]
    rw [e]
    unfold le mo bW
    rw [nl, Int.mul_assoc]
    congr 1
    exact Int.mul_comm _ _
section XG
variable {d : Nat} {σ : HP} {Q : MQt} {X : MXt}
def RH (σ : HP) (r : Nat) (c t : Tb) (w : Int) : Prop := SX[r]? = some (.inl (.inl 16)) ∧ σ 5 = c ∧ σ r = t ∧ σ 12 3 = w ∧ (∀ l, l < 16 → 0 ≤ c l ∧ c l ≤ 500) ∧ (∀ l, l < 16 → 0 ≤ t l ∧ t l ≤ 20) ∧ (∀ l, l < 16 → 0 < t l → 0 < c l) ∧ (w = 0 ∨ w = 1 ∨ w = 2)
theorem RH.nr {r : Nat} {c t : Tb} {w : Int} (h : RH σ r c t w) : r ≠ 12 ∧ r ≠ 13 ∧ r ≠ 14 := by
  have := h.1
  refine ⟨fun e => ?_, fun e => ?_, fun e => ?_⟩ <;> rw [e] at this <;> cases this
def FR (σ σ' : HP) : Prop := (∀ r, r ≠ 12 → r ≠ 13 → r ≠ 14 → σ' r = σ r) ∧ σ' 12 3 = σ 12 3
theorem FR.rf : FR σ σ := ⟨fun _ _ _ _ => rfl, rfl⟩
theorem FR.tr {σ' σ2 : HP} (h1 : FR σ σ') (h2 : FR σ' σ2) : FR σ σ2 := ⟨fun r a b c => by rw [h2.1 r a b c, h1.1 r a b c], by rw [h2.2, h1.2]⟩
theorem FR.u12 {z : Int} : FR σ (up σ 12 2 z) := ⟨fun r a _ _ => up_ne a, by rw [up_nj (by decide)]⟩
theorem FR.u13 {j : Nat} {z : Int} : FR σ (up σ 13 j z) := ⟨fun r _ a _ => up_ne a, by rw [up_nr (by decide)]⟩
theorem FR.u14 {j : Nat} {z : Int} : FR σ (up σ 14 j z) := ⟨fun r _ _ a => up_ne a, by rw [up_nr (by decide)]⟩
theorem RH.fr {σ' : HP} {r : Nat} {c t : Tb} {w : Int} (h : RH σ r c t w) (hf : FR σ σ') : RH σ' r c t w := by
  obtain ⟨n1, n2, n3⟩ := h.nr
  obtain ⟨h1, h2, h3, h4, h5⟩ := h
  exact ⟨h1, by rw [hf.1 5 (by decide) (by decide) (by decide)]; exact h2, by rw [hf.1 r n1 n2 n3]; exact h3, by rw [hf.2]; exact h4, h5⟩
theorem ok_isWished {a b : Nat} {w : Int} (ha : a < 4) (hb : b < 4) (hw : w = 0 ∨ w = 1 ∨ w = 2) (h : σ 12 3 = w) : Ok d Y2_isWished SX [vr 12, vi a, vi b] σ (qi fun z σ' => σ' = σ ∧ ((z = 1 ∧ ((w = 1 ∧ a < b) ∨ (w = 2 ∧ b < a))) ∨ (z = 0 ∧ ¬ ((w = 1 ∧ a < b) ∨ (w = 2 ∧ b < a))))) := by
  refine Ok.ofWp (by decide) (Nat.le_of_ble_eq_true rfl) ?_
  refine b2_isWished_0 _ _ ?_
  rw [h]
  rcases hw with rfl | rfl | rfl
  · refine Wp.lookup (dflt := 50) (ps := #[(1, 28), (2, 39)]) (len := 28) (off := 50) 54 (by decide +kernel) (by decide) ⟨by decide, by decide⟩ (by decide) (by decide) ?_
    exact Wp.forget (leL_n (leL_n (leL_n leL_0))) (b2_isWished_54 ⟨0, rfl, rfl, Or.inr ⟨rfl, by omega⟩⟩)
  · refine Wp.lookup (dflt := 50) (ps := #[(1, 28), (2, 39)]) (len := 28) (off := 28) 32 (by decide +kernel) (by decide) ⟨by decide, by decide⟩ (by decide) (by decide) ?_
    exact b2_isWished_32 _ _ ⟨by omega, by omega⟩ ⟨by omega, by omega⟩ (fun q => b2_isWished_41 (b2_isWished_42 _ (Or.inl rfl) ⟨0, rfl, rfl, Or.inr ⟨rfl, by omega⟩⟩)) (fun q => b2_isWished_37 (b2_isWished_42 _ (Or.inr rfl) ⟨1, rfl, rfl, Or.inl ⟨rfl, by omega⟩⟩))
  · refine Wp.lookup (dflt := 50) (ps := #[(1, 28), (2, 39)]) (len := 28) (off := 39) 43 (by decide +kernel) (by decide) ⟨by decide, by decide⟩ (by decide) (by decide) ?_
    exact b2_isWished_43 _ _ ⟨by omega, by omega⟩ ⟨by omega, by omega⟩ (fun q => b2_isWished_52 (b2_isWished_53 _ (Or.inl rfl) ⟨0, rfl, rfl, Or.inr ⟨rfl, by omega⟩⟩)) (fun q => b2_isWished_48 (b2_isWished_53 _ (Or.inr rfl) ⟨1, rfl, rfl, Or.inl ⟨rfl, by omega⟩⟩))
theorem p19 {n : Nat} (hn : n ≤ 3) : pr n (fun _ => (19500 : Int)) ≤ 7414875000000 ∧ pr n (fun _ => (20500 : Int)) ≤ 8615125000000 := by
  rcases (show n = 0 ∨ n = 1 ∨ n = 2 ∨ n = 3 by omega) with rfl | rfl | rfl | rfl <;> simp [pr]
/-- how large the products can be -/
theorem pre_bd {c t : Tb} {n : Nat} {D P : Nat → Nat} (hc : ∀ l, l < 16 → 0 ≤ c l ∧ c l ≤ 500) (ht : ∀ l, l < 16 → 0 ≤ t l ∧ t l ≤ 20) (hz : ∀ l, l < 16 → 0 < t l → 0 < c l) (hn : 1 ≤ n) (hn4 : n ≤ 4) (h : preL c t n D P) : (0 < alW c t D P (n - 1) ∧ alW c t D P (n - 1) ≤ 7414875000000) ∧ (0 < beW c t D P (n - 1) ∧ beW c t D P (n - 1) ≤ 8615125000000) := by
  have hd := h.toD hz hn
  have w1 := w_pos (fun l hl => (ht l hl).1) hd
  have w2 := w_bound hc ht hd
  have w3 := p19 (n := n - 1) (by omega)
  omega
theorem ok_closes {r n : Nat} {c t : Tb} {w : Int} {D P : Nat → Nat} (hn : 1 ≤ n) (hn4 : n ≤ 4) (h : RH σ r c t w) (hD : ∀ i, i < n → σ 13 i = D i) (hP : ∀ i, i < n → σ 14 i = P i) (hp : preA c t n D P) :
    Ok (d + 1) Y2_closes SX [vr 12, vr 5, vr r, vi n, vl (alW c t D P (n - 1) * aW c D P (n - 1)), vl (beW c t D P (n - 1) * bW t D P (n - 1))] σ (qi fun z σ' => (z = 1 ∧ goodR c t w n D P ∧ σ' = up σ 12 2 n) ∨ (z = 0 ∧ ¬ goodR c t w n D P ∧ (σ' = σ ∨ σ' = up σ 12 2 n))) := by
  refine Ok.ofWp (by decide) (Nat.le_of_ble_eq_true rfl) ?_
  obtain ⟨hr, h5, ht8, hw, hc, ht, hz, hw3⟩ := id h
  obtain ⟨n1, n2, n3⟩ := h.nr
  obtain ⟨q1, q2⟩ := pre_bd hc ht hz hn hn4 hp.1
  have dn1 := hp.1.1 (n - 1) (by omega)
  have d0 := hp.1.1 0 (by omega)
  have pn := hp.2.1
  have e13 : σ 13 0 = D 0 := hD 0 (by omega)
  have et : ((n : Int) - 1).toNat = n - 1 := by omega
  have e14 : σ 14 ((n : Int) - 1).toNat = P (n - 1) := by rw [et]; exact hP (n - 1) (by omega)
  have el : (((D 0 : Nat) : Int) * 4 + ((P (n - 1) : Nat) : Int)).toNat = 4 * D 0 + P (n - 1) := by omega
  obtain ⟨pu, pd⟩ := ring_prod (c := c) (t := t) hn D P
  have cb := hc (4 * D (n - 1) + P (n - 1)) (by omega)
  have tb := ht (4 * D (n - 1) + P (n - 1)) (by omega)
  have cl := hc (4 * D 0 + P (n - 1)) (by omega)
  have tl := ht (4 * D 0 + P (n - 1)) (by omega)
  have a1 : 0 ≤ alW c t D P (n - 1) * aW c D P (n - 1) ∧ alW c t D P (n - 1) * aW c D P (n - 1) ≤ 7414875000000 * 500 := ⟨Int.mul_nonneg (by omega) (by unfold aW; omega), Int.mul_le_mul q1.2 (by unfold aW; omega) (by unfold aW; omega) (by omega)⟩
  have a2 : 0 ≤ beW c t D P (n - 1) * bW t D P (n - 1) ∧ beW c t D P (n - 1) * bW t D P (n - 1) ≤ 8615125000000 * 41 := ⟨Int.mul_nonneg (by omega) (by unfold bW; omega), Int.mul_le_mul q2.2 (by unfold bW; omega) (by unfold bW; omega) (by omega)⟩
  refine b2_closes_0 _ _ _ _ ⟨by omega, by omega⟩ ⟨by omega, by omega⟩ (fun q => b2_closes_35 ⟨0, rfl, Or.inr ⟨rfl, fun g => by have := g.1.1; omega, Or.inl rfl⟩⟩) (fun hn2 => ?_)
  rw [e13, e14]
  refine b2_closes_28 _ _ _ _ _ _ hr ⟨by omega, by omega⟩ (by rw [el, ht8]; exact ⟨by omega, by omega⟩) (fun g => ?_) (fun g => ?_)
  · rw [el, ht8] at g
    have tp : 0 < t (4 * D 0 + P (n - 1)) := by omega
    have hR := preA_ring (by omega) hn4 hp
    have hcan : canT c t n D P := by
      intro i hi
      by_cases e : i + 1 < n
      · have := hp.1.2.2.2.1 i e
        unfold mo le nxt
        rw [if_pos e]
        exact ⟨this.2.1, this.2.2⟩
      · have e2 : i = n - 1 := by omega
        subst e2
        unfold mo le nxt
        rw [if_neg e]
        exact ⟨hp.2.2.1, tp⟩
    have u8 : ∀ j, up σ 12 2 (n : Int) r j = t j := fun j => by rw [up_nr n1, ht8]
    have u5 : ∀ j, up σ 12 2 (n : Int) 5 j = c j := fun j => by rw [up_nr (by decide), h5]
    have b1 : 0 ≤ alW c t D P (n - 1) * aW c D P (n - 1) * (2 * t (4 * D 0 + P (n - 1)) - 1) ∧ alW c t D P (n - 1) * aW c D P (n - 1) * (2 * t (4 * D 0 + P (n - 1)) - 1) ≤ 7414875000000 * 500 * 39 := ⟨Int.mul_nonneg a1.1 (by omega), Int.mul_le_mul a1.2 (by omega) (by omega) (by omega)⟩
    have b2 : 0 ≤ beW c t D P (n - 1) * bW t D P (n - 1) * c (4 * D 0 + P (n - 1)) ∧ beW c t D P (n - 1) * bW t D P (n - 1) * c (4 * D 0 + P (n - 1)) ≤ 8615125000000 * 41 * 500 := ⟨Int.mul_nonneg a2.1 (by omega), Int.mul_le_mul a2.2 (by omega) (by omega) (by omega)⟩
    refine b2_closes_37 _ _ _ _ _ _ hr ⟨by omega, by omega⟩ (by rw [el, u8]; exact ⟨by omega, by omega⟩) (by rw [el, u5]; exact ⟨by omega, by omega⟩) (by rw [el, u8]; exact ⟨by omega, by omega⟩) (by rw [el, u5]; exact ⟨by omega, by omega⟩) (fun g2 => ?_) (fun g2 => ?_)
    · rw [el, u8, u5] at g2
      exact b2_closes_97 (b2_closes_102 _ (Or.inr rfl) ⟨1, rfl, Or.inl ⟨rfl, ⟨hR, hcan, Or.inl (by rw [pu, pd]; exact g2)⟩, rfl⟩⟩)
    · rw [el, u8, u5] at g2 ⊢
      refine b2_closes_74 _ _ _ ⟨by omega, by omega⟩ ⟨by omega, by omega⟩ (fun g3 => ?_) (fun g3 => ?_)
      · refine b2_closes_101 (b2_closes_102 _ (Or.inl rfl) ⟨0, rfl, Or.inr ⟨rfl, ?_, Or.inr rfl⟩⟩)
        rintro ⟨-, -, z | ⟨z, -⟩⟩
        · rw [pu, pd] at z; omega
        · rw [pu, pd] at z; exact g3 z
      · have e140 : up σ 12 2 (n : Int) 14 0 = P 0 := by rw [up_nr (by decide)]; exact hP 0 (by omega)
        have p0 : P 0 < 4 := (hR.2.2.1 0 (by omega)).2
        refine b2_closes_82 (d := d) _ (P := fun z σ' => σ' = up σ 12 2 (n : Int) ∧ ((z = 1 ∧ ((w = 1 ∧ P 0 < P (n - 1)) ∨ (w = 2 ∧ P (n - 1) < P 0))) ∨ (z = 0 ∧ ¬ ((w = 1 ∧ P 0 < P (n - 1)) ∨ (w = 2 ∧ P (n - 1) < P 0))))) (by rw [e140]; exact ok_isWished p0 pn hw3 (by rw [up_nj (by decide)]; exact hw)) (fun z σ' hz' => ?_)
        obtain ⟨rfl, hz'⟩ := hz'
        rcases hz' with ⟨rfl, hwi⟩ | ⟨rfl, hwi⟩
        · exact b2_closes_94 _ ⟨by decide, by decide⟩ (fun q => absurd q (by decide)) (fun _ => b2_closes_97 (b2_closes_102 _ (Or.inr rfl) ⟨1, rfl, Or.inl ⟨rfl, ⟨hR, hcan, Or.inr ⟨by rw [pu, pd]; exact g3, hwi⟩⟩, rfl⟩⟩))
        · refine b2_closes_94 _ ⟨by decide, by decide⟩ (fun _ => b2_closes_101 (b2_closes_102 _ (Or.inl rfl) ⟨0, rfl, Or.inr ⟨rfl, ?_, Or.inr rfl⟩⟩)) (fun q => absurd rfl q)
          rintro ⟨-, -, z | ⟨-, z⟩⟩
          · rw [pu, pd] at z; omega
          · exact hwi z
  · rw [el, ht8] at g
    refine b2_closes_35 ⟨0, rfl, Or.inr ⟨rfl, fun gg => ?_, Or.inl rfl⟩⟩
    have := (gg.2.1 (n - 1) (by omega)).2
    unfold le nxt at this
    rw [if_neg (by omega)] at this
    omega
end XG
