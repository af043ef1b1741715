/-! ===== mathematics: how many tables there are ===== -/
def tri : Nat → Nat
  | 0 => 0
  | n + 1 => tri n + (n + 1)
def tet : Nat → Nat
  | 0 => 0
  | n + 1 => tet n + tri (n + 1)
theorem tri_mono {a b : Nat} (h : a ≤ b) : tri a ≤ tri b := by
  induction b with
  | zero => have : a = 0 := by omega
            subst this; exact Nat.le_refl _
  | succ b ih =>
    by_cases e : a = b + 1
    · subst e; exact Nat.le_refl _
    · have := ih (by omega); simp only [tri]; omega
theorem tet_mono {a b : Nat} (h : a ≤ b) : tet a ≤ tet b := by
  induction b with
  | zero => have : a = 0 := by omega
            subst this; exact Nat.le_refl _
  | succ b ih =>
    by_cases e : a = b + 1
    · subst e; exact Nat.le_refl _
    · have := ih (by omega); simp only [tet]; omega
theorem rk_in {a b c : Nat} (hc : c ≤ b) (hb : b ≤ a) : tet a + tri b + c < tet (a + 1) := by
  have h1 := tri_mono (show b + 1 ≤ a + 1 by omega)
  simp only [tri] at h1
  simp only [tet, tri]
  omega
theorem rk_inj {a b c a' b' c' : Nat} (hc : c ≤ b) (hb : b ≤ a) (hc' : c' ≤ b') (hb' : b' ≤ a') (h : tet a + tri b + c = tet a' + tri b' + c') : a = a' ∧ b = b' ∧ c = c' := by
  have h1 := rk_in hc hb
  have h2 := rk_in hc' hb'
  have ea : a = a' := by
    rcases Nat.lt_trichotomy a a' with q | q | q
    · have := tet_mono (show a + 1 ≤ a' by omega); omega
    · exact q
    · have := tet_mono (show a' + 1 ≤ a by omega); omega
  subst ea
  have eb : b = b' := by
    rcases Nat.lt_trichotomy b b' with q | q | q
    · have := tri_mono (show b + 1 ≤ b' by omega)
      simp only [tri] at this
      omega
    · exact q
    · have := tri_mono (show b' + 1 ≤ b by omega)
      simp only [tri] at this
      omega
  subst eb
  exact ⟨rfl, rfl, by omega⟩
def rkR (t : Tb) (d : Nat) : Nat := tet (t (4 * d) + t (4 * d + 1) + t (4 * d + 2)).toNat + tri (t (4 * d) + t (4 * d + 1)).toNat + (t (4 * d)).toNat
theorem rkR_lt {c sz sh t : Tb} (ht : fitT c sz sh t) {d : Nat} (hd : d < 4) : rkR t d < tet ((sz d).toNat + 1) := by
  have h0 := ht.1 (4 * d) (by omega)
  have h1 := ht.1 (4 * d + 1) (by omega)
  have h2 := ht.1 (4 * d + 2) (by omega)
  have h3 := ht.1 (4 * d + 3) (by omega)
  have h4 := ht.2.2.1 d hd
  refine Nat.lt_of_lt_of_le (rk_in (by omega) (by omega)) (tet_mono (by omega))
theorem rkR_inj {c sz sh t u : Tb} (ht : fitT c sz sh t) (hu : fitT c sz sh u) {d : Nat} (hd : d < 4) (h : rkR t d = rkR u d) : ∀ p, p < 4 → t (4 * d + p) = u (4 * d + p) := by
  have h0 := ht.1 (4 * d) (by omega)
  have h1 := ht.1 (4 * d + 1) (by omega)
  have h2 := ht.1 (4 * d + 2) (by omega)
  have h4 := ht.2.2.1 d hd
  have g0 := hu.1 (4 * d) (by omega)
  have g1 := hu.1 (4 * d + 1) (by omega)
  have g2 := hu.1 (4 * d + 2) (by omega)
  have g4 := hu.2.2.1 d hd
  obtain ⟨e1, e2, e3⟩ := rk_inj (by omega) (by omega) (by omega) (by omega) h
  intro p hp
  rcases (show p = 0 ∨ p = 1 ∨ p = 2 ∨ p = 3 by omega) with rfl | rfl | rfl | rfl
  · rw [Nat.add_zero]; omega
  · omega
  · omega
  · omega
theorem tet_bd : ∀ a b c : Fin 11, (∀ m : Fin 21, a.val ≤ m.val → b.val ≤ m.val → c.val ≤ m.val → a.val + b.val + c.val + m.val ≤ 20 → tet (a.val + 1) * (tet (b.val + 1) * tet (c.val + 1)) ≤ 175616) := by decide +kernel
theorem mix_lt {r0 r1 r2 n0 n1 n2 : Nat} (h0 : r0 < n0) (h1 : r1 < n1) (h2 : r2 < n2) : r0 + n0 * (r1 + n1 * r2) < n0 * (n1 * n2) := by
  have e1 : r1 + n1 * r2 < n1 * n2 := by
    have : n1 * (r2 + 1) ≤ n1 * n2 := Nat.mul_le_mul_left _ (by omega)
    rw [Nat.mul_add] at this; omega
  have : n0 * (r1 + n1 * r2 + 1) ≤ n0 * (n1 * n2) := Nat.mul_le_mul_left _ (by omega)
  rw [Nat.mul_add] at this; omega
theorem mix_inj {r0 r1 r2 q0 q1 q2 n0 n1 : Nat} (h0 : r0 < n0) (h1 : r1 < n1) (g0 : q0 < n0) (g1 : q1 < n1) (h : r0 + n0 * (r1 + n1 * r2) = q0 + n0 * (q1 + n1 * q2)) : r0 = q0 ∧ r1 = q1 ∧ r2 = q2 := by
  have e0 : r0 = q0 := by
    have a := congrArg (· % n0) h
    simp only [Nat.add_mul_mod_self_left, Nat.mod_eq_of_lt h0, Nat.mod_eq_of_lt g0] at a
    exact a
  subst e0
  have e : n0 * (r1 + n1 * r2) = n0 * (q1 + n1 * q2) := by omega
  have e2 := Nat.eq_of_mul_eq_mul_left (by omega) e
  have e1 : r1 = q1 := by
    have a := congrArg (· % n1) e2
    simp only [Nat.add_mul_mod_self_left, Nat.mod_eq_of_lt h1, Nat.mod_eq_of_lt g1] at a
    exact a
  subst e1
  have e3 : n1 * r2 = n1 * q2 := by omega
  exact ⟨rfl, rfl, Nat.eq_of_mul_eq_mul_left (by omega) e3⟩
theorem code_x {c sz sh : Tb} (x y0 y1 y2 : Nat) (hx : x < 4 ∧ y0 < 4 ∧ y1 < 4 ∧ y2 < 4) (hall : ∀ d, d < 4 → d = x ∨ d = y0 ∨ d = y1 ∨ d = y2) (hm : sz y0 ≤ sz x ∧ sz y1 ≤ sz x ∧ sz y2 ≤ sz x) (hs : 0 ≤ sz y0 ∧ 0 ≤ sz y1 ∧ 0 ≤ sz y2) (h20 : sz x + sz y0 + sz y1 + sz y2 ≤ 20) :
    ∃ code : Tb → Nat, (∀ t, fitT c sz sh t → code t < 175616) ∧ ∀ t u, fitT c sz sh t → fitT c sz sh u → code t = code u → ∀ l, l < 16 → t l = u l := by
  refine ⟨fun t => rkR t y0 + tet ((sz y0).toNat + 1) * (rkR t y1 + tet ((sz y1).toNat + 1) * rkR t y2), fun t ht => ?_, fun t u ht hu he => ?_⟩
  · refine Nat.lt_of_lt_of_le (mix_lt (rkR_lt ht hx.2.1) (rkR_lt ht hx.2.2.1) (rkR_lt ht hx.2.2.2)) ?_
    exact tet_bd ⟨(sz y0).toNat, by omega⟩ ⟨(sz y1).toNat, by omega⟩ ⟨(sz y2).toNat, by omega⟩ ⟨(sz x).toNat, by omega⟩ (by dsimp only; omega) (by dsimp only; omega) (by dsimp only; omega) (by dsimp only; omega)
  · obtain ⟨e0, e1, e2⟩ := mix_inj (rkR_lt ht hx.2.1) (rkR_lt ht hx.2.2.1) (rkR_lt hu hx.2.1) (rkR_lt hu hx.2.2.1) he
    have f0 := rkR_inj ht hu hx.2.1 e0
    have f1 := rkR_inj ht hu hx.2.2.1 e1
    have f2 := rkR_inj ht hu hx.2.2.2 e2
    have rest : ∀ d, d < 4 → d ≠ x → ∀ p, p < 4 → t (4 * d + p) = u (4 * d + p) := by
      intro d hd hdx
      rcases hall d hd with h | h | h | h
      · exact absurd h hdx
      · subst h; exact f0
      · subst h; exact f1
      · subst h; exact f2
    have key : ∀ d, d < 4 → ∀ p, p < 4 → t (4 * d + p) = u (4 * d + p) := by
      intro d hd p hp
      by_cases hdx : d = x
      · have c1 := ht.2.2.2 p hp
        have c2 := hu.2.2.2 p hp
        have r0 := rest 0 (by omega)
        have r1 := rest 1 (by omega)
        have r2 := rest 2 (by omega)
        have r3 := rest 3 (by omega)
        rcases (show d = 0 ∨ d = 1 ∨ d = 2 ∨ d = 3 by omega) with rfl | rfl | rfl | rfl
        · have a1 := r1 (by omega) p hp; have a2 := r2 (by omega) p hp; have a3 := r3 (by omega) p hp
          simp at a1 a2 a3 ⊢; omega
        · have a1 := r0 (by omega) p hp; have a2 := r2 (by omega) p hp; have a3 := r3 (by omega) p hp
          simp at a1 a2 a3 ⊢; omega
        · have a1 := r0 (by omega) p hp; have a2 := r1 (by omega) p hp; have a3 := r3 (by omega) p hp
          simp at a1 a2 a3 ⊢; omega
        · have a1 := r0 (by omega) p hp; have a2 := r1 (by omega) p hp; have a3 := r2 (by omega) p hp
          simp at a1 a2 a3 ⊢; omega
      · exact rest d hd hdx p hp
    intro l hl
    have := key (l / 4) (by omega) (l % 4) (by omega)
    rwa [show 4 * (l / 4) + l % 4 = l by omega] at this
theorem code_ex {c sz sh : Tb} (hs : ∀ d, d < 4 → 0 ≤ sz d) (h20 : sz 0 + sz 1 + sz 2 + sz 3 ≤ 20) : ∃ code : Tb → Nat, (∀ t, fitT c sz sh t → code t < 175616) ∧ ∀ t u, fitT c sz sh t → fitT c sz sh u → code t = code u → ∀ l, l < 16 → t l = u l := by
  have s0 := hs 0 (by omega)
  have s1 := hs 1 (by omega)
  have s2 := hs 2 (by omega)
  have s3 := hs 3 (by omega)
  by_cases a : sz 1 ≤ sz 0 ∧ sz 2 ≤ sz 0 ∧ sz 3 ≤ sz 0
  · exact code_x 0 1 2 3 (by omega) (by omega) a ⟨s1, s2, s3⟩ h20
  · by_cases b : sz 0 ≤ sz 1 ∧ sz 2 ≤ sz 1 ∧ sz 3 ≤ sz 1
    · exact code_x 1 0 2 3 (by omega) (by omega) b ⟨s0, s2, s3⟩ (by omega)
    · by_cases e : sz 0 ≤ sz 2 ∧ sz 1 ≤ sz 2 ∧ sz 3 ≤ sz 2
      · exact code_x 2 0 1 3 (by omega) (by omega) e ⟨s0, s1, s3⟩ (by omega)
      · exact code_x 3 0 1 2 (by omega) (by omega) (by omega) ⟨s0, s1, s2⟩ (by omega)
noncomputable def cntP : Nat → (Nat → Prop) → Nat
  | 0, _ => 0
  | n + 1, p => cntP n p + @ite Nat (p n) (Classical.propDecidable _) 1 0
theorem cntP_le (p : Nat → Prop) : ∀ n, cntP n p ≤ n
  | 0 => Nat.le_refl _
  | n + 1 => by have := cntP_le p n; simp only [cntP]; split <;> omega
theorem cntP_mono {p q : Nat → Prop} : ∀ {n : Nat}, (∀ i, i < n → q i → p i) → cntP n q ≤ cntP n p
  | 0, _ => Nat.le_refl _
  | n + 1, h => by
    have h1 := cntP_mono (p := p) (q := q) (n := n) (fun i hi => h i (by omega))
    have h2 := h n (by omega)
    simp only [cntP]
    split
    · next q1 => rw [if_pos (h2 q1)]; omega
    · omega
theorem cntP_lt {p q : Nat → Prop} : ∀ {n : Nat}, (∀ i, i < n → q i → p i) → (∃ i, i < n ∧ p i ∧ ¬ q i) → cntP n q < cntP n p
  | 0, _, ⟨i, hi, _⟩ => by omega
  | n + 1, h, ⟨i, hi, h1, h2⟩ => by
    simp only [cntP]
    by_cases e : i = n
    · subst e
      rw [if_neg h2, if_pos h1]
      have := cntP_mono (p := p) (q := q) (n := i) (fun j hj => h j (by omega))
      omega
    · have := cntP_lt (p := p) (q := q) (n := n) (fun j hj => h j (by omega)) ⟨i, by omega, h1, h2⟩
      have h3 := h n (by omega)
      split
      · next q1 => rw [if_pos (h3 q1)]; omega
      · omega
/-- a number below 175617 that falls when a table becomes better -/
theorem mu_ex {c sz sh : Tb} (w : Int) (hs : ∀ d, d < 4 → 0 ≤ sz d) (h20 : sz 0 + sz 1 + sz 2 + sz 3 ≤ 20) : ∃ μ : Tb → Nat, (∀ t, μ t ≤ 175616) ∧ ∀ t u, fitT c sz sh u → btr c w t u → μ u < μ t := by
  obtain ⟨code, h1, h2⟩ := code_ex (c := c) (sh := sh) hs h20
  refine ⟨fun t => cntP 175616 (fun i => ∃ u, fitT c sz sh u ∧ code u = i ∧ btr c w t u), fun t => cntP_le _ _, fun t u hu hb => ?_⟩
  refine cntP_lt (fun i _ q => ?_) ⟨code u, h1 u hu, ⟨u, hu, rfl, hb⟩, ?_⟩
  · obtain ⟨v, hv, he, hb2⟩ := q
    exact ⟨v, hv, he, btr_tr hb hb2⟩
  · rintro ⟨v, hv, he, hb2⟩
    exact btr_ir (fun l hl => (h2 v u hv hu he l hl).symm) hb2
