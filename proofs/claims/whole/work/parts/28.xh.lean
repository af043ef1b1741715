/-! ===== the class: the search for a ring ===== -/
def setN (f : Nat → Nat) (n v : Nat) : Nat → Nat := fun i => if i = n then v else f i
theorem setN_at {f : Nat → Nat} {n v : Nat} : setN f n v n = v := by simp [setN]
theorem setN_ne {f : Nat → Nat} {n v i : Nat} (h : i ≠ n) : setN f n v i = f i := by simp [setN, h]
def UL (n : Nat) (D P : Nat → Nat) (U : Nat) : Prop := U < 256 ∧ (∀ e, e < 4 → (U.testBit e = true ↔ ∃ i, i < n ∧ D i = e)) ∧ ∀ q, q < 4 → (U.testBit (4 + q) = true ↔ ∃ i, i + 1 < n ∧ P i = q)
def UA (n : Nat) (D P : Nat → Nat) (U : Nat) : Prop := U < 256 ∧ (∀ e, e < 4 → (U.testBit e = true ↔ ∃ i, i < n ∧ D i = e)) ∧ ∀ q, q < 4 → (U.testBit (4 + q) = true ↔ ∃ i, i < n ∧ P i = q)
def noL (c t : Tb) (w : Int) (n : Nat) (D P : Nat → Nat) : Prop := ∀ k D' P', n ≤ k → goodR c t w k D' P' → (∀ i, i < n → D' i = D i) → (∀ i, i + 1 < n → P' i = P i) → False
def noA (c t : Tb) (w : Int) (n : Nat) (D P : Nat → Nat) : Prop := ∀ k D' P', n + 1 ≤ k → goodR c t w k D' P' → (∀ i, i < n → D' i = D i ∧ P' i = P i) → False
def fnd (c t : Tb) (w : Int) (σ' : HP) : Prop := ∃ k D P, goodR c t w k D P ∧ σ' 12 2 = (k : Int) ∧ ∀ i, i < k → σ' 13 i = (D i : Int) ∧ σ' 14 i = (P i : Int)
def LvQ (c t : Tb) (w : Int) (n : Nat) (D P : Nat → Nat) (σ : HP) (z : Int) (σ' : HP) : Prop := FR σ σ' ∧ ((z = 1 ∧ fnd c t w σ') ∨ (z = 0 ∧ (∀ i, i < n → σ' 13 i = (D i : Int)) ∧ (∀ i, i + 1 < n → σ' 14 i = (P i : Int)) ∧ noL c t w n D P))
def ArQ (c t : Tb) (w : Int) (n : Nat) (D P : Nat → Nat) (σ : HP) (z : Int) (σ' : HP) : Prop := FR σ σ' ∧ ((z = 1 ∧ fnd c t w σ') ∨ (z = 0 ∧ (∀ i, i < n → σ' 13 i = (D i : Int)) ∧ (∀ i, i < n → σ' 14 i = (P i : Int)) ∧ noA c t w n D P))
def LvS (h n : Nat) : Prop := ∀ (d : Nat) (σ : HP) (r : Nat) (c t : Tb) (w : Int) (D P : Nat → Nat) (U : Nat), RH σ r c t w → (∀ i, i < n → σ 13 i = (D i : Int)) → (∀ i, i + 1 < n → σ 14 i = (P i : Int)) → preL c t n D P → UL n D P U → Ok (d + h) Y2_leaves SX [vr 12, vr 5, vr r, vi n, vi U, vl (alW c t D P (n - 1)), vl (beW c t D P (n - 1))] σ (qi (LvQ c t w n D P σ))
def ArS (h n : Nat) : Prop := ∀ (d : Nat) (σ : HP) (r : Nat) (c t : Tb) (w : Int) (D P : Nat → Nat) (U : Nat), RH σ r c t w → (∀ i, i < n → σ 13 i = (D i : Int)) → (∀ i, i < n → σ 14 i = (P i : Int)) → preA c t n D P → UA n D P U → Ok (d + h) Y2_arrives SX [vr 12, vr 5, vr r, vi n, vi U, vl (alW c t D P (n - 1) * aW c D P (n - 1)), vl (beW c t D P (n - 1) * bW t D P (n - 1))] σ (qi (ArQ c t w n D P σ))
theorem preL_ext {c t : Tb} {n : Nat} {D P D' P' : Nat → Nat} (h1 : ∀ i, i < n → D' i = D i) (h2 : ∀ i, i + 1 < n → P' i = P i) (h : preL c t n D P) : preL c t n D' P' := by
  obtain ⟨a, b, e, f, g⟩ := h
  refine ⟨fun i hi => by rw [h1 i hi]; exact a i hi, fun i j hi hj q => b i j hi hj (by rw [← h1 i hi, ← h1 j hj]; exact q), fun i hi hn => by rw [h1 0 (by omega), h1 i hn]; exact e i hi hn, fun i hi => by rw [h2 i hi, h1 i (by omega), h1 (i + 1) hi]; exact f i hi, fun i j hi hj q => g i j hi hj (by rw [← h2 i hi, ← h2 j hj]; exact q)⟩
theorem al_ex1 {c t : Tb} {n : Nat} {D P D' P' : Nat → Nat} (h1 : ∀ i, i ≤ n → D' i = D i) (h2 : ∀ i, i < n → P' i = P i) : alW c t D' P' n = alW c t D P n ∧ beW c t D' P' n = beW c t D P n :=
  ⟨pr_ext fun i hi => by unfold aW gW; rw [h1 i (by omega), h1 (i + 1) (by omega), h2 i hi], pr_ext fun i hi => by unfold bW hW; rw [h1 i (by omega), h1 (i + 1) (by omega), h2 i hi]⟩
theorem tb_or (U k j : Nat) : (U ||| 2 ^ k).testBit j = (U.testBit j || decide (j = k)) := by
  rw [Nat.testBit_or, Nat.testBit_two_pow]
  congr 1
  exact decide_eq_decide.2 ⟨fun h => h.symm, fun h => h.symm⟩
theorem ar_of {h n : Nat} (hn : 1 ≤ n) (hn4 : n < 4) (hL : LvS h (n + 1)) : ArS (h + 1) n := by
  intro d σ r c t w D P U hR hD hP hp hU
  refine Ok.ofWp (by decide) (Nat.le_of_ble_eq_true rfl) ?_
  have hc := hR.2.2.2.2.1
  have ht := hR.2.2.2.2.2.1
  have hz := hR.2.2.2.2.2.2.1
  have pn := hp.2.1
  have d0 := hp.1.1 0 (by omega)
  refine b2_arrives_0 _ _ _ _ _ ⟨by omega, by omega⟩ (fun _ => ?_) (fun q => absurd q (by omega))
  refine b2_arrives_7 _ _ _ _ _ ⟨by omega, by omega⟩ ?_
  rw [show ((n : Int) - 1).toNat = n - 1 by omega, hP (n - 1) (by omega), hD 0 (by omega)]
  have lp : ∀ k i : Nat, i + k = 4 → D 0 < i → ∀ τ : HP, FR σ τ → (∀ j, j < n → τ 13 j = (D j : Int)) → (∀ j, j < n → τ 14 j = (P j : Int)) → (∀ e, D 0 < e → e < i → t (4 * e + P (n - 1)) ≠ 0 → U.testBit e = false → noL c t w (n + 1) (setN D n e) P) →
      Wp (d + h + 1) Y2_arrives SX 27 [some (vr 12), some (vr 5), some (vr r), some (vi (n : Int)), some (vi (U : Int)), some (vl (alW c t D P (n - 1) * aW c D P (n - 1))), none, some (vl (beW c t D P (n - 1) * bW t D P (n - 1))), none, some (vi (P (n - 1) : Int)), some (vi (i : Int)), none, none, none, none, none] [] τ (qi (ArQ c t w n D P σ)) (fun _ _ _ _ => False) := by
    intro k
    induction k with
    | zero =>
      intro i hi h0 τ hf t13 t14 hno
      have e : i = 4 := by omega
      subst e
      refine b2_arrives_27 _ _ _ _ _ _ _ ⟨by omega, by omega⟩ (fun _ => b2_arrives_125 ⟨0, rfl, hf, Or.inr ⟨rfl, t13, t14, ?_⟩⟩) (fun q => absurd q (by omega))
      intro k' D' P' hk hg hpre
      obtain ⟨r1, r2, r3, r4, r5, r6⟩ := hg.1
      have dn : D' n < 4 := (r3 n (by omega)).1
      have gt : D 0 < D' n := by rw [← (hpre 0 (by omega)).1]; exact r6 n (by omega) (by omega)
      have hcan := (hg.2.1 (n - 1) (by omega)).2
      unfold le nxt at hcan
      rw [if_pos (by omega), (hpre (n - 1) (by omega)).2, show n - 1 + 1 = n by omega] at hcan
      have hu : U.testBit (D' n) = false := by
        cases hb : U.testBit (D' n) with
        | false => rfl
        | true =>
          obtain ⟨j, hj, ej⟩ := (hU.2.1 _ dn).1 hb
          have := r4 j n (by omega) (by omega) (by rw [(hpre j hj).1]; exact ej)
          omega
      refine hno (D' n) gt dn (by omega) hu k' D' P' hk hg (fun j hj => ?_) (fun j hj => (hpre j (by omega)).2)
      by_cases e : j = n
      · subst e; rw [setN_at]
      · rw [setN_ne e]; exact (hpre j (by omega)).1
    | succ k ih =>
      intro i hi h0 τ hf t13 t14 hno
      have hi4 : i < 4 := by omega
      have el : (((i : Int) * 4) + (P (n - 1) : Int)).toNat = 4 * i + P (n - 1) := by omega
      have hRt := hR.fr hf
      have tr : τ r = t := hRt.2.2.1
      have tl := ht (4 * i + P (n - 1)) (by omega)
      have cl := hc (4 * i + P (n - 1)) (by omega)
      have next : ∀ τ' : HP, FR σ τ' → (∀ j, j < n → τ' 13 j = (D j : Int)) → (∀ j, j < n → τ' 14 j = (P j : Int)) → (t (4 * i + P (n - 1)) ≠ 0 → U.testBit i = false → noL c t w (n + 1) (setN D n i) P) → Wp (d + h + 1) Y2_arrives SX 119 [some (vr 12), some (vr 5), some (vr r), some (vi (n : Int)), some (vi (U : Int)), some (vl (alW c t D P (n - 1) * aW c D P (n - 1))), none, some (vl (beW c t D P (n - 1) * bW t D P (n - 1))), none, some (vi (P (n - 1) : Int)), some (vi (i : Int)), none, none, none, none, none] [] τ' (qi (ArQ c t w n D P σ)) (fun _ _ _ _ => False) := by
        intro τ' hf' a b hh
        refine b2_arrives_119 _ _ _ _ _ _ _ (ih (i + 1) (by omega) (by omega) τ' hf' a b (fun e he hlt => ?_))
        by_cases q : e = i
        · subst q; exact hh
        · exact hno e he (by omega)
      refine b2_arrives_27 _ _ _ _ _ _ _ ⟨by omega, by omega⟩ (fun q => absurd q (by omega)) (fun _ => ?_)
      refine b2_arrives_33 _ _ _ _ _ _ _ hR.1 ⟨by omega, by omega⟩ (by rw [el, tr]; exact ⟨by omega, by omega⟩) (fun q => ?_) (fun q => ?_)
      · rw [el, tr] at q
        exact next τ hf t13 t14 (fun g => absurd q g)
      · rw [el, tr] at q
        refine b2_arrives_49 (d := d + h) _ _ _ _ _ _ _ _ (ok_isIn (a := U) (k := i) (by have := hU.1; omega) (by omega)) (fun z σ' hz' => ?_)
        obtain ⟨rfl, hz'⟩ := hz'
        cases hb : U.testBit i with
        | true =>
          rw [hb, if_pos rfl] at hz'
          subst hz'
          exact b2_arrives_56 _ _ _ _ _ _ _ _ _ ⟨by decide, by decide⟩ (fun g => absurd g (by decide)) (fun _ => b2_arrives_59 _ _ _ _ _ _ _ (next _ hf t13 t14 (fun _ g => by rw [hb] at g; cases g)))
        | false =>
          rw [hb, if_neg (by decide)] at hz'
          subst hz'
          refine b2_arrives_56 _ _ _ _ _ _ _ _ _ ⟨by decide, by decide⟩ (fun _ => ?_) (fun g => absurd rfl g)
          have fr2 : FR σ' (up σ' 13 n (i : Int)) := FR.u13
          have hR2 := hRt.fr fr2
          have u5 : up σ' 13 n (i : Int) 5 = c := hR2.2.1
          have ur : up σ' 13 n (i : Int) r = t := hR2.2.2.1
          have tz : 0 < t (4 * i + P (n - 1)) := by omega
          have eD : ∀ j, j < n → setN D n i j = D j := fun j hj => setN_ne (by omega)
          have dne : ∀ j, j < n → D j ≠ i := fun j hj e => by
            have := (hU.2.1 i hi4).2 ⟨j, hj, e⟩
            rw [hb] at this; cases this
          have hpL : preL c t (n + 1) (setN D n i) P := by
            have hh := preL_ext (P' := P) eD (fun _ _ => rfl) hp.1
            refine ⟨fun j hj => ?_, fun a b ha hb' hab => ?_, fun j hj hjn => ?_, fun j hj => ?_, fun a b ha hb' => preA_inj hp a b (by omega) (by omega)⟩
            · by_cases e : j = n
              · subst e; rw [setN_at]; exact hi4
              · exact hh.1 j (by omega)
            · by_cases ea : a = n <;> by_cases eb : b = n
              · omega
              · subst ea; rw [setN_at, setN_ne eb] at hab; exact absurd hab.symm (dne b (by omega))
              · subst eb; rw [setN_at, setN_ne ea] at hab; exact absurd hab (dne a (by omega))
              · exact hh.2.1 a b (by omega) (by omega) hab
            · rw [eD 0 (by omega)]
              by_cases e : j = n
              · subst e; rw [setN_at]; exact h0
              · rw [eD j (by omega)]; exact hp.1.2.2.1 j hj (by omega)
            · by_cases e : j + 1 = n
              · rw [e, setN_at, eD j (by omega), show j = n - 1 by omega]
                exact ⟨hp.2.1, hp.2.2.1, tz⟩
              · exact hh.2.2.2.1 j (by omega)
          have hUL : UL (n + 1) (setN D n i) P (U ||| 2 ^ i) := by
            have hp2 : 2 ^ i < 2 ^ 8 := Nat.pow_lt_pow_right (by decide) (by omega)
            refine ⟨Nat.or_lt_two_pow (n := 8) hU.1 hp2, fun e he => ?_, fun q hq => ?_⟩
            · rw [tb_or, Bool.or_eq_true, hU.2.1 e he, decide_eq_true_eq]
              constructor
              · rintro (⟨j, hj, ej⟩ | ej)
                · exact ⟨j, by omega, by rw [eD j hj]; exact ej⟩
                · exact ⟨n, by omega, by rw [setN_at]; exact ej.symm⟩
              · rintro ⟨j, hj, ej⟩
                by_cases e' : j = n
                · subst e'; rw [setN_at] at ej; exact Or.inr ej.symm
                · exact Or.inl ⟨j, by omega, by rw [← eD j (by omega)]; exact ej⟩
            · rw [tb_or, Bool.or_eq_true, hU.2.2 q hq, decide_eq_true_eq]
              constructor
              · rintro (⟨j, hj, ej⟩ | ej)
                · exact ⟨j, by omega, ej⟩
                · omega
              · rintro ⟨j, hj, ej⟩
                exact Or.inl ⟨j, by omega, ej⟩
          have eb : bO (U : Int) (bL 1 (i : Int)) = ((U ||| 2 ^ i : Nat) : Int) := by
            have hp2 : 2 ^ i < 2 ^ 8 := Nat.pow_lt_pow_right (by decide) (by omega)
            rw [show (1 : Int) = ((1 : Nat) : Int) from rfl, bL_N (by omega) (by omega), Nat.one_mul, bO_N (by have := hU.1; omega) (by omega)]
          obtain ⟨m, rfl⟩ : ∃ m, n = m + 1 := ⟨n - 1, by omega⟩
          simp only [Nat.add_sub_cancel] at *
          obtain ⟨ea, eb2⟩ := al_ex1 (c := c) (t := t) (n := m) (D := D) (D' := setN D (m + 1) i) (P := P) (P' := P) (fun j hj => eD j (by omega)) (fun _ _ => rfl)
          have e1 : alW c t (setN D (m + 1) i) P (m + 1) = alW c t D P m * aW c D P m * (2 * t (4 * i + P m) - 1) := by
            show pr (m + 1) _ = _
            simp only [pr]
            rw [show pr m (fun j => aW c (setN D (m + 1) i) P j * gW t (setN D (m + 1) i) P j) = alW c t D P m from ea, Int.mul_assoc]
            unfold aW gW
            rw [setN_at, eD m (by omega)]
          have e2 : beW c t (setN D (m + 1) i) P (m + 1) = beW c t D P m * bW t D P m * c (4 * i + P m) := by
            show pr (m + 1) _ = _
            simp only [pr]
            rw [show pr m (fun j => bW t (setN D (m + 1) i) P j * hW c (setN D (m + 1) i) P j) = beW c t D P m from eb2, Int.mul_assoc]
            unfold bW hW
            rw [setN_at, eD m (by omega)]
          refine b2_arrives_62 (d := d + h) _ _ _ _ _ _ _ _ ⟨by omega, by omega⟩ hR.1 ⟨by omega, by omega⟩ (by rw [el, Int.toNat_natCast, ur]; exact ⟨by omega, by omega⟩) (by rw [el, Int.toNat_natCast, u5]; exact ⟨by omega, by omega⟩) (P := LvQ c t w (m + 1 + 1) (setN D (m + 1) i) P (up σ' 13 (m + 1) (i : Int))) ?_ (fun z τ' hz'' => ?_)
          · rw [el, Int.toNat_natCast, u5, ur, eb, ← e1, ← e2]
            have := hL d (up σ' 13 (m + 1) (i : Int)) r c t w (setN D (m + 1) i) P (U ||| 2 ^ i) hR2 (fun j hj => ?_) (fun j hj => by rw [up_nr (by decide)]; exact t14 j (by omega)) hpL hUL
            · exact this
            · by_cases e : j = m + 1
              · subst e; rw [up_at, setN_at]
              · rw [up_nj e, setN_ne e]; exact t13 j (by omega)
          · obtain ⟨f1, hz''⟩ := hz''
            have f2 : FR σ τ' := hf.tr (fr2.tr f1)
            rcases hz'' with ⟨rfl, hfd⟩ | ⟨rfl, a, b, e⟩
            · exact b2_arrives_114 _ _ _ _ _ _ _ _ ⟨by decide, by decide⟩ (fun g => absurd g (by decide)) (fun _ => b2_arrives_117 ⟨1, rfl, f2, Or.inl ⟨rfl, hfd⟩⟩)
            · exact b2_arrives_114 _ _ _ _ _ _ _ _ ⟨by decide, by decide⟩ (fun _ => next τ' f2 (fun j hj => by rw [a j (by omega), setN_ne (by omega)]) (fun j hj => b j (by omega)) (fun _ _ => e)) (fun g => absurd rfl g)
  have := lp (3 - D 0) (D 0 + 1) (by omega) (by omega) σ FR.rf hD hP (fun e he hl => absurd hl (by omega))
  exact this
theorem lv_of {h n : Nat} (hn : 1 ≤ n) (hn4 : n ≤ 4) (hA : ArS (h + 1) n) : LvS (h + 2) n := by
  intro d σ r c t w D P U hR hD hP hp hU
  refine Ok.ofWp (by decide) (Nat.le_of_ble_eq_true rfl) ?_
  have hc := hR.2.2.2.2.1
  have ht := hR.2.2.2.2.2.1
  have dn := hp.1 (n - 1) (by omega)
  obtain ⟨q1, q2⟩ := pre_bd hc ht hR.2.2.2.2.2.2.1 hn hn4 hp
  refine b2_leaves_0 _ _ _ _ _ ⟨by omega, by omega⟩ ?_
  have en : ((n : Int) - 1).toNat = n - 1 := by omega
  rw [en, hD (n - 1) (by omega)]
  have lp : ∀ k i : Nat, i + k = 4 → ∀ τ : HP, FR σ τ → (∀ j, j < n → τ 13 j = (D j : Int)) → (∀ j, j + 1 < n → τ 14 j = (P j : Int)) → (∀ q, q < i → c (4 * D (n - 1) + q) ≠ 0 → U.testBit (4 + q) = false → ¬ goodR c t w n D (setN P (n - 1) q) ∧ noA c t w n D (setN P (n - 1) q)) →
      Wp (d + (h + 1) + 1) Y2_leaves SX 13 [some (vr 12), some (vr 5), some (vr r), some (vi (n : Int)), some (vi (U : Int)), some (vl (alW c t D P (n - 1))), none, some (vl (beW c t D P (n - 1))), none, some (vi (D (n - 1) : Int)), some (vi (i : Int)), none, none, none, none, none] [] τ (qi (LvQ c t w n D P σ)) (fun _ _ _ _ => False) := by
    intro k
    induction k with
    | zero =>
      intro i hi τ hf t13 t14 hno
      have e : i = 4 := by omega
      subst e
      refine b2_leaves_13 _ _ _ _ _ _ _ ⟨by omega, by omega⟩ (fun _ => b2_leaves_129 ⟨0, rfl, hf, Or.inr ⟨rfl, t13, t14, ?_⟩⟩) (fun q => absurd q (by omega))
      intro k' D' P' hk hg h1 h2
      obtain ⟨r1, r2, r3, r4, r5, r6⟩ := hg.1
      have pn : P' (n - 1) < 4 := (r3 (n - 1) (by omega)).2
      have hcan := (hg.2.1 (n - 1) (by omega)).1
      unfold mo at hcan
      rw [h1 (n - 1) (by omega)] at hcan
      have hu : U.testBit (4 + P' (n - 1)) = false := by
        cases hb : U.testBit (4 + P' (n - 1)) with
        | false => rfl
        | true =>
          obtain ⟨j, hj, ej⟩ := (hU.2.2 _ pn).1 hb
          have := r5 j (n - 1) (by omega) (by omega) (by rw [h2 j hj]; exact ej)
          omega
      have eP : ∀ j, j < n → P' j = setN P (n - 1) (P' (n - 1)) j := by
        intro j hj
        by_cases e : j = n - 1
        · subst e; rw [setN_at]
        · rw [setN_ne e]; exact h2 j (by omega)
      obtain ⟨n1, n2⟩ := hno (P' (n - 1)) pn (by omega) hu
      by_cases e : k' = n
      · subst e
        exact n1 (goodR_ext (fun j hj => ⟨(h1 j hj).symm, (eP j hj).symm⟩) hg)
      · exact n2 k' D' P' (by omega) hg (fun j hj => ⟨h1 j hj, eP j hj⟩)
    | succ k ih =>
      intro i hi τ hf t13 t14 hno
      have hi4 : i < 4 := by omega
      have el : (((D (n - 1) : Nat) : Int) * 4 + (i : Int)).toNat = 4 * D (n - 1) + i := by omega
      have hRt := hR.fr hf
      have t5 : τ 5 = c := hRt.2.1
      have tl := ht (4 * D (n - 1) + i) (by omega)
      have cl := hc (4 * D (n - 1) + i) (by omega)
      have next : ∀ τ' : HP, FR σ τ' → (∀ j, j < n → τ' 13 j = (D j : Int)) → (∀ j, j + 1 < n → τ' 14 j = (P j : Int)) → (c (4 * D (n - 1) + i) ≠ 0 → U.testBit (4 + i) = false → ¬ goodR c t w n D (setN P (n - 1) i) ∧ noA c t w n D (setN P (n - 1) i)) → Wp (d + (h + 1) + 1) Y2_leaves SX 123 [some (vr 12), some (vr 5), some (vr r), some (vi (n : Int)), some (vi (U : Int)), some (vl (alW c t D P (n - 1))), none, some (vl (beW c t D P (n - 1))), none, some (vi (D (n - 1) : Int)), some (vi (i : Int)), none, none, none, none, none] [] τ' (qi (LvQ c t w n D P σ)) (fun _ _ _ _ => False) := by
        intro τ' hf' a b hh
        refine b2_leaves_123 _ _ _ _ _ _ _ (ih (i + 1) (by omega) τ' hf' a b (fun e hlt => ?_))
        by_cases q : e = i
        · subst q; exact hh
        · exact hno e (by omega)
      refine b2_leaves_13 _ _ _ _ _ _ _ ⟨by omega, by omega⟩ (fun q => absurd q (by omega)) (fun _ => ?_)
      refine b2_leaves_19 _ _ _ _ _ _ _ ⟨by omega, by omega⟩ (by rw [el, t5]; exact ⟨by omega, by omega⟩) (fun q => ?_) (fun q => ?_)
      · rw [el, t5] at q
        exact next τ hf t13 t14 (fun g => absurd q g)
      · rw [el, t5] at q
        refine b2_leaves_35 (d := d + (h + 1)) _ _ _ _ _ _ _ _ (P := fun z σ' => σ' = τ ∧ z = if U.testBit (4 + i) then 1 else 0) (by rw [show (4 : Int) + (i : Int) = ((4 + i : Nat) : Int) by omega]; exact ok_isIn (a := U) (k := 4 + i) (by have := hU.1; omega) (by omega)) (fun z σ' hz' => ?_)
        obtain ⟨rfl, hz'⟩ := hz'
        cases hb : U.testBit (4 + i) with
        | true =>
          rw [hb, if_pos rfl] at hz'
          subst hz'
          exact b2_leaves_44 _ _ _ _ _ _ _ _ _ ⟨by decide, by decide⟩ (fun g => absurd g (by decide)) (fun _ => b2_leaves_47 _ _ _ _ _ _ _ (next _ hf t13 t14 (fun _ g => by rw [hb] at g; cases g)))
        | false =>
          rw [hb, if_neg (by decide)] at hz'
          subst hz'
          refine b2_leaves_44 _ _ _ _ _ _ _ _ _ ⟨by decide, by decide⟩ (fun _ => ?_) (fun g => absurd rfl g)
          have fr2 : FR σ' (up σ' 14 (n - 1) (i : Int)) := FR.u14
          have hR2 := hRt.fr fr2
          have u5 : up σ' 14 (n - 1) (i : Int) 5 = c := hR2.2.1
          have ur : up σ' 14 (n - 1) (i : Int) r = t := hR2.2.2.1
          have eP : ∀ j, j + 1 < n → setN P (n - 1) i j = P j := fun j hj => setN_ne (by omega)
          have pne : ∀ j, j + 1 < n → P j ≠ i := fun j hj e => by
            have := (hU.2.2 i hi4).2 ⟨j, hj, e⟩
            rw [hb] at this; cases this
          have hpA : preA c t n D (setN P (n - 1) i) := by
            refine ⟨preL_ext (fun _ _ => rfl) eP hp, by rw [setN_at]; exact hi4, by rw [setN_at]; omega, fun j hj => by rw [setN_at, eP j hj]; exact pne j hj⟩
          have hUA : UA n D (setN P (n - 1) i) (U ||| 2 ^ (4 + i)) := by
            have hp2 : 2 ^ (4 + i) < 2 ^ 8 := Nat.pow_lt_pow_right (by decide) (by omega)
            refine ⟨Nat.or_lt_two_pow (n := 8) hU.1 hp2, fun e he => ?_, fun q hq => ?_⟩
            · rw [tb_or, Bool.or_eq_true, hU.2.1 e he, decide_eq_true_eq]
              constructor
              · rintro (g | ej)
                · exact g
                · omega
              · exact fun g => Or.inl g
            · rw [tb_or, Bool.or_eq_true, hU.2.2 q hq, decide_eq_true_eq]
              constructor
              · rintro (⟨j, hj, ej⟩ | ej)
                · exact ⟨j, by omega, by rw [eP j hj]; exact ej⟩
                · exact ⟨n - 1, by omega, by rw [setN_at]; omega⟩
              · rintro ⟨j, hj, ej⟩
                by_cases e' : j = n - 1
                · subst e'; rw [setN_at] at ej; exact Or.inr (by omega)
                · exact Or.inl ⟨j, by omega, by rw [← eP j (by omega)]; exact ej⟩
          have eb : bO (U : Int) (bL 1 (4 + (i : Int))) = ((U ||| 2 ^ (4 + i) : Nat) : Int) := by
            have hp2 : 2 ^ (4 + i) < 2 ^ 8 := Nat.pow_lt_pow_right (by decide) (by omega)
            rw [show (4 : Int) + (i : Int) = ((4 + i : Nat) : Int) by omega, show (1 : Int) = ((1 : Nat) : Int) from rfl, bL_N (by omega) (by omega), Nat.one_mul, bO_N (by have := hU.1; omega) (by omega)]
          obtain ⟨ea, eb2⟩ := al_ex1 (c := c) (t := t) (n := n - 1) (D := D) (D' := D) (P := P) (P' := setN P (n - 1) i) (fun _ _ => rfl) (fun j hj => eP j (by omega))
          have e1 : alW c t D P (n - 1) * c (4 * D (n - 1) + i) = alW c t D (setN P (n - 1) i) (n - 1) * aW c D (setN P (n - 1) i) (n - 1) := by
            rw [ea]; unfold aW; rw [setN_at]
          have e2 : beW c t D P (n - 1) * (2 * t (4 * D (n - 1) + i) + 1) = beW c t D (setN P (n - 1) i) (n - 1) * bW t D (setN P (n - 1) i) (n - 1) := by
            rw [eb2]; unfold bW; rw [setN_at]
          have s13 : ∀ j, j < n → up σ' 14 (n - 1) (i : Int) 13 j = (D j : Int) := fun j hj => by rw [up_nr (by decide)]; exact t13 j hj
          have s14 : ∀ j, j < n → up σ' 14 (n - 1) (i : Int) 14 j = (setN P (n - 1) i j : Int) := fun j hj => by
            by_cases e : j = n - 1
            · subst e; rw [up_at, setN_at]
            · rw [up_nj e, setN_ne e]; exact t14 j (by omega)
          refine b2_leaves_50 (d := d + (h + 1)) _ _ _ _ _ _ _ _ ⟨by omega, by omega⟩ ⟨by omega, by omega⟩ (by rw [en, el, u5]; exact ⟨by omega, by omega⟩) hR.1 (by rw [en, el, ur]; exact ⟨by omega, by omega⟩)
            (P := fun z τ' => (z = 1 ∧ goodR c t w n D (setN P (n - 1) i) ∧ τ' = up (up σ' 14 (n - 1) (i : Int)) 12 2 n) ∨ (z = 0 ∧ ¬ goodR c t w n D (setN P (n - 1) i) ∧ (τ' = up σ' 14 (n - 1) (i : Int) ∨ τ' = up (up σ' 14 (n - 1) (i : Int)) 12 2 n))) ?_ (fun z τ' hz'' => ?_)
          · rw [en, el, u5, ur, e1, e2]
            exact ok_closes (d := d + h) hn hn4 hR2 s13 s14 hpA
          · rw [en, el, u5, ur, e1, e2]
            rcases hz'' with ⟨rfl, hg, rfl⟩ | ⟨rfl, hg, hτ⟩
            · refine b2_leaves_95 _ _ _ _ _ _ _ _ _ _ ⟨by decide, by decide⟩ (fun _ => b2_leaves_121 ⟨1, rfl, hf.tr (fr2.tr FR.u12), Or.inl ⟨rfl, n, D, setN P (n - 1) i, hg, up_at, fun j hj => ⟨?_, ?_⟩⟩⟩) (fun g => absurd g (by decide))
              · rw [up_nr (by decide)]; exact s13 j hj
              · rw [up_nr (by decide)]; exact s14 j hj
            · have fr3 : FR (up σ' 14 (n - 1) (i : Int)) τ' := by
                rcases hτ with rfl | rfl
                · exact FR.rf
                · exact FR.u12
              have v13 : ∀ j, j < n → τ' 13 j = (D j : Int) := by
                rcases hτ with rfl | rfl
                · exact s13
                · intro j hj; rw [up_nr (by decide)]; exact s13 j hj
              have v14 : ∀ j, j < n → τ' 14 j = (setN P (n - 1) i j : Int) := by
                rcases hτ with rfl | rfl
                · exact s14
                · intro j hj; rw [up_nr (by decide)]; exact s14 j hj
              refine b2_leaves_95 _ _ _ _ _ _ _ _ _ _ ⟨by decide, by decide⟩ (fun g => absurd rfl g) (fun _ => ?_)
              refine b2_leaves_98 (d := d + (h + 1)) _ _ _ _ _ _ _ _ _ (P := ArQ c t w n D (setN P (n - 1) i) τ') (by rw [eb]; exact hA d τ' r c t w D (setN P (n - 1) i) (U ||| 2 ^ (4 + i)) (hR2.fr fr3) v13 v14 hpA hUA) (fun z τ2 hz2 => ?_)
              obtain ⟨f1, hz2⟩ := hz2
              have f2 : FR σ τ2 := hf.tr (fr2.tr (fr3.tr f1))
              rcases hz2 with ⟨rfl, hfd⟩ | ⟨rfl, a, b, e⟩
              · exact b2_leaves_118 _ _ _ _ _ _ _ _ ⟨by decide, by decide⟩ (fun g => absurd g (by decide)) (fun _ => b2_leaves_121 ⟨1, rfl, f2, Or.inl ⟨rfl, hfd⟩⟩)
              · exact b2_leaves_118 _ _ _ _ _ _ _ _ ⟨by decide, by decide⟩ (fun _ => next τ2 f2 a (fun j hj => by rw [b j (by omega), setN_ne (by omega)]) (fun _ _ => ⟨hg, e⟩)) (fun g => absurd rfl g)
  exact lp 4 0 rfl σ FR.rf hD hP (fun e hl => absurd hl (by omega))
theorem ar_4 : ArS 1 4 := by
  intro d σ r c t w D P U hR hD hP hp hU
  refine Ok.ofWp (by decide) (Nat.le_of_ble_eq_true rfl) ?_
  refine b2_arrives_0 _ _ _ _ _ ⟨by omega, by omega⟩ (fun q => absurd q (by omega)) (fun _ => b2_arrives_5 ⟨0, rfl, FR.rf, Or.inr ⟨rfl, hD, hP, fun k' D' P' hk hg _ => by have := hg.1.2.1; omega⟩⟩)
theorem lv_1 : LvS 8 1 := lv_of (by decide) (by decide) (ar_of (by decide) (by decide) (lv_of (by decide) (by decide) (ar_of (by decide) (by decide) (lv_of (by decide) (by decide) (ar_of (by decide) (by decide) (lv_of (by decide) (by decide) ar_4))))))
section XH
variable {d : Nat} {σ : HP} {Q : MQt} {X : MXt}
def RH0 (σ : HP) (r : Nat) (c t : Tb) : Prop := SX[r]? = some (.inl (.inl 16)) ∧ σ 5 = c ∧ σ r = t ∧ (∀ l, l < 16 → 0 ≤ c l ∧ c l ≤ 500) ∧ (∀ l, l < 16 → 0 ≤ t l ∧ t l ≤ 20) ∧ ∀ l, l < 16 → 0 < t l → 0 < c l
theorem RH0.nr {r : Nat} {c t : Tb} (h : RH0 σ r c t) : r ≠ 12 ∧ r ≠ 13 ∧ r ≠ 14 := by
  have := h.1
  refine ⟨fun e => ?_, fun e => ?_, fun e => ?_⟩ <;> rw [e] at this <;> cases this
theorem ok_isFound {r : Nat} {c t : Tb} {w : Int} (hw : w = 0 ∨ w = 1 ∨ w = 2) (h : RH0 σ r c t) : Ok (d + 9) Y2_isFound SX [vr 12, vr 5, vr r, vi w] σ (qi fun z σ' => (∀ x, x ≠ 12 → x ≠ 13 → x ≠ 14 → σ' x = σ x) ∧ ((z = 1 ∧ fnd c t w σ') ∨ (z = 0 ∧ bestT c t w))) := by
  refine Ok.ofWp (by decide) (Nat.le_of_ble_eq_true rfl) ?_
  refine b2_isFound_0 _ _ ?_
  obtain ⟨n1, n2, n3⟩ := h.nr
  have hR : RH (up σ 12 3 w) r c t w := ⟨h.1, by rw [up_ne (by decide)]; exact h.2.1, by rw [up_ne n1]; exact h.2.2.1, up_at, h.2.2.2.1, h.2.2.2.2.1, h.2.2.2.2.2, hw⟩
  have keep : ∀ τ : HP, FR (up σ 12 3 w) τ → ∀ x, x ≠ 12 → x ≠ 13 → x ≠ 14 → τ x = σ x := fun τ hf x a b e => by rw [hf.1 x a b e, up_ne a]
  have lp : ∀ k i : Nat, i + k = 3 → ∀ τ : HP, FR (up σ 12 3 w) τ → (∀ k' D P, goodR c t w k' D P → ¬ D 0 < i) →
      Wp (d + 8 + 1) Y2_isFound SX 8 [some (vr 12), some (vr 5), some (vr r), none, some (vi (i : Int))] [] τ (qi fun z σ' => (∀ x, x ≠ 12 → x ≠ 13 → x ≠ 14 → σ' x = σ x) ∧ ((z = 1 ∧ fnd c t w σ') ∨ (z = 0 ∧ bestT c t w))) (fun _ _ _ _ => False) := by
    intro k
    induction k with
    | zero =>
      intro i hi τ hf hno
      have e : i = 3 := by omega
      subst e
      refine b2_isFound_8 _ _ ⟨by omega, by omega⟩ (fun _ => b2_isFound_46 ⟨0, rfl, keep τ hf, Or.inr ⟨rfl, fun k' D P hg => ?_⟩⟩) (fun q => absurd q (by omega))
      have h1 := hno k' D P hg
      obtain ⟨r1, r2, r3, r4, r5, r6⟩ := hg.1
      have := r6 1 (by omega) (by omega)
      have := (r3 1 (by omega)).1
      omega
    | succ k ih =>
      intro i hi τ hf hno
      refine b2_isFound_8 _ _ ⟨by omega, by omega⟩ (fun q => absurd q (by omega)) (fun _ => ?_)
      have fr2 : FR τ (up τ 13 0 (i : Int)) := FR.u13
      have hp : preL c t 1 (fun _ => i) (fun _ => 0) := ⟨fun _ _ => by show i < 4; omega, fun a b ha hb _ => by omega, fun a h1 h2 => by omega, fun a ha => by omega, fun a b ha => by omega⟩
      have hp2 : 2 ^ i < 2 ^ 4 := Nat.pow_lt_pow_right (by decide) (by omega)
      have hU : UL 1 (fun _ => i) (fun _ => 0) (2 ^ i) := by
        refine ⟨by omega, fun e he => ?_, fun q hq => ?_⟩
        · rw [Nat.testBit_two_pow, decide_eq_true_eq]
          exact ⟨fun g => ⟨0, by omega, g⟩, fun ⟨_, _, g⟩ => g⟩
        · rw [Nat.testBit_two_pow, decide_eq_true_eq]
          exact ⟨fun g => by omega, fun ⟨_, g, _⟩ => by omega⟩
      refine b2_isFound_14 (d := d + 8) _ _ (P := LvQ c t w 1 (fun _ => i) (fun _ => 0) (up τ 13 0 (i : Int))) ?_ (fun z τ' hz => ?_)
      · have eb : bL 1 (i : Int) = ((2 ^ i : Nat) : Int) := by
          rw [show (1 : Int) = ((1 : Nat) : Int) from rfl, bL_N (by omega) (by omega), Nat.one_mul]
        rw [eb]
        exact lv_1 d (up τ 13 0 (i : Int)) r c t w (fun _ => i) (fun _ => 0) (2 ^ i) ((hR.fr hf).fr fr2) (fun j hj => by rw [show j = 0 by omega, up_at]) (fun j hj => by omega) hp hU
      · obtain ⟨f1, hz⟩ := hz
        have f2 := hf.tr (fr2.tr f1)
        rcases hz with ⟨rfl, hfd⟩ | ⟨rfl, a, b, e⟩
        · exact b2_isFound_35 _ _ _ ⟨by decide, by decide⟩ (fun g => absurd g (by decide)) (fun _ => b2_isFound_38 ⟨1, rfl, keep τ' f2, Or.inl ⟨rfl, hfd⟩⟩)
        · refine b2_isFound_35 _ _ _ ⟨by decide, by decide⟩ (fun _ => b2_isFound_40 _ _ (ih (i + 1) (by omega) τ' f2 (fun k' D P hg hlt => ?_))) (fun g => absurd rfl g)
          by_cases q : D 0 < i
          · exact hno k' D P hg q
          · exact e k' D P (by have := hg.1.1; omega) hg (fun j hj => by rw [show j = 0 by omega]; show D 0 = i; omega) (fun j hj => by omega)
  exact lp 3 0 rfl _ FR.rf (fun _ _ _ _ g => by omega)
end XH
