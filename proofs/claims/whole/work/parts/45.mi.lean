/-! ===== the model: bettering, turning ===== -/
theorem turn_bf {w : Int} {L n : Nat} {D P : Nat → Nat} (t : Tb) (hR : isRing n D P) (h : turnR w L n D P) : before w L t (goN t n D P n) := by
  obtain ⟨a1, a2, a3⟩ := goN_val hR t n (Nat.le_refl n)
  refine ⟨fun j hj => a3 j fun i hi => ?_, ?_⟩
  · have := h.1 i hi
    exact ⟨by omega, by omega⟩
  · rcases h.2 with ⟨hw, i, hi, e⟩ | ⟨hw, i, hi, e⟩
    · left; have := a1 i hi; rw [e] at this; exact ⟨hw, by omega⟩
    · right; have := a2 i hi; rw [e] at this; exact ⟨hw, by omega⟩
section MI
variable {d : Nat} {ρ : HP} {Q : MQt} {X : MXt} {r n x : Nat} {D P : Nat → Nat} {sz sh : Tb}
theorem no_same {k : Nat} {c t : Tb} {A : Nat → (Nat → Nat) → (Nat → Nat) → Prop} (e7 : ρ 7 k = (r : Nat)) (hc : isCode r n D P) (hA : ∀ D' P', (∀ i, i < n → D' i = D i ∧ P' i = P i) → A n D' P' → A n D P) (hno : ¬ A n D P) : ∀ r' n' D' P', ρ 7 k = (r' : Nat) → isRing n' D' P' → isCode r' n' D' P' → ¬ A n' D' P' := by
  intro r' n' D' P' e7' hR' hc' ha
  have er : r' = r := by rw [e7] at e7'; omega
  subst er
  obtain ⟨en, eD⟩ := code_inj hc hc'
  subst en
  exact hno (hA D' P' eD ha)
theorem can_p {c t : Tb} {D' P' : Nat → Nat} (h : ∀ i, i < n → D' i = D i ∧ P' i = P i) : (canT c t n D' P' ↔ canT c t n D P) ∧ upR c t n D' P' n = upR c t n D P n ∧ dnR c t n D' P' n = dnR c t n D P n ∧ ∀ w L, turnR w L n D' P' ↔ turnR w L n D P := by
  have m1 : ∀ i, i < n → mo D' P' i = mo D P i := fun i hi => mo_ext h hi
  have m2 : ∀ i, i < n → le n D' P' i = le n D P i := fun i hi => le_ext h hi
  refine ⟨⟨fun g i hi => by rw [← m1 i hi, ← m2 i hi]; exact g i hi, fun g i hi => by rw [m1 i hi, m2 i hi]; exact g i hi⟩, pr_ext fun i hi => by rw [m1 i hi, m2 i hi], pr_ext fun i hi => by rw [m1 i hi, m2 i hi], fun w L => ?_⟩
  unfold turnR
  constructor
  · rintro ⟨g1, g2⟩
    refine ⟨fun i hi => by rw [← m1 i hi, ← m2 i hi]; exact g1 i hi, ?_⟩
    rcases g2 with ⟨hw, i, hi, e⟩ | ⟨hw, i, hi, e⟩
    · exact Or.inl ⟨hw, i, hi, by rw [← m1 i hi]; exact e⟩
    · exact Or.inr ⟨hw, i, hi, by rw [← m2 i hi]; exact e⟩
  · rintro ⟨g1, g2⟩
    refine ⟨fun i hi => by rw [m1 i hi, m2 i hi]; exact g1 i hi, ?_⟩
    rcases g2 with ⟨hw, i, hi, e⟩ | ⟨hw, i, hi, e⟩
    · exact Or.inl ⟨hw, i, hi, by rw [m1 i hi]; exact e⟩
    · exact Or.inr ⟨hw, i, hi, by rw [m2 i hi]; exact e⟩
theorem mok_better (hg : RG ρ) (hx : SM[x]? = some (.inl (.inl 16))) (x4 : x ≠ 4) (x7 : x ≠ 7) (h4 : ∀ l, l < 16 → 0 ≤ ρ 4 l ∧ ρ 4 l ≤ 500) (hf : fitT (ρ 4) sz sh (ρ x)) (hs : ∀ e, e < 4 → 0 ≤ sz e) (h20 : sz 0 + sz 1 + sz 2 + sz 3 ≤ 20) :
    Ok (d + 3) Y4_better SM [vr 0, vr x] ρ (qv fun ρ' => (∀ y, y ≠ x → ρ' y = ρ y) ∧ fitT (ρ 4) sz sh (ρ' x) ∧ obeyT (ρ 4) (ρ' x)) := by
  refine Ok.ofWp (by decide) (Nat.le_of_ble_eq_true rfl) ?_
  have x0 : x ≠ 0 := fun e => by rw [e] at hx; cases hx
  obtain ⟨μ, m1, m2⟩ := mu_ex (c := c16 (ρ 4)) (sz := sz) (sh := sh) 0 hs h20
  have e16 : ∀ l, l < 16 → c16 (ρ 4) l = ρ 4 l := fun l hl => c16_lt hl
  have s20 : ∀ e, e < 4 → sz e ≤ 20 := by
    have a := hs 0 (by omega)
    have b := hs 1 (by omega)
    have c := hs 2 (by omega)
    have f := hs 3 (by omega)
    intro e he
    rcases (show e = 0 ∨ e = 1 ∨ e = 2 ∨ e = 3 by omega) with rfl | rfl | rfl | rfl <;> omega
  have OL : ∀ m : Nat, ∀ τ : HP, (∀ y, y ≠ x → τ y = ρ y) → fitT (ρ 4) sz sh (τ x) → μ (τ x) ≤ m → Wp (d + 2 + 1) Y4_better SM 2 [some (vr 0), some (vr x), some (vi 1), none] [] τ (qv fun ρ' => (∀ y, y ≠ x → ρ' y = ρ y) ∧ fitT (ρ 4) sz sh (ρ' x) ∧ obeyT (ρ 4) (ρ' x)) (fun _ _ _ _ => False) := by
    intro m
    induction m with
    | zero =>
      intro τ t1 t2 t3
      refine b4_better_2 _ _ ⟨by decide, by decide⟩ (fun g => absurd g (by decide)) (fun _ => b4_better_6 _ ?_)
      have il : ∀ j k : Nat, k + j = 408 → (∀ i, i < k → ∀ r n D P, ρ 7 i = (r : Nat) → isRing n D P → isCode r n D P → ¬ (canT (ρ 4) (τ x) n D P ∧ dnR (ρ 4) (τ x) n D P n < upR (ρ 4) (τ x) n D P n)) → Wp (d + 2 + 1) Y4_better SM 10 [some (vr 0), some (vr x), some (vi 0), some (vi (k : Int))] [] τ (qv fun ρ' => (∀ y, y ≠ x → ρ' y = ρ y) ∧ fitT (ρ 4) sz sh (ρ' x) ∧ obeyT (ρ 4) (ρ' x)) (fun _ _ _ _ => False) := by
        intro j
        have e14 : τ 0 14 = 408 := by rw [t1 0 (Ne.symm x0)]; exact hg.1
        induction j with
        | zero =>
          intro k hk hno
          have e : k = 408 := by omega
          subst e
          refine b4_better_10 _ _ _ ⟨by omega, by omega⟩ (by rw [e14]; exact ⟨by decide, by decide⟩) (fun _ => ?_) (fun g => by rw [e14] at g; omega)
          refine b4_better_51 _ _ (b4_better_2 _ _ ⟨by decide, by decide⟩ (fun _ => b4_better_54 ⟨rfl, t1, t2, ?_⟩) (fun g => absurd rfl g))
          refine obey_all hg (fun i hi r n D P e hR hc hcan => ?_)
          have := hno i hi r n D P e hR hc
          by_cases q : upR (ρ 4) (τ x) n D P n ≤ dnR (ρ 4) (τ x) n D P n
          · exact q
          · exact absurd ⟨hcan, by omega⟩ this
        | succ j ihj =>
          intro k hk hno
          obtain ⟨r, n, D, P, e7, hR, hc⟩ := hg.2.1 k (by omega)
          have ek : (k : Int).toNat = k := Int.toNat_natCast k
          have u7 : τ 7 k = (r : Nat) := by rw [t1 7 (Ne.symm x7)]; exact e7
          have u4 : τ 4 = ρ 4 := t1 4 (Ne.symm x4)
          have hb : TBd τ x := ⟨hx, by rw [u4]; exact h4, fit_20 t2 s20⟩
          refine b4_better_10 _ _ _ ⟨by omega, by omega⟩ (by rw [e14]; exact ⟨by decide, by decide⟩) (fun g => by rw [e14] at g; omega) (fun _ => ?_)
          refine b4_better_18 (d := d + 2) _ _ _ ⟨by omega, by omega⟩ (P := fun z ρ' => ρ' = τ ∧ gainP (τ 4) (τ x) n D P z) (by rw [ek, u7]; exact mok_gain hR hc hb) (fun z τ1 hz => ?_)
          obtain ⟨rfl, hz⟩ := hz
          rw [u4] at hz
          have next : ¬ (canT (ρ 4) (τ1 x) n D P ∧ dnR (ρ 4) (τ1 x) n D P n < upR (ρ 4) (τ1 x) n D P n) → Wp (d + 2 + 1) Y4_better SM 45 [some (vr 0), some (vr x), some (vi 0), some (vi (k : Int))] [] τ1 (qv fun ρ' => (∀ y, y ≠ x → ρ' y = ρ y) ∧ fitT (ρ 4) sz sh (ρ' x) ∧ obeyT (ρ 4) (ρ' x)) (fun _ _ _ _ => False) := by
            intro hn1
            refine b4_better_45 _ _ _ (ihj (k + 1) (by omega) (fun i hi => ?_))
            by_cases e : i = k
            · subst e
              refine no_same (c := ρ 4) (t := τ1 x) (A := fun n D P => canT (ρ 4) (τ1 x) n D P ∧ dnR (ρ 4) (τ1 x) n D P n < upR (ρ 4) (τ1 x) n D P n) e7 hc (fun D' P' hD hA => ?_) hn1
              obtain ⟨c1, c2, c3, -⟩ := can_p (c := ρ 4) (t := τ1 x) hD
              exact ⟨c1.1 hA.1, by rw [← c2, ← c3]; exact hA.2⟩
            · exact hno i (by omega)
          rcases hz with ⟨rfl, hz⟩ | ⟨hcan, ⟨rfl, hz⟩ | ⟨rfl, hz⟩ | ⟨rfl, hz⟩⟩
          · exact b4_better_29 _ _ _ _ ⟨by decide, by decide⟩ (fun _ => next (fun q => hz q.1)) (fun g => absurd g (by decide))
          · exfalso
            have g := good_btr (c16_nn fun l hl => (h4 l hl).1) (fit_c e16 t2) (good_c (c' := c16 (ρ 4)) (t' := τ1 x) (w := 0) e16 (fun _ _ => rfl) ⟨hR, hcan, Or.inl hz⟩)
            have := m2 _ _ g.1 g.2
            omega
          · exact b4_better_29 _ _ _ _ ⟨by decide, by decide⟩ (fun _ => next (fun q => by have := q.2; omega)) (fun g => absurd g (by decide))
          · exact b4_better_29 _ _ _ _ ⟨by decide, by decide⟩ (fun _ => next (fun q => by have := q.2; omega)) (fun g => absurd g (by decide))
      exact il 408 0 rfl (fun i hi => by omega)
    | succ m ihm =>
      intro τ t1 t2 t3
      refine b4_better_2 _ _ ⟨by decide, by decide⟩ (fun g => absurd g (by decide)) (fun _ => b4_better_6 _ ?_)
      have il : ∀ j k : Nat, k + j = 408 → ∀ (τ : HP) (b : Int), (∀ y, y ≠ x → τ y = ρ y) → fitT (ρ 4) sz sh (τ x) → μ (τ x) ≤ m + 1 → ((b = 1 ∧ μ (τ x) ≤ m) ∨ (b = 0 ∧ ∀ i, i < k → ∀ r n D P, ρ 7 i = (r : Nat) → isRing n D P → isCode r n D P → ¬ (canT (ρ 4) (τ x) n D P ∧ dnR (ρ 4) (τ x) n D P n < upR (ρ 4) (τ x) n D P n))) → Wp (d + 2 + 1) Y4_better SM 10 [some (vr 0), some (vr x), some (vi b), some (vi (k : Int))] [] τ (qv fun ρ' => (∀ y, y ≠ x → ρ' y = ρ y) ∧ fitT (ρ 4) sz sh (ρ' x) ∧ obeyT (ρ 4) (ρ' x)) (fun _ _ _ _ => False) := by
        intro j
        induction j with
        | zero =>
          intro k hk τ b t1 t2 t3 hno
          have e14 : τ 0 14 = 408 := by rw [t1 0 (Ne.symm x0)]; exact hg.1
          have e : k = 408 := by omega
          subst e
          refine b4_better_10 _ _ _ ⟨by omega, by omega⟩ (by rw [e14]; exact ⟨by decide, by decide⟩) (fun _ => ?_) (fun g => by rw [e14] at g; omega)
          refine b4_better_51 _ _ ?_
          rcases hno with ⟨rfl, hmm⟩ | ⟨rfl, hno⟩
          · exact ihm τ t1 t2 hmm
          · refine b4_better_2 _ _ ⟨by decide, by decide⟩ (fun _ => b4_better_54 ⟨rfl, t1, t2, ?_⟩) (fun g => absurd rfl g)
            refine obey_all hg (fun i hi r n D P e hR hc hcan => ?_)
            have := hno i hi r n D P e hR hc
            by_cases q : upR (ρ 4) (τ x) n D P n ≤ dnR (ρ 4) (τ x) n D P n
            · exact q
            · exact absurd ⟨hcan, by omega⟩ this
        | succ j ihj =>
          intro k hk τ b t1 t2 t3 hno
          have e14 : τ 0 14 = 408 := by rw [t1 0 (Ne.symm x0)]; exact hg.1
          obtain ⟨r, n, D, P, e7, hR, hc⟩ := hg.2.1 k (by omega)
          have ek : (k : Int).toNat = k := Int.toNat_natCast k
          have u7 : τ 7 k = (r : Nat) := by rw [t1 7 (Ne.symm x7)]; exact e7
          have u4 : τ 4 = ρ 4 := t1 4 (Ne.symm x4)
          have hb : TBd τ x := ⟨hx, by rw [u4]; exact h4, fit_20 t2 s20⟩
          refine b4_better_10 _ _ _ ⟨by omega, by omega⟩ (by rw [e14]; exact ⟨by decide, by decide⟩) (fun g => by rw [e14] at g; omega) (fun _ => ?_)
          refine b4_better_18 (d := d + 2) _ _ _ ⟨by omega, by omega⟩ (P := fun z ρ' => ρ' = τ ∧ gainP (τ 4) (τ x) n D P z) (by rw [ek, u7]; exact mok_gain hR hc hb) (fun z τ1 hz => ?_)
          obtain ⟨rfl, hz⟩ := hz
          rw [u4] at hz
          have next : ¬ (canT (ρ 4) (τ1 x) n D P ∧ dnR (ρ 4) (τ1 x) n D P n < upR (ρ 4) (τ1 x) n D P n) → Wp (d + 2 + 1) Y4_better SM 45 [some (vr 0), some (vr x), some (vi b), some (vi (k : Int))] [] τ1 (qv fun ρ' => (∀ y, y ≠ x → ρ' y = ρ y) ∧ fitT (ρ 4) sz sh (ρ' x) ∧ obeyT (ρ 4) (ρ' x)) (fun _ _ _ _ => False) := by
            intro hn1
            refine b4_better_45 _ _ _ (ihj (k + 1) (by omega) τ1 b t1 t2 t3 ?_)
            rcases hno with hno | ⟨rfl, hno⟩
            · exact Or.inl hno
            · refine Or.inr ⟨rfl, fun i hi => ?_⟩
              by_cases e : i = k
              · subst e
                refine no_same (c := ρ 4) (t := τ1 x) (A := fun n D P => canT (ρ 4) (τ1 x) n D P ∧ dnR (ρ 4) (τ1 x) n D P n < upR (ρ 4) (τ1 x) n D P n) e7 hc (fun D' P' hD hA => ?_) hn1
                obtain ⟨c1, c2, c3, -⟩ := can_p (c := ρ 4) (t := τ1 x) hD
                exact ⟨c1.1 hA.1, by rw [← c2, ← c3]; exact hA.2⟩
              · exact hno i (by omega)
          rcases hz with ⟨rfl, hz⟩ | ⟨hcan, ⟨rfl, hz⟩ | ⟨rfl, hz⟩ | ⟨rfl, hz⟩⟩
          · exact b4_better_29 _ _ _ _ ⟨by decide, by decide⟩ (fun _ => next (fun q => hz q.1)) (fun g => absurd g (by decide))
          · refine b4_better_29 _ _ _ _ ⟨by decide, by decide⟩ (fun g => absurd g (by decide)) (fun _ => ?_)
            refine b4_better_32 (d := d + 2) _ _ ⟨by omega, by omega⟩ (P := fun ρ' => (∀ y, y ≠ x → ρ' y = τ1 y) ∧ ρ' x = goN (τ1 x) n D P n) (by rw [ek, u7]; exact mok_goAlong hx hR hc) (fun τ2 h2 => ?_)
            obtain ⟨v1, v2⟩ := h2
            have g := good_btr (c16_nn fun l hl => (h4 l hl).1) (fit_c e16 t2) (good_c (c' := c16 (ρ 4)) (t' := τ1 x) (w := 0) e16 (fun _ _ => rfl) ⟨hR, hcan, Or.inl hz⟩)
            have := m2 _ _ g.1 g.2
            refine b4_better_43 _ _ (b4_better_45 _ _ _ (ihj (k + 1) (by omega) τ2 1 (fun y hy => by rw [v1 y hy]; exact t1 y hy) (by rw [v2]; exact fit_c (fun l hl => (e16 l hl).symm) g.1) (by rw [v2]; omega) (Or.inl ⟨rfl, by rw [v2]; omega⟩)))
          · exact b4_better_29 _ _ _ _ ⟨by decide, by decide⟩ (fun _ => next (fun q => by have := q.2; omega)) (fun g => absurd g (by decide))
          · exact b4_better_29 _ _ _ _ ⟨by decide, by decide⟩ (fun _ => next (fun q => by have := q.2; omega)) (fun g => absurd g (by decide))
      exact il 408 0 rfl τ 0 t1 t2 t3 (Or.inr ⟨rfl, fun i hi => by omega⟩)
  exact b4_better_0 _ (OL (μ (ρ x)) ρ (fun _ _ => rfl) hf (Nat.le_refl _))
theorem mok_turnsFirst {L : Nat} {b : Int} (hL : L < 16) (hb : b = 0 ∨ b = 1) (hR : isRing n D P) (hc : isCode r n D P) : Ok (d + 2) Y4_turnsFirst SM [vi r, vi L, vi b] ρ (qi fun z ρ' => ρ' = ρ ∧ ((z = 1 ∧ turnR (if b = 0 then 2 else 1) L n D P) ∨ (z = 0 ∧ ¬ turnR (if b = 0 then 2 else 1) L n D P))) := by
  refine Ok.ofWp (by decide) (Nat.le_of_ble_eq_true rfl) ?_
  have n2 := hR.1
  have n4 := hR.2.1
  have lp : ∀ m i : Nat, i + m = n → (∀ j, j < i → L ≤ mo D P j ∧ L ≤ le n D P j) → ∀ v : Int, ((v = 1 ∧ ∃ j, j < i ∧ (if b = 0 then le n D P j else mo D P j) = L) ∨ (v = 0 ∧ ∀ j, j < i → (if b = 0 then le n D P j else mo D P j) ≠ L)) → Wp (d + 1 + 1) Y4_turnsFirst SM 5 [some (vi (r : Int)), some (vi (L : Int)), some (vi b), some (vi v), some (vi (i : Int))] [] ρ (qi fun z ρ' => ρ' = ρ ∧ ((z = 1 ∧ turnR (if b = 0 then 2 else 1) L n D P) ∨ (z = 0 ∧ ¬ turnR (if b = 0 then 2 else 1) L n D P))) (fun _ _ _ _ => False) := by
    intro m
    induction m with
    | zero =>
      intro i hi hall v hv
      have e : i = n := by omega
      subst e
      refine b4_turnsFirst_5 _ _ _ _ _ ⟨by omega, by omega⟩ (by rw [code_7 hc]; exact ⟨by omega, by omega⟩) (fun _ => b4_turnsFirst_75 _ (by rcases hv with ⟨q, -⟩ | ⟨q, -⟩ <;> simp [q]) ⟨v, rfl, rfl, ?_⟩) (fun g => by rw [code_7 hc] at g; omega)
      rcases hv with ⟨rfl, j, hj, e⟩ | ⟨rfl, hv⟩
      · left
        refine ⟨rfl, hall, ?_⟩
        rcases hb with rfl | rfl
        · rw [if_pos rfl] at e ⊢; exact Or.inr ⟨rfl, j, hj, e⟩
        · rw [if_neg (by decide)] at e ⊢; exact Or.inl ⟨rfl, j, hj, e⟩
      · right
        refine ⟨rfl, fun h => ?_⟩
        rcases hb with rfl | rfl
        · rcases h.2 with ⟨g, -⟩ | ⟨-, j, hj, e⟩
          · exact absurd g (by decide)
          · have := hv j hj; rw [if_pos rfl] at this; exact this e
        · rcases h.2 with ⟨-, j, hj, e⟩ | ⟨g, -⟩
          · have := hv j hj; rw [if_neg (by decide)] at this; exact this e
          · exact absurd g (by decide)
    | succ m ih =>
      intro i hi hall v hv
      have hin : i < n := by omega
      obtain ⟨q1, q2⟩ := ring_16 hR hin
      refine b4_turnsFirst_5 _ _ _ _ _ ⟨by omega, by omega⟩ (by rw [code_7 hc]; exact ⟨by omega, by omega⟩) (fun g => by rw [code_7 hc] at g; omega) (fun _ => ?_)
      have no : ¬ (L ≤ mo D P i ∧ L ≤ le n D P i) → Wp (d + 1 + 1) Y4_turnsFirst SM 34 [none, none, none, none, none] [] ρ (qi fun z ρ' => ρ' = ρ ∧ ((z = 1 ∧ turnR (if b = 0 then 2 else 1) L n D P) ∨ (z = 0 ∧ ¬ turnR (if b = 0 then 2 else 1) L n D P))) (fun _ _ _ _ => False) := fun g => b4_turnsFirst_34 ⟨0, rfl, rfl, Or.inr ⟨rfl, fun h => g (h.1 i hin)⟩⟩
      refine b4_turnsFirst_14 (d := d + 1) _ _ _ _ _ (mok_moreOf hc hin n4) (fun z ρ1 hz => ?_)
      obtain ⟨rfl, rfl⟩ := hz
      refine b4_turnsFirst_20 _ _ _ _ _ _ ⟨by omega, by omega⟩ ⟨by omega, by omega⟩ (fun g => no (fun h => by omega)) (fun g1 => ?_)
      refine b4_turnsFirst_24 (d := d + 1) _ _ _ _ _ (mok_lessOf hc hin n4) (fun z ρ1 hz => ?_)
      obtain ⟨rfl, rfl⟩ := hz
      refine b4_turnsFirst_30 _ _ _ _ _ _ ⟨by omega, by omega⟩ ⟨by omega, by omega⟩ (fun g2 => ?_) (fun g => no (fun h => by omega))
      have hall' : ∀ j, j < i + 1 → L ≤ mo D P j ∧ L ≤ le n D P j := fun j hj => by
        by_cases e : j = i
        · subst e; exact ⟨by omega, by omega⟩
        · exact hall j (by omega)
      have yes : (∃ j, j < i + 1 ∧ (if b = 0 then le n D P j else mo D P j) = L) → Wp (d + 1 + 1) Y4_turnsFirst SM 63 [some (vi (r : Int)), some (vi (L : Int)), some (vi b), none, some (vi (i : Int))] [] ρ1 (qi fun z ρ' => ρ' = ρ1 ∧ ((z = 1 ∧ turnR (if b = 0 then 2 else 1) L n D P) ∨ (z = 0 ∧ ¬ turnR (if b = 0 then 2 else 1) L n D P))) (fun _ _ _ _ => False) := fun g => b4_turnsFirst_63 _ _ _ _ (b4_turnsFirst_68 _ _ _ _ _ (ih (i + 1) (by omega) hall' 1 (Or.inl ⟨rfl, g⟩)))
      rcases hv with ⟨rfl, j, hj, e⟩ | ⟨rfl, hv⟩
      · exact b4_turnsFirst_36 _ _ _ _ _ ⟨by decide, by decide⟩ (fun _ => yes ⟨j, by omega, e⟩) (fun g => absurd g (by decide))
      · refine b4_turnsFirst_36 _ _ _ _ _ ⟨by decide, by decide⟩ (fun g => absurd rfl g) (fun _ => ?_)
        have fin : ∀ s : Nat, s < 16 → s = (if b = 0 then le n D P i else mo D P i) → Wp (d + 1 + 1) Y4_turnsFirst SM 59 [some (vi (r : Int)), some (vi (L : Int)), some (vi b), none, some (vi (i : Int))] [vi (s : Int)] ρ1 (qi fun z ρ' => ρ' = ρ1 ∧ ((z = 1 ∧ turnR (if b = 0 then 2 else 1) L n D P) ∨ (z = 0 ∧ ¬ turnR (if b = 0 then 2 else 1) L n D P))) (fun _ _ _ _ => False) := by
          intro s s16 es
          refine b4_turnsFirst_59 _ _ _ _ _ ⟨by omega, by omega⟩ ⟨by omega, by omega⟩ (fun g => b4_turnsFirst_67 _ _ _ _ (b4_turnsFirst_68 _ _ _ _ _ (ih (i + 1) (by omega) hall' 0 (Or.inr ⟨rfl, fun j hj => ?_⟩)))) (fun g => yes ⟨i, by omega, by rw [← es]; omega⟩)
          by_cases e : j = i
          · subst e; rw [← es]; omega
          · exact hv j (by omega)
        rcases hb with rfl | rfl
        · refine b4_turnsFirst_40 _ _ _ _ ⟨by decide, by decide⟩ (fun _ => ?_) (fun g => absurd rfl g)
          refine b4_turnsFirst_53 (d := d + 1) _ _ _ _ (mok_lessOf hc hin n4) (fun z ρ2 hz => ?_)
          obtain ⟨rfl, rfl⟩ := hz
          exact fin _ q2 (by rw [if_pos rfl])
        · refine b4_turnsFirst_40 _ _ _ _ ⟨by decide, by decide⟩ (fun g => absurd g (by decide)) (fun _ => ?_)
          refine b4_turnsFirst_44 (d := d + 1) _ _ _ _ (mok_moreOf hc hin n4) (fun z ρ2 hz => ?_)
          obtain ⟨rfl, rfl⟩ := hz
          exact b4_turnsFirst_50 _ _ _ _ _ (fin _ q1 (by rw [if_neg (by decide)]))
  exact b4_turnsFirst_0 _ _ _ (lp n 0 (by omega) (fun j hj => by omega) 0 (Or.inr ⟨rfl, fun j hj => by omega⟩))
end MI
