/-! ===== the model: rings ===== -/
section MH
variable {d : Nat} {ρ : HP} {Q : MQt} {X : MXt} {r n x : Nat} {D P : Nat → Nat}
theorem mok_homeOf {i : Nat} (hc : isCode r n D P) (hi : i < n) (h4 : n ≤ 4) : Ok d Y4_homeOf SM [vi r, vi i] ρ (qi fun z ρ' => ρ' = ρ ∧ z = D i) := by
  refine Ok.ofWp (by decide) (Nat.le_of_ble_eq_true rfl) ?_
  refine b4_homeOf_0 _ _ ⟨_, rfl, rfl, ?_⟩
  have h1 := hc.1
  have hd : r / 2 ^ (4 + 2 * i) ≤ r := Nat.div_le_self _ _
  rw [show (4 : Int) + 2 * (i : Int) = ((4 + 2 * i : Nat) : Int) by omega, bR_N (by omega) (by omega), bA_3 (by omega), (hc.2.2 i hi).1]
theorem mok_sideOf {i : Nat} (hc : isCode r n D P) (hi : i < n) (h4 : n ≤ 4) : Ok d Y4_sideOf SM [vi r, vi i] ρ (qi fun z ρ' => ρ' = ρ ∧ z = P i) := by
  refine Ok.ofWp (by decide) (Nat.le_of_ble_eq_true rfl) ?_
  refine b4_sideOf_0 _ _ ⟨_, rfl, rfl, ?_⟩
  have h1 := hc.1
  have hd : r / 2 ^ (12 + 2 * i) ≤ r := Nat.div_le_self _ _
  rw [show (12 : Int) + 2 * (i : Int) = ((12 + 2 * i : Nat) : Int) by omega, bR_N (by omega) (by omega), bA_3 (by omega), (hc.2.2 i hi).2]
theorem code_7 (hc : isCode r n D P) : bA (r : Int) 7 = (n : Int) := by
  rw [bA_7 (by have := hc.1; omega), hc.2.1]
theorem mok_moreOf {i : Nat} (hc : isCode r n D P) (hi : i < n) (h4 : n ≤ 4) : Ok (d + 1) Y4_moreOf SM [vi r, vi i] ρ (qi fun z ρ' => ρ' = ρ ∧ z = (mo D P i : Nat)) := by
  refine Ok.ofWp (by decide) (Nat.le_of_ble_eq_true rfl) ?_
  refine b4_moreOf_0 (d := d) _ _ (mok_homeOf hc hi h4) (fun z ρ1 hz => ?_)
  obtain ⟨rfl, rfl⟩ := hz
  refine b4_moreOf_6 (d := d) _ _ _ _ (mok_sideOf hc hi h4) (fun z ρ1 hz => ?_)
  obtain ⟨rfl, rfl⟩ := hz
  refine b4_moreOf_12 _ _ ⟨_, rfl, rfl, ?_⟩
  unfold mo; omega
theorem mok_lessOf {i : Nat} (hc : isCode r n D P) (hi : i < n) (h4 : n ≤ 4) : Ok (d + 1) Y4_lessOf SM [vi r, vi i] ρ (qi fun z ρ' => ρ' = ρ ∧ z = (le n D P i : Nat)) := by
  refine Ok.ofWp (by decide) (Nat.le_of_ble_eq_true rfl) ?_
  have hn : nxt n i < n := by unfold nxt; split <;> omega
  have en : ((i : Int) + 1) % (n : Int) = ((nxt n i : Nat) : Int) := by
    unfold nxt
    split
    · next q => rw [Int.emod_eq_of_lt (by omega) (by omega)]; rfl
    · next q => rw [show (i : Int) + 1 = (n : Int) by omega, Int.emod_self]; rfl
  refine b4_lessOf_0 (d := d) _ _ ⟨by omega, by omega⟩ (by rw [code_7 hc]; exact ⟨by omega, by omega⟩) (P := fun z ρ' => ρ' = ρ ∧ z = D (nxt n i)) (by rw [code_7 hc, en]; exact mok_homeOf hc hn h4) (fun z ρ1 hz => ?_)
  obtain ⟨rfl, rfl⟩ := hz
  refine b4_lessOf_13 (d := d) _ _ _ _ (mok_sideOf hc hi h4) (fun z ρ1 hz => ?_)
  obtain ⟨rfl, rfl⟩ := hz
  refine b4_lessOf_19 _ _ ⟨_, rfl, rfl, ?_⟩
  unfold le; omega
theorem pr_bd {f : Nat → Int} {m : Int} (hm : 0 ≤ m) : ∀ n, (∀ i, i < n → 0 ≤ f i ∧ f i ≤ m) → 0 ≤ pr n f ∧ pr n f ≤ pr n (fun _ => m)
  | 0, _ => ⟨by simp [pr], Int.le_refl _⟩
  | n + 1, h => by
    have ih := pr_bd hm n (fun i hi => h i (by omega))
    have hh := h n (by omega)
    simp only [pr]
    exact ⟨Int.mul_nonneg ih.1 hh.1, Int.mul_le_mul ih.2 hh.2 hh.1 (by omega)⟩
def gainP (c t : Tb) (n : Nat) (D P : Nat → Nat) (z : Int) : Prop := (z = -2 ∧ ¬ canT c t n D P) ∨ (canT c t n D P ∧ ((z = 1 ∧ dnR c t n D P n < upR c t n D P n) ∨ (z = -1 ∧ upR c t n D P n < dnR c t n D P n) ∨ (z = 0 ∧ upR c t n D P n = dnR c t n D P n)))
def TBd (ρ : HP) (x : Nat) : Prop := SM[x]? = some (.inl (.inl 16)) ∧ (∀ l, l < 16 → 0 ≤ ρ 4 l ∧ ρ 4 l ≤ 500) ∧ ∀ l, l < 16 → 0 ≤ ρ x l ∧ ρ x l ≤ 20
theorem mok_gain (hR : isRing n D P) (hc : isCode r n D P) (hb : TBd ρ x) : Ok (d + 2) Y4_gain SM [vr 0, vi r, vr x] ρ (qi fun z ρ' => ρ' = ρ ∧ gainP (ρ 4) (ρ x) n D P z) := by
  refine Ok.ofWp (by decide) (Nat.le_of_ble_eq_true rfl) ?_
  obtain ⟨hx, h4, ht⟩ := hb
  have n2 := hR.1
  have n4 := hR.2.1
  have lp : ∀ m i : Nat, i + m = n → (∀ j, j < i → 0 < ρ 4 (mo D P j) ∧ 0 < ρ x (le n D P j)) → Wp (d + 1 + 1) Y4_gain SM 8 [some (vr 0), some (vi (r : Int)), some (vr x), some (vl (upR (ρ 4) (ρ x) n D P i)), none, some (vl (dnR (ρ 4) (ρ x) n D P i)), none, some (vi (i : Int)), none, none] [] ρ (qi fun z ρ' => ρ' = ρ ∧ gainP (ρ 4) (ρ x) n D P z) (fun _ _ _ _ => False) := by
    intro m
    induction m with
    | zero =>
      intro i hi hcan
      have e : i = n := by omega
      subst e
      have hcan' : canT (ρ 4) (ρ x) i D P := hcan
      have b1 : 0 ≤ upR (ρ 4) (ρ x) i D P i ∧ upR (ρ 4) (ρ x) i D P i ≤ pr i (fun _ => 19500) := by
        refine pr_bd (by decide) i (fun j hj => ?_)
        obtain ⟨q1, q2⟩ := ring_16 hR hj
        have a := h4 _ q1
        have b := ht _ q2
        have c := (hcan j hj).2
        exact ⟨Int.mul_nonneg a.1 (by omega), Int.le_trans (Int.mul_le_mul a.2 (show _ ≤ (39 : Int) by omega) (by omega) (by omega)) (by decide)⟩
      have b2 : 0 ≤ dnR (ρ 4) (ρ x) i D P i ∧ dnR (ρ 4) (ρ x) i D P i ≤ pr i (fun _ => 20500) := by
        refine pr_bd (by decide) i (fun j hj => ?_)
        obtain ⟨q1, q2⟩ := ring_16 hR hj
        have a := h4 _ q2
        have b := ht _ q1
        exact ⟨Int.mul_nonneg a.1 (by omega), Int.le_trans (Int.mul_le_mul a.2 (show _ ≤ (41 : Int) by omega) (by omega) (by omega)) (by decide)⟩
      have b3 : pr i (fun _ => (19500 : Int)) ≤ 144590062500000000 ∧ pr i (fun _ => (20500 : Int)) ≤ 176610062500000000 := by
        rcases (show i = 2 ∨ i = 3 ∨ i = 4 by omega) with rfl | rfl | rfl <;> simp [pr]
      have i1 : in64 (upR (ρ 4) (ρ x) i D P i) := ⟨by omega, by omega⟩
      have i2 : in64 (dnR (ρ 4) (ρ x) i D P i) := ⟨by omega, by omega⟩
      refine b4_gain_8 _ _ _ _ _ ⟨by omega, by omega⟩ (by rw [code_7 hc]; exact ⟨by omega, by omega⟩) (fun _ => ?_) (fun g => by rw [code_7 hc] at g; omega)
      refine b4_gain_103 _ _ i1 i2 (fun g => ?_) (fun g => b4_gain_110 (b4_gain_126 _ ⟨1, rfl, rfl, Or.inr ⟨hcan', Or.inl ⟨rfl, g⟩⟩⟩))
      refine b4_gain_114 _ _ i1 i2 (fun g2 => b4_gain_125 (b4_gain_126 _ ⟨0, rfl, rfl, Or.inr ⟨hcan', Or.inr (Or.inr ⟨rfl, by omega⟩)⟩⟩)) (fun g2 => b4_gain_121 (b4_gain_126 _ ⟨-1, rfl, rfl, Or.inr ⟨hcan', Or.inr (Or.inl ⟨rfl, g2⟩)⟩⟩))
    | succ m ih =>
      intro i hi hcan
      have hin : i < n := by omega
      obtain ⟨q1, q2⟩ := ring_16 hR hin
      have e1 : ((mo D P i : Nat) : Int).toNat = mo D P i := Int.toNat_natCast _
      have e2 : ((le n D P i : Nat) : Int).toNat = le n D P i := Int.toNat_natCast _
      have a1 := h4 _ q1
      have a2 := h4 _ q2
      have t1 := ht _ q1
      have t2 := ht _ q2
      refine b4_gain_8 _ _ _ _ _ ⟨by omega, by omega⟩ (by rw [code_7 hc]; exact ⟨by omega, by omega⟩) (fun g => by rw [code_7 hc] at g; omega) (fun _ => ?_)
      refine b4_gain_17 (d := d + 1) _ _ _ _ _ (mok_moreOf hc hin n4) (fun z ρ1 hz => ?_)
      obtain ⟨rfl, rfl⟩ := hz
      refine b4_gain_23 (d := d + 1) _ _ _ _ _ _ (mok_lessOf hc hin n4) (fun z ρ2 hz => ?_)
      obtain ⟨rfl, rfl⟩ := hz
      refine b4_gain_31 _ _ _ _ _ _ _ ⟨by omega, by omega⟩ (by rw [e1]; exact ⟨by omega, by omega⟩) (fun g => ?_) (fun g => ?_)
      · rw [e1] at g
        exact b4_gain_50 ⟨-2, rfl, rfl, Or.inl ⟨rfl, fun hh => by have := (hh i hin).1; omega⟩⟩
      · rw [e1] at g
        refine b4_gain_43 _ _ _ _ _ _ _ hx ⟨by omega, by omega⟩ (by rw [e2]; exact ⟨by omega, by omega⟩) (fun g2 => ?_) (fun g2 => ?_)
        · rw [e2] at g2
          refine b4_gain_53 _ _ _ _ _ _ _ ⟨by omega, by omega⟩ (by rw [e1]; exact ⟨by omega, by omega⟩) hx ⟨by omega, by omega⟩ (by rw [e2]; exact ⟨by omega, by omega⟩) (by rw [e2]; exact ⟨by omega, by omega⟩) (by rw [e1]; exact ⟨by omega, by omega⟩) ?_
          rw [e1, e2, Int.mul_assoc, Int.mul_assoc]
          refine ih (i + 1) (by omega) (fun j hj => ?_)
          by_cases e : j = i
          · subst e; exact ⟨by omega, by omega⟩
          · exact hcan j (by omega)
        · rw [e2] at g2
          exact b4_gain_50 ⟨-2, rfl, rfl, Or.inl ⟨rfl, fun hh => by have := (hh i hin).2; omega⟩⟩
  exact b4_gain_0 _ _ (lp n 0 (by omega) (fun j hj => by omega))
theorem mok_goAlong (hx : SM[x]? = some (.inl (.inl 16))) (hR : isRing n D P) (hc : isCode r n D P) : Ok (d + 2) Y4_goAlong SM [vr 0, vi r, vr x] ρ (qv fun ρ' => (∀ y, y ≠ x → ρ' y = ρ y) ∧ ρ' x = goN (ρ x) n D P n) := by
  refine Ok.ofWp (by decide) (Nat.le_of_ble_eq_true rfl) ?_
  have n2 := hR.1
  have n4 := hR.2.1
  have lp : ∀ m i : Nat, i + m = n → ∀ τ : HP, (∀ y, y ≠ x → τ y = ρ y) → τ x = goN (ρ x) n D P i → Wp (d + 1 + 1) Y4_goAlong SM 2 [none, some (vi (r : Int)), some (vr x), some (vi (i : Int))] [] τ (qv fun ρ' => (∀ y, y ≠ x → ρ' y = ρ y) ∧ ρ' x = goN (ρ x) n D P n) (fun _ _ _ _ => False) := by
    intro m
    induction m with
    | zero =>
      intro i hi τ h1 h2
      have e : i = n := by omega
      subst e
      exact b4_goAlong_2 _ _ _ ⟨by omega, by omega⟩ (by rw [code_7 hc]; exact ⟨by omega, by omega⟩) (fun _ => b4_goAlong_38 ⟨rfl, h1, h2⟩) (fun g => by rw [code_7 hc] at g; omega)
    | succ m ih =>
      intro i hi τ h1 h2
      have hin : i < n := by omega
      obtain ⟨q1, q2⟩ := ring_16 hR hin
      have e1 : ((mo D P i : Nat) : Int).toNat = mo D P i := Int.toNat_natCast _
      have e2 : ((le n D P i : Nat) : Int).toNat = le n D P i := Int.toNat_natCast _
      refine b4_goAlong_2 _ _ _ ⟨by omega, by omega⟩ (by rw [code_7 hc]; exact ⟨by omega, by omega⟩) (fun g => by rw [code_7 hc] at g; omega) (fun _ => ?_)
      refine b4_goAlong_10 (d := d + 1) _ _ _ (mok_moreOf hc hin n4) (fun z τ1 hz => ?_)
      obtain ⟨rfl, rfl⟩ := hz
      refine b4_goAlong_16 (d := d + 1) _ _ _ _ _ hx ⟨by omega, by omega⟩ (mok_lessOf hc hin n4) (fun z τ2 hz => ?_)
      obtain ⟨rfl, rfl⟩ := hz
      refine b4_goAlong_27 _ _ _ _ _ hx ⟨by omega, by omega⟩ ?_
      rw [e1, e2]
      refine ih (i + 1) (by omega) _ (fun y hy => by rw [up_ne hy, up_ne hy]; exact h1 y hy) ?_
      show _ = inc (inc (goN (ρ x) n D P i) (mo D P i) 1) (le n D P i) (-1)
      rw [← h2, ← up_inc (σ := τ1), ← up_inc (z := -1)]
      rfl
  exact b4_goAlong_0 _ _ (lp n 0 (by omega) ρ (fun _ _ => rfl) rfl)
theorem code_inj {n' : Nat} {D' P' : Nat → Nat} (h1 : isCode r n D P) (h2 : isCode r n' D' P') : n' = n ∧ ∀ i, i < n → D' i = D i ∧ P' i = P i := by
  have e : n' = n := by rw [← h2.2.1, h1.2.1]
  subst e
  refine ⟨rfl, fun i hi => ?_⟩
  have a := h1.2.2 i hi
  have b := h2.2.2 i hi
  omega
theorem obey_all {c t : Tb} (hg : RG ρ) (h : ∀ k, k < 408 → ∀ r n D P, ρ 7 k = (r : Nat) → isRing n D P → isCode r n D P → canT c t n D P → upR c t n D P n ≤ dnR c t n D P n) : obeyT c t := by
  intro n D P hR hc
  obtain ⟨k, r, hk, e, hcd⟩ := hg.2.2 n D P hR
  exact h k hk r n D P e hR hcd hc
theorem mok_obeys (hg : RG ρ) (hb : TBd ρ x) : Ok (d + 3) Y4_obeys SM [vr 0, vr x] ρ (qi fun z ρ' => ρ' = ρ ∧ ((z = 1 ∧ obeyT (ρ 4) (ρ x)) ∨ (z = 0 ∧ ¬ obeyT (ρ 4) (ρ x)))) := by
  refine Ok.ofWp (by decide) (Nat.le_of_ble_eq_true rfl) ?_
  have h14 := hg.1
  have lp : ∀ m k : Nat, k + m = 408 → (∀ j, j < k → ∀ r n D P, ρ 7 j = (r : Nat) → isRing n D P → isCode r n D P → canT (ρ 4) (ρ x) n D P → upR (ρ 4) (ρ x) n D P n ≤ dnR (ρ 4) (ρ x) n D P n) → Wp (d + 2 + 1) Y4_obeys SM 4 [some (vr 0), some (vr x), some (vi 1), some (vi (k : Int))] [] ρ (qi fun z ρ' => ρ' = ρ ∧ ((z = 1 ∧ obeyT (ρ 4) (ρ x)) ∨ (z = 0 ∧ ¬ obeyT (ρ 4) (ρ x)))) (fun _ _ _ _ => False) := by
    intro m
    induction m with
    | zero =>
      intro k hk hall
      have e : k = 408 := by omega
      subst e
      exact b4_obeys_4 _ _ _ ⟨by omega, by omega⟩ (by rw [h14]; exact ⟨by decide, by decide⟩) (fun _ => b4_obeys_43 _ (Or.inr rfl) ⟨1, rfl, rfl, Or.inl ⟨rfl, obey_all hg hall⟩⟩) (fun g => by rw [h14] at g; omega)
    | succ m ih =>
      intro k hk hall
      obtain ⟨r, n, D, P, e7, hR, hc⟩ := hg.2.1 k (by omega)
      have ek : (k : Int).toNat = k := Int.toNat_natCast k
      refine b4_obeys_4 _ _ _ ⟨by omega, by omega⟩ (by rw [h14]; exact ⟨by decide, by decide⟩) (fun g => by rw [h14] at g; omega) (fun _ => ?_)
      refine b4_obeys_12 _ _ _ ⟨by decide, by decide⟩ (fun g => absurd g (by decide)) (fun _ => ?_)
      refine b4_obeys_16 (d := d + 2) _ _ ⟨by omega, by omega⟩ (P := fun z ρ' => ρ' = ρ ∧ gainP (ρ 4) (ρ x) n D P z) (by rw [ek, e7]; exact mok_gain hR hc hb) (fun z ρ1 hz => ?_)
      obtain ⟨rfl, hz⟩ := hz
      have next : ¬ (canT (ρ1 4) (ρ1 x) n D P ∧ dnR (ρ1 4) (ρ1 x) n D P n < upR (ρ1 4) (ρ1 x) n D P n) → Wp (d + 2 + 1) Y4_obeys SM 31 [some (vr 0), some (vr x), none, some (vi (k : Int))] [] ρ1 (qi fun z ρ' => ρ' = ρ1 ∧ ((z = 1 ∧ obeyT (ρ1 4) (ρ1 x)) ∨ (z = 0 ∧ ¬ obeyT (ρ1 4) (ρ1 x)))) (fun _ _ _ _ => False) := by
        intro hno
        refine b4_obeys_31 _ _ (b4_obeys_36 _ _ _ (ih (k + 1) (by omega) (fun j hj => ?_)))
        by_cases e : j = k
        · subst e
          intro r' n' D' P' e7' hR' hc' hcan
          have er : r' = r := by rw [e7] at e7'; omega
          subst er
          obtain ⟨en, eD⟩ := code_inj hc hc'
          subst en
          have m1 : ∀ i, i < n' → mo D' P' i = mo D P i := fun i hi => by unfold mo; rw [(eD i hi).1, (eD i hi).2]
          have m2 : ∀ i, i < n' → le n' D' P' i = le n' D P i := fun i hi => by
            have : nxt n' i < n' := by unfold nxt; split <;> omega
            unfold le; rw [(eD _ this).1, (eD i hi).2]
          have c1 : canT (ρ1 4) (ρ1 x) n' D P := fun i hi => by rw [← m1 i hi, ← m2 i hi]; exact hcan i hi
          have u1 : upR (ρ1 4) (ρ1 x) n' D' P' n' = upR (ρ1 4) (ρ1 x) n' D P n' := pr_ext fun i hi => by rw [m1 i hi, m2 i hi]
          have u2 : dnR (ρ1 4) (ρ1 x) n' D' P' n' = dnR (ρ1 4) (ρ1 x) n' D P n' := pr_ext fun i hi => by rw [m1 i hi, m2 i hi]
          rw [u1, u2]
          by_cases q : upR (ρ1 4) (ρ1 x) n' D P n' ≤ dnR (ρ1 4) (ρ1 x) n' D P n'
          · exact q
          · exact absurd ⟨c1, by omega⟩ hno
        · exact hall j (by omega)
      rcases hz with ⟨rfl, hz⟩ | ⟨hcan, ⟨rfl, hz⟩ | ⟨rfl, hz⟩ | ⟨rfl, hz⟩⟩
      · exact b4_obeys_27 _ _ _ ⟨by decide, by decide⟩ (fun g => absurd g (by decide)) (fun _ => next (fun q => hz q.1))
      · refine b4_obeys_27 _ _ _ ⟨by decide, by decide⟩ (fun _ => ?_) (fun g => absurd g (by decide))
        have hno : ¬ obeyT (ρ1 4) (ρ1 x) := fun ho => by have := ho n D P hR hcan; omega
        refine b4_obeys_35 _ _ (b4_obeys_36 _ _ _ ?_)
        have fin : Wp (d + 2 + 1) Y4_obeys SM 43 [none, none, some (vi 0), none] [] ρ1 (qi fun z ρ' => ρ' = ρ1 ∧ ((z = 1 ∧ obeyT (ρ1 4) (ρ1 x)) ∨ (z = 0 ∧ ¬ obeyT (ρ1 4) (ρ1 x)))) (fun _ _ _ _ => False) := b4_obeys_43 _ (Or.inl rfl) ⟨0, rfl, rfl, Or.inr ⟨rfl, hno⟩⟩
        exact b4_obeys_4 _ _ _ ⟨by omega, by omega⟩ (by rw [h14]; exact ⟨by decide, by decide⟩) (fun _ => fin) (fun _ => b4_obeys_12 _ _ _ ⟨by decide, by decide⟩ (fun _ => fin) (fun g => absurd rfl g))
      · exact b4_obeys_27 _ _ _ ⟨by decide, by decide⟩ (fun g => absurd g (by decide)) (fun _ => next (fun q => by have := q.2; omega))
      · exact b4_obeys_27 _ _ _ ⟨by decide, by decide⟩ (fun g => absurd g (by decide)) (fun _ => next (fun q => by have := q.2; omega))
  exact b4_obeys_0 _ (lp 408 0 rfl (fun j hj => by omega))
end MH
