/-! ===== mathematics: better and worse tables ===== -/
def obeyT (c t : Tb) : Prop := ∀ k D P, isRing k D P → canT c t k D P → upR c t k D P k ≤ dnR c t k D P k
def ltP (c t u : Tb) : Prop := NN c t * MM u < NN c u * MM t
def leP (c t u : Tb) : Prop := NN c t * MM u ≤ NN c u * MM t
theorem fit_pos {c sz sh t : Tb} (hc : ∀ l, 0 ≤ c l) (ht : fitT c sz sh t) : 0 < NN c t := NN_pos fun l hl => by
  rcases Int.lt_or_eq_of_le (hc l) with h | h
  · exact Or.inl h
  · exact Or.inr (ht.2.1 l hl h.symm)
theorem can_pos {c sz sh t : Tb} {k : Nat} {D P : Nat → Nat} (hc : ∀ l, 0 ≤ c l) (ht : fitT c sz sh t) (h : isRing k D P) (hr : canT c t k D P) : 0 < upR c t k D P k ∧ 0 < dnR c t k D P k := by
  refine ⟨pr_pos fun i hi => Int.mul_pos (hr i hi).1 (by have := (hr i hi).2; omega), pr_pos fun i hi => Int.mul_pos ?_ (by have := ht.1 _ (mo_lt h hi); omega)⟩
  rcases Int.lt_or_eq_of_le (hc (le k D P i)) with q | q
  · exact q
  · have h1 := ht.2.1 _ (le_lt h hi) q.symm
    have h2 := (hr i hi).2
    omega
theorem x_lt {a b x y : Int} (h : a * x = b * y) (hx : 0 < x) (hb : 0 < b) (hxy : x < y) : b < a := by
  apply Classical.byContradiction
  intro hn
  have h1 : a * x ≤ b * x := Int.mul_le_mul_of_nonneg_right (by omega) (by omega)
  have h2 : b * x < b * y := Int.mul_lt_mul_of_pos_left hxy hb
  omega
theorem x_le {a b x y : Int} (h : a * x = b * y) (hx : 0 < x) (hb : 0 < b) (hxy : x ≤ y) : b ≤ a := by
  apply Classical.byContradiction
  intro hn
  have h1 : a * x < b * x := Int.mul_lt_mul_of_pos_right (by omega) hx
  have h2 : b * x ≤ b * y := Int.mul_le_mul_of_nonneg_left hxy (by omega)
  omega
theorem x_eq {a b x : Int} (h : a * x = b * x) (hx : 0 < x) : a = b := Int.eq_of_mul_eq_mul_right (by omega) h
theorem t_le {a1 b1 a2 b2 a3 b3 : Int} (h1 : a1 * b2 ≤ a2 * b1) (h2 : a2 * b3 ≤ a3 * b2) (p1 : 0 < b1) (p2 : 0 < b2) (p3 : 0 < b3) : a1 * b3 ≤ a3 * b1 := by
  have e1 : a1 * b2 * b3 ≤ a2 * b1 * b3 := Int.mul_le_mul_of_nonneg_right h1 (by omega)
  have e2 : a2 * b3 * b1 ≤ a3 * b2 * b1 := Int.mul_le_mul_of_nonneg_right h2 (by omega)
  have e3 : a1 * b3 * b2 = a1 * b2 * b3 := by grind
  have e4 : a3 * b1 * b2 = a3 * b2 * b1 := by grind
  have e5 : a2 * b1 * b3 = a2 * b3 * b1 := by grind
  exact Int.le_of_mul_le_mul_right (show a1 * b3 * b2 ≤ a3 * b1 * b2 by omega) p2
theorem t_lt {a1 b1 a2 b2 a3 b3 : Int} (h1 : a1 * b2 ≤ a2 * b1) (h2 : a2 * b3 ≤ a3 * b2) (h : a1 * b2 < a2 * b1 ∨ a2 * b3 < a3 * b2) (p1 : 0 < b1) (p2 : 0 < b2) (p3 : 0 < b3) : a1 * b3 < a3 * b1 := by
  have e1 : a1 * b2 * b3 ≤ a2 * b1 * b3 := Int.mul_le_mul_of_nonneg_right h1 (by omega)
  have e2 : a2 * b3 * b1 ≤ a3 * b2 * b1 := Int.mul_le_mul_of_nonneg_right h2 (by omega)
  have e3 : a1 * b3 * b2 = a1 * b2 * b3 := by grind
  have e4 : a3 * b1 * b2 = a3 * b2 * b1 := by grind
  have e5 : a2 * b1 * b3 = a2 * b3 * b1 := by grind
  have e6 : a1 * b3 * b2 < a3 * b1 * b2 := by
    rcases h with h | h
    · have := Int.mul_lt_mul_of_pos_right h p3; omega
    · have := Int.mul_lt_mul_of_pos_right h p1; omega
  exact Int.lt_of_mul_lt_mul_right e6 (by omega)
theorem leP.tr {c t u v : Tb} (h1 : leP c t u) (h2 : leP c u v) : leP c t v := t_le h1 h2 (MM_pos t) (MM_pos u) (MM_pos v)
theorem go_lt {c sz sh t : Tb} {k : Nat} {D P : Nat → Nat} (hc : ∀ l, 0 ≤ c l) (ht : fitT c sz sh t) (h : isRing k D P) (hr : canT c t k D P) (hg : dnR c t k D P k < upR c t k D P k) : ltP c t (goN t k D P k) := by
  have q := can_pos hc ht h hr
  exact x_lt (go_gain h ht.1 hr) q.2 (Int.mul_pos (fit_pos hc ht) (MM_pos _)) hg
theorem go_le {c sz sh t : Tb} {k : Nat} {D P : Nat → Nat} (hc : ∀ l, 0 ≤ c l) (ht : fitT c sz sh t) (h : isRing k D P) (hr : canT c t k D P) (hg : dnR c t k D P k ≤ upR c t k D P k) : leP c t (goN t k D P k) := by
  have q := can_pos hc ht h hr
  exact x_le (go_gain h ht.1 hr) q.2 (Int.mul_pos (fit_pos hc ht) (MM_pos _)) hg
theorem go_eq {c sz sh t : Tb} {k : Nat} {D P : Nat → Nat} (hc : ∀ l, 0 ≤ c l) (ht : fitT c sz sh t) (h : isRing k D P) (hr : canT c t k D P) (hg : upR c t k D P k = dnR c t k D P k) : NN c t * MM (goN t k D P k) = NN c (goN t k D P k) * MM t := by
  have q := can_pos hc ht h hr
  have e := go_gain h ht.1 hr
  rw [hg] at e
  exact (x_eq e q.2).symm
def dist (t u : Tb) : Int := sm 16 (fun l => ((u l - t l).natAbs : Int))
theorem sm_le {f g : Nat → Int} : ∀ {n : Nat}, (∀ i, i < n → f i ≤ g i) → sm n f ≤ sm n g
  | 0, _ => by simp [sm]
  | n + 1, h => by
    have h1 := sm_le (f := f) (g := g) (n := n) (fun i hi => h i (by omega))
    have h2 := h n (by omega)
    simp only [sm]; omega
theorem sm_lt {f g : Nat → Int} : ∀ {n : Nat}, (∀ i, i < n → f i ≤ g i) → (∃ i, i < n ∧ f i < g i) → sm n f < sm n g
  | 0, _, ⟨i, hi, _⟩ => by omega
  | n + 1, h, ⟨i, hi, hlt⟩ => by
    have h2 := h n (by omega)
    simp only [sm]
    by_cases e : i = n
    · subst e
      have h1 := sm_le (f := f) (g := g) (n := i) (fun j hj => h j (by omega))
      omega
    · have h1 := sm_lt (f := f) (g := g) (n := n) (fun j hj => h j (by omega)) ⟨i, by omega, hlt⟩
      omega
theorem sm_nn {f : Nat → Int} {n : Nat} (h : ∀ i, i < n → 0 ≤ f i) : 0 ≤ sm n f := by
  have := sm_le (f := fun _ => 0) (g := f) h
  have e : ∀ n, sm n (fun _ => (0 : Int)) = 0 := fun n => by induction n with
    | zero => rfl
    | succ n ih => simp [sm, ih]
  rw [e] at this
  exact this
theorem NN_ext {c t u : Tb} (h : ∀ l, l < 16 → t l = u l) : NN c t = NN c u := pr_ext fun l hl => by rw [h l hl]
theorem MM_ext {t u : Tb} (h : ∀ l, l < 16 → t l = u l) : MM t = MM u := pr_ext fun l hl => by rw [h l hl]
/-- all that a ring towards another table says -/
theorem toward2 {c sz sh t u : Tb} (hc : ∀ l, 0 ≤ c l) (ht : fitT c sz sh t) (hu : fitT c sz sh u) (hne : ∃ l, l < 16 ∧ t l ≠ u l) : ∃ k D P, isRing k D P ∧ (∀ i, i < k → t (mo D P i) < u (mo D P i)) ∧ (∀ i, i < k → u (le k D P i) < t (le k D P i)) ∧ canT c t k D P ∧ canT c u k (revD k D) (revP k P) ∧ dnR c t k D P k ≤ upR c u k (revD k D) (revP k P) k ∧ dnR c u k (revD k D) (revP k P) k ≤ upR c t k D P k ∧ dist t (goN u k (revD k D) (revP k P) k) < dist t u := by
  obtain ⟨k, D, P, hR, hm, hl⟩ := towards ht hu hne
  have hR' := rev_ring hR
  have hk := hR.1
  have cm : ∀ i, i < k → 0 < c (mo D P i) := by
    intro i hi
    have h1 := hm i hi
    have h2 := ht.1 _ (mo_lt hR hi)
    have h3 := hu.2.1 _ (mo_lt hR hi)
    rcases Int.lt_or_eq_of_le (hc (mo D P i)) with h | h
    · exact h
    · have := h3 h.symm; omega
  have cl : ∀ i, i < k → 0 < c (le k D P i) := by
    intro i hi
    have h1 := hl i hi
    have h2 := hu.1 _ (le_lt hR hi)
    have h3 := ht.2.1 _ (le_lt hR hi)
    rcases Int.lt_or_eq_of_le (hc (le k D P i)) with h | h
    · exact h
    · have := h3 h.symm; omega
  have e1 : upR c u k (revD k D) (revP k P) k = pr k (fun i => c (le k D P i) * (2 * u (mo D P i) - 1)) := by
    unfold upR
    rw [← pr_rev hR.2.1 (fun i => c (le k D P i) * (2 * u (mo D P i) - 1))]
    exact pr_ext fun i hi => by rw [rev_mo hk hi, rev_le hk hi]
  have e2 : dnR c u k (revD k D) (revP k P) k = pr k (fun i => c (mo D P i) * (2 * u (le k D P i) + 1)) := by
    unfold dnR
    rw [← pr_rev hR.2.1 (fun i => c (mo D P i) * (2 * u (le k D P i) + 1))]
    exact pr_ext fun i hi => by rw [rev_mo hk hi, rev_le hk hi]
  refine ⟨k, D, P, hR, hm, hl, fun i hi => ⟨cm i hi, by have h1 := hl i hi; have h2 := hu.1 _ (le_lt hR hi); omega⟩, fun i hi => ?_, ?_, ?_, ?_⟩
  · rw [rev_mo hk hi, rev_le hk hi]
    have hj : k - 1 - i < k := by omega
    refine ⟨cl _ hj, ?_⟩
    have h1 := hm _ hj; have h2 := ht.1 _ (mo_lt hR hj); omega
  · rw [e1]
    refine (pr_le fun i hi => ⟨Int.mul_nonneg (by have := cl i hi; omega) (by have := ht.1 _ (mo_lt hR hi); omega), ?_⟩).2
    exact Int.mul_le_mul_of_nonneg_left (by have := hm i hi; omega) (by have := cl i hi; omega)
  · rw [e2]
    refine (pr_le fun i hi => ⟨Int.mul_nonneg (by have := cm i hi; omega) (by have := hu.1 _ (le_lt hR hi); omega), ?_⟩).2
    exact Int.mul_le_mul_of_nonneg_left (by have := hl i hi; omega) (by have := cm i hi; omega)
  · obtain ⟨a1, a2, a3⟩ := goN_val hR' u k (Nat.le_refl k)
    have b1 : ∀ i, i < k → goN u k (revD k D) (revP k P) k (le k D P i) = u (le k D P i) + 1 := by
      intro i hi
      have := a1 (k - 1 - i) (by omega)
      rw [rev_mo hk (by omega), show k - 1 - (k - 1 - i) = i by omega] at this
      exact this
    have b2 : ∀ i, i < k → goN u k (revD k D) (revP k P) k (mo D P i) = u (mo D P i) - 1 := by
      intro i hi
      have := a2 (k - 1 - i) (by omega)
      rw [rev_le hk (by omega), show k - 1 - (k - 1 - i) = i by omega] at this
      exact this
    refine sm_lt (fun l hl16 => ?_) ⟨mo D P 0, mo_lt hR (by omega), ?_⟩
    · by_cases q1 : ∃ i, i < k ∧ l = mo D P i
      · obtain ⟨i, hi, rfl⟩ := q1
        rw [b2 i hi]; have := hm i hi; omega
      · by_cases q2 : ∃ i, i < k ∧ l = le k D P i
        · obtain ⟨i, hi, rfl⟩ := q2
          rw [b1 i hi]; have := hl i hi; omega
        · rw [a3 l fun i hi => by
            rw [rev_mo hk hi, rev_le hk hi]
            exact ⟨fun e => q2 ⟨k - 1 - i, by omega, e⟩, fun e => q1 ⟨k - 1 - i, by omega, e⟩⟩]
          exact Int.le_refl _
    · rw [b2 0 (by omega)]; have := hm 0 (by omega); omega
theorem same_or {t u : Tb} : (∀ l, l < 16 → t l = u l) ∨ ∃ l, l < 16 ∧ t l ≠ u l := by
  by_cases h : ∃ l, l < 16 ∧ t l ≠ u l
  · exact Or.inr h
  · exact Or.inl fun l hl => Classical.byContradiction fun q => h ⟨l, hl, q⟩
theorem dist_nn (t u : Tb) : 0 ≤ dist t u := sm_nn fun _ _ => by omega
theorem ob_max {c sz sh t : Tb} (hc : ∀ l, 0 ≤ c l) (ht : fitT c sz sh t) (ho : obeyT c t) : ∀ n u, (dist t u).toNat ≤ n → fitT c sz sh u → leP c u t := by
  intro n
  induction n with
  | zero =>
    intro u hn hu
    rcases same_or (t := t) (u := u) with h | h
    · unfold leP; rw [NN_ext h, MM_ext h]; exact Int.le_refl _
    · obtain ⟨k, D, P, -, -, -, -, -, -, -, h9⟩ := toward2 hc ht hu h
      have := dist_nn t (goN u k (revD k D) (revP k P) k); omega
  | succ n ih =>
    intro u hn hu
    rcases same_or (t := t) (u := u) with h | h
    · unfold leP; rw [NN_ext h, MM_ext h]; exact Int.le_refl _
    · obtain ⟨k, D, P, hR, hm, hl, c1, c2, h7, h8, h9⟩ := toward2 hc ht hu h
      have h0 := dist_nn t (goN u k (revD k D) (revP k P) k)
      have h1 := ih _ (by omega) (go_fit hu (rev_ring hR) c2)
      have h2 := ho k D P hR c1
      exact (go_le hc hu (rev_ring hR) c2 (by omega)).tr h1
theorem max_ob {c sz sh t : Tb} (hc : ∀ l, 0 ≤ c l) (ht : fitT c sz sh t) (hm : ∀ u, fitT c sz sh u → leP c u t) : obeyT c t := by
  intro k D P hR hr
  apply Classical.byContradiction
  intro hn
  have h1 := go_lt hc ht hR hr (by omega)
  have h2 := hm _ (go_fit ht hR hr)
  unfold ltP at h1
  unfold leP at h2
  omega
/-- along a ring that gains nothing it obeys still -/
theorem go_ob {c sz sh t : Tb} {k : Nat} {D P : Nat → Nat} (hc : ∀ l, 0 ≤ c l) (ht : fitT c sz sh t) (ho : obeyT c t) (h : isRing k D P) (hr : canT c t k D P) (hg : upR c t k D P k = dnR c t k D P k) : obeyT c (goN t k D P k) := by
  refine max_ob hc (go_fit ht h hr) fun u hu => (ob_max hc ht ho _ u (Nat.le_refl _) hu).tr ?_
  have := go_eq hc ht h hr hg
  unfold leP
  omega
/-- the first list that a ring changes is L, and there it gives (w = 1) or takes (w = 2) -/
def turnR (w : Int) (L k : Nat) (D P : Nat → Nat) : Prop := (∀ i, i < k → L ≤ mo D P i ∧ L ≤ le k D P i) ∧ ((w = 1 ∧ ∃ i, i < k ∧ mo D P i = L) ∨ (w = 2 ∧ ∃ i, i < k ∧ le k D P i = L))
def before (w : Int) (L : Nat) (t u : Tb) : Prop := (∀ j, j < L → u j = t j) ∧ ((w = 1 ∧ t L < u L) ∨ (w = 2 ∧ u L < t L))
theorem lem_turn {c sz sh t : Tb} {w : Int} {L : Nat} (hL : L < 16) (hc : ∀ l, 0 ≤ c l) (ht : fitT c sz sh t) (ho : obeyT c t) : ∀ n u, (dist t u).toNat ≤ n → fitT c sz sh u → obeyT c u → before w L t u → ∃ k D P, isRing k D P ∧ canT c t k D P ∧ upR c t k D P k = dnR c t k D P k ∧ turnR w L k D P := by
  intro n
  induction n with
  | zero =>
    intro u hn hu hou hb
    obtain ⟨k, D, P, -, -, -, -, -, -, -, h9⟩ := toward2 hc ht hu ⟨L, hL, by rcases hb.2 with ⟨-, h⟩ | ⟨-, h⟩ <;> omega⟩
    have := dist_nn t (goN u k (revD k D) (revP k P) k); omega
  | succ n ih =>
    intro u hn hu hou hb
    obtain ⟨k, D, P, hR, hm, hl, c1, c2, h7, h8, h9⟩ := toward2 hc ht hu ⟨L, hL, by rcases hb.2 with ⟨-, h⟩ | ⟨-, h⟩ <;> omega⟩
    have h0 := dist_nn t (goN u k (revD k D) (revP k P) k)
    have g1 := ho k D P hR c1
    have g2 := hou k _ _ (rev_ring hR) c2
    have ge : ∀ i, i < k → L ≤ mo D P i ∧ L ≤ le k D P i := by
      intro i hi
      constructor
      · apply Classical.byContradiction
        intro q
        have h1 := hb.1 _ (show mo D P i < L by omega)
        have h2 := hm i hi
        omega
      · apply Classical.byContradiction
        intro q
        have h1 := hb.1 _ (show le k D P i < L by omega)
        have h2 := hl i hi
        omega
    by_cases q1 : ∃ i, i < k ∧ mo D P i = L
    · refine ⟨k, D, P, hR, c1, by omega, ge, ?_⟩
      rcases hb.2 with ⟨hw, h⟩ | ⟨hw, h⟩
      · exact Or.inl ⟨hw, q1⟩
      · obtain ⟨i, hi, rfl⟩ := q1
        have := hm i hi; omega
    · by_cases q2 : ∃ i, i < k ∧ le k D P i = L
      · refine ⟨k, D, P, hR, c1, by omega, ge, ?_⟩
        rcases hb.2 with ⟨hw, h⟩ | ⟨hw, h⟩
        · obtain ⟨i, hi, rfl⟩ := q2
          have := hl i hi; omega
        · exact Or.inr ⟨hw, q2⟩
      · have hk := hR.1
        obtain ⟨-, -, a3⟩ := goN_val (rev_ring hR) u k (Nat.le_refl k)
        have keep : ∀ j, j ≤ L → goN u k (revD k D) (revP k P) k j = u j := by
          intro j hj
          refine a3 j fun i hi => ?_
          rw [rev_mo hk hi, rev_le hk hi]
          have h1 := ge (k - 1 - i) (by omega)
          constructor
          · intro e
            exact q2 ⟨k - 1 - i, by omega, by omega⟩
          · intro e
            exact q1 ⟨k - 1 - i, by omega, by omega⟩
        refine ih _ (by omega) (go_fit hu (rev_ring hR) c2) (go_ob hc hu hou (rev_ring hR) c2 (by omega)) ⟨fun j hj => ?_, ?_⟩
        · rw [keep j (by omega)]; exact hb.1 j hj
        · rw [keep L (by omega)]; exact hb.2
/-- no table that obeys comes before by its list L -/
def NB (c sz sh : Tb) (w : Int) (L : Nat) (t : Tb) : Prop := ¬ ∃ u, fitT c sz sh u ∧ obeyT c u ∧ before w L t u
theorem nb_of {c sz sh t : Tb} {w : Int} {L : Nat} (hL : L < 16) (hc : ∀ l, 0 ≤ c l) (ht : fitT c sz sh t) (ho : obeyT c t) (h : ∀ k D P, isRing k D P → canT c t k D P → upR c t k D P k = dnR c t k D P k → ¬ turnR w L k D P) : NB c sz sh w L t := by
  rintro ⟨u, hu, hou, hb⟩
  obtain ⟨k, D, P, h1, h2, h3, h4⟩ := lem_turn hL hc ht ho _ u (Nat.le_refl _) hu hou hb
  exact h k D P h1 h2 h3 h4
theorem nb_keep {c sz sh t u : Tb} {w : Int} {L : Nat} (h : NB c sz sh w L t) (he : ∀ j, j ≤ L → u j = t j) : NB c sz sh w L u := by
  rintro ⟨v, hv, hov, hb⟩
  refine h ⟨v, hv, hov, fun j hj => ?_, ?_⟩
  · rw [hb.1 j hj, he j (by omega)]
  · have := he L (Nat.le_refl L)
    have h2 := hb.2
    rw [this] at h2
    exact h2
theorem wish_lex {w : Int} {k : Nat} {D P : Nat → Nat} (h : isRing k D P) (t : Tb) (hw : wishR w k P) : ∃ L, L < 16 ∧ before w L t (goN t k D P k) := by
  obtain ⟨a1, a2, a3⟩ := goN_val h t k (Nat.le_refl k)
  have hk := h.1
  have nl : nxt k (k - 1) = 0 := by unfold nxt; rw [if_neg (by omega)]
  have far : ∀ i, i < k → (i = 0 ∨ 4 * (D 0 + 1) ≤ mo D P i) ∧ (i = k - 1 ∨ 4 * (D 0 + 1) ≤ le k D P i) := by
    intro i hi
    constructor
    · by_cases e : i = 0
      · exact Or.inl e
      · have := h.2.2.2.2.2 i (by omega) hi
        right; unfold mo; omega
    · by_cases e : i = k - 1
      · exact Or.inl e
      · have e2 : nxt k i = i + 1 := by unfold nxt; rw [if_pos (by omega)]
        have := h.2.2.2.2.2 (i + 1) (by omega) (by omega)
        right; unfold le; rw [e2]; omega
  have e0 : mo D P 0 = 4 * D 0 + P 0 := rfl
  have e1 : le k D P (k - 1) = 4 * D 0 + P (k - 1) := by unfold le; rw [nl]
  have p0 := (h.2.2.1 0 (by omega)).2
  have p1 := (h.2.2.1 (k - 1) (by omega)).2
  rcases hw with ⟨rfl, hp⟩ | ⟨rfl, hp⟩
  · refine ⟨mo D P 0, mo_lt h (by omega), fun j hj => a3 j fun i hi => ?_, Or.inl ⟨rfl, by rw [a1 0 (by omega)]; omega⟩⟩
    obtain ⟨f1, f2⟩ := far i hi
    constructor
    · rcases f1 with rfl | f1 <;> omega
    · rcases f2 with rfl | f2 <;> omega
  · refine ⟨le k D P (k - 1), le_lt h (by omega), fun j hj => a3 j fun i hi => ?_, Or.inr ⟨rfl, by rw [a2 (k - 1) (by omega)]; omega⟩⟩
    obtain ⟨f1, f2⟩ := far i hi
    constructor
    · rcases f1 with rfl | f1 <;> omega
    · rcases f2 with rfl | f2 <;> omega
theorem nb_best {c sz sh t : Tb} {w : Int} (hc : ∀ l, 0 ≤ c l) (ht : fitT c sz sh t) (ho : obeyT c t) (h : ∀ L, L < 16 → NB c sz sh w L t) : bestT c t w := by
  rintro k D P ⟨hR, hr, hg⟩
  rcases hg with hg | ⟨hg, hw⟩
  · have := ho k D P hR hr; omega
  · obtain ⟨L, hL, hb⟩ := wish_lex hR t hw
    exact h L hL ⟨_, go_fit ht hR hr, go_ob hc ht ho hR hr hg, hb⟩
/-- better in the number that grows, or else before -/
def btr (c : Tb) (w : Int) (t u : Tb) : Prop := ltP c t u ∨ (NN c t * MM u = NN c u * MM t ∧ ∃ L, L < 16 ∧ before w L t u)
theorem good_btr {c sz sh t : Tb} {w : Int} {k : Nat} {D P : Nat → Nat} (hc : ∀ l, 0 ≤ c l) (ht : fitT c sz sh t) (h : goodR c t w k D P) : fitT c sz sh (goN t k D P k) ∧ btr c w t (goN t k D P k) := by
  obtain ⟨hR, hr, hg⟩ := h
  refine ⟨go_fit ht hR hr, ?_⟩
  rcases hg with hg | ⟨hg, hw⟩
  · exact Or.inl (go_lt hc ht hR hr hg)
  · exact Or.inr ⟨go_eq hc ht hR hr hg, wish_lex hR t hw⟩
theorem before_tr {w : Int} {L K : Nat} {t u v : Tb} (h1 : before w L t u) (h2 : before w K u v) : ∃ M, (M = L ∨ M = K) ∧ before w M t v := by
  by_cases h : L < K
  · refine ⟨L, Or.inl rfl, fun j hj => by rw [h2.1 j (by omega), h1.1 j hj], ?_⟩
    rw [h2.1 L h]; exact h1.2
  · by_cases h' : K < L
    · refine ⟨K, Or.inr rfl, fun j hj => by rw [h2.1 j hj, h1.1 j (by omega)], ?_⟩
      rw [← h1.1 K h']; exact h2.2
    · have : L = K := by omega
      subst this
      refine ⟨L, Or.inl rfl, fun j hj => by rw [h2.1 j hj, h1.1 j hj], ?_⟩
      have a := h1.2; have b := h2.2
      omega
theorem btr_tr {c t u v : Tb} {w : Int} (h1 : btr c w t u) (h2 : btr c w u v) : btr c w t v := by
  have p1 := MM_pos t
  have p2 := MM_pos u
  have p3 := MM_pos v
  rcases h1 with h1 | ⟨e1, L, hL, b1⟩ <;> rcases h2 with h2 | ⟨e2, K, hK, b2⟩
  · exact Or.inl (t_lt (Int.le_of_lt h1) (Int.le_of_lt h2) (Or.inl h1) p1 p2 p3)
  · exact Or.inl (t_lt (Int.le_of_lt h1) (Int.le_of_eq e2) (Or.inl h1) p1 p2 p3)
  · exact Or.inl (t_lt (Int.le_of_eq e1) (Int.le_of_lt h2) (Or.inr h2) p1 p2 p3)
  · right
    refine ⟨Int.le_antisymm (t_le (Int.le_of_eq e1) (Int.le_of_eq e2) p1 p2 p3) ?_, ?_⟩
    · exact t_le (Int.le_of_eq e2.symm) (Int.le_of_eq e1.symm) p3 p2 p1
    · obtain ⟨M, hM, b⟩ := before_tr b1 b2
      exact ⟨M, by omega, b⟩
theorem btr_ir {c t u : Tb} {w : Int} (h : ∀ l, l < 16 → t l = u l) : ¬ btr c w t u := by
  rintro (h1 | ⟨-, L, hL, -, b⟩)
  · unfold ltP at h1; rw [NN_ext h, MM_ext h] at h1; omega
  · have := h L hL; omega
