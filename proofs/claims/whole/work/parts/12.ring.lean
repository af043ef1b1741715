/-! ===== mathematics: tables, rings, what is best ===== -/
def pr : Nat → (Nat → Int) → Int
  | 0, _ => 1
  | n + 1, f => pr n f * f n
def sm : Nat → (Nat → Int) → Int
  | 0, _ => 0
  | n + 1, f => sm n f + f n
theorem pr_le {f g : Nat → Int} : ∀ {n : Nat}, (∀ i, i < n → 0 ≤ f i ∧ f i ≤ g i) → 0 ≤ pr n f ∧ pr n f ≤ pr n g
  | 0, _ => ⟨by simp [pr], by simp [pr]⟩
  | n + 1, h => by
    obtain ⟨h1, h2⟩ := pr_le (f := f) (g := g) (n := n) (fun i hi => h i (by omega))
    obtain ⟨h3, h4⟩ := h n (by omega)
    exact ⟨Int.mul_nonneg h1 h3, Int.mul_le_mul h2 h4 h3 (by omega)⟩
theorem pr_pos {f : Nat → Int} : ∀ {n : Nat}, (∀ i, i < n → 0 < f i) → 0 < pr n f
  | 0, _ => by simp [pr]
  | n + 1, h => Int.mul_pos (pr_pos (fun i hi => h i (by omega))) (h n (by omega))
theorem pr_ext {f g : Nat → Int} : ∀ {n : Nat}, (∀ i, i < n → f i = g i) → pr n f = pr n g
  | 0, _ => rfl
  | n + 1, h => by simp only [pr]; rw [pr_ext (fun i hi => h i (by omega)), h n (by omega)]
theorem sm_ext {f g : Nat → Int} : ∀ {n : Nat}, (∀ i, i < n → f i = g i) → sm n f = sm n g
  | 0, _ => rfl
  | n + 1, h => by simp only [sm]; rw [sm_ext (fun i hi => h i (by omega)), h n (by omega)]
abbrev Tb : Type := Nat → Int
def fitT (c sz sh t : Tb) : Prop := (∀ l, l < 16 → 0 ≤ t l) ∧ (∀ l, l < 16 → c l = 0 → t l = 0) ∧ (∀ d, d < 4 → t (4 * d) + t (4 * d + 1) + t (4 * d + 2) + t (4 * d + 3) = sz d) ∧ ∀ p, p < 4 → t p + t (4 + p) + t (8 + p) + t (12 + p) = sh p
def isRing (k : Nat) (D P : Nat → Nat) : Prop := 2 ≤ k ∧ k ≤ 4 ∧ (∀ i, i < k → D i < 4 ∧ P i < 4) ∧ (∀ i j, i < k → j < k → D i = D j → i = j) ∧ (∀ i j, i < k → j < k → P i = P j → i = j) ∧ ∀ i, 0 < i → i < k → D 0 < D i
def nxt (k i : Nat) : Nat := if i + 1 < k then i + 1 else 0
def mo (D P : Nat → Nat) (i : Nat) : Nat := 4 * D i + P i
def le (k : Nat) (D P : Nat → Nat) (i : Nat) : Nat := 4 * D (nxt k i) + P i
def canT (c t : Tb) (k : Nat) (D P : Nat → Nat) : Prop := ∀ i, i < k → 0 < c (mo D P i) ∧ 0 < t (le k D P i)
def upR (c t : Tb) (k : Nat) (D P : Nat → Nat) (n : Nat) : Int := pr n (fun i => c (mo D P i) * (2 * t (le k D P i) - 1))
def dnR (c t : Tb) (k : Nat) (D P : Nat → Nat) (n : Nat) : Int := pr n (fun i => c (le k D P i) * (2 * t (mo D P i) + 1))
/-- whether a ring whose first district is its least leads to a table that comes before (w = 1), behind (w = 2) -/
def wishR (w : Int) (k : Nat) (P : Nat → Nat) : Prop := (w = 1 ∧ P 0 < P (k - 1)) ∨ (w = 2 ∧ P (k - 1) < P 0)
def goodR (c t : Tb) (w : Int) (k : Nat) (D P : Nat → Nat) : Prop := isRing k D P ∧ canT c t k D P ∧ (dnR c t k D P k < upR c t k D P k ∨ (upR c t k D P k = dnR c t k D P k ∧ wishR w k P))
def bestT (c t : Tb) (w : Int) : Prop := ∀ k D P, ¬ goodR c t w k D P
def itr (f : Nat → Nat) (x : Nat) : Nat → Nat
  | 0 => x
  | n + 1 => f (itr f x n)
def fn4 (a b c d i : Nat) : Nat := if i = 0 then a else if i = 1 then b else if i = 2 then c else d
theorem cyc4 : ∀ a b c d : Fin 4, ∃ x : Fin 4, ∃ k : Fin 5, 1 ≤ k.val ∧ itr (fn4 a.val b.val c.val d.val) x.val k.val = x.val ∧ (∀ i : Fin 4, ∀ j : Fin 4, i.val < k.val → j.val < k.val → itr (fn4 a.val b.val c.val d.val) x.val i.val = itr (fn4 a.val b.val c.val d.val) x.val j.val → i = j) ∧ ∀ i : Fin 4, 0 < i.val → i.val < k.val → x.val < itr (fn4 a.val b.val c.val d.val) x.val i.val := by decide +kernel
theorem cyc (f : Nat → Nat) (hf : ∀ i, i < 4 → f i < 4) : ∃ x k, x < 4 ∧ 1 ≤ k ∧ k ≤ 4 ∧ itr f x k = x ∧ (∀ i j, i < k → j < k → itr f x i = itr f x j → i = j) ∧ ∀ i, 0 < i → i < k → x < itr f x i := by
  obtain ⟨x, k, h1, h2, h3, h4⟩ := cyc4 ⟨f 0, hf 0 (by omega)⟩ ⟨f 1, hf 1 (by omega)⟩ ⟨f 2, hf 2 (by omega)⟩ ⟨f 3, hf 3 (by omega)⟩
  have hx : x.val < 4 := x.isLt
  have hb : ∀ n, itr f x.val n < 4 := by
    intro n
    induction n with
    | zero => exact hx
    | succ n ih => exact hf _ ih
  have hD : ∀ n, itr (fn4 (f 0) (f 1) (f 2) (f 3)) x.val n = itr f x.val n := by
    intro n
    induction n with
    | zero => rfl
    | succ n ih =>
      simp only [itr]
      rw [ih]
      have := hb n
      generalize itr f x.val n = i at this
      rcases (show i = 0 ∨ i = 1 ∨ i = 2 ∨ i = 3 by omega) with rfl | rfl | rfl | rfl <;> rfl
  refine ⟨x.val, k.val, hx, h1, by omega, ?_, ?_, ?_⟩
  · rw [← hD]; exact h2
  · intro i j hi hj he
    have := h3 ⟨i, by omega⟩ ⟨j, by omega⟩ hi hj (by show itr (fn4 (f 0) (f 1) (f 2) (f 3)) x.val i = itr (fn4 (f 0) (f 1) (f 2) (f 3)) x.val j; rw [hD, hD]; exact he)
    exact congrArg Fin.val this
  · intro i hi hk
    have := h4 ⟨i, by omega⟩ hi hk
    rw [← hD]; exact this
theorem itr_lt {f : Nat → Nat} (hf : ∀ i, i < 4 → f i < 4) {x : Nat} (hx : x < 4) : ∀ n, itr f x n < 4
  | 0 => hx
  | n + 1 => hf _ (itr_lt hf hx n)
/-- of two tables that fit, one and the other, there is a ring from the one towards the other -/
theorem towards {c sz sh t u : Tb} (ht : fitT c sz sh t) (hu : fitT c sz sh u) (hne : ∃ l, l < 16 ∧ t l ≠ u l) : ∃ k D P, isRing k D P ∧ (∀ i, i < k → t (mo D P i) < u (mo D P i)) ∧ ∀ i, i < k → u (le k D P i) < t (le k D P i) := by
  classical
  obtain ⟨-, -, tr, tc⟩ := ht
  obtain ⟨-, -, ur, uc⟩ := hu
  -- a district with more has one with less, a party too
  have rowP : ∀ d, d < 4 → (∃ p, p < 4 ∧ u (4 * d + p) < t (4 * d + p)) → ∃ p, p < 4 ∧ t (4 * d + p) < u (4 * d + p) := by
    intro d hd ⟨p, hp, h⟩
    have h1 := tr d hd
    have h2 := ur d hd
    apply Classical.byContradiction
    intro hn
    have a0 : u (4 * d) ≤ t (4 * d) := Int.not_lt.mp fun q => hn ⟨0, by omega, by simpa using q⟩
    have a1 : u (4 * d + 1) ≤ t (4 * d + 1) := Int.not_lt.mp fun q => hn ⟨1, by omega, q⟩
    have a2 : u (4 * d + 2) ≤ t (4 * d + 2) := Int.not_lt.mp fun q => hn ⟨2, by omega, q⟩
    have a3 : u (4 * d + 3) ≤ t (4 * d + 3) := Int.not_lt.mp fun q => hn ⟨3, by omega, q⟩
    rcases (show p = 0 ∨ p = 1 ∨ p = 2 ∨ p = 3 by omega) with rfl | rfl | rfl | rfl <;> (try rw [Nat.add_zero] at h) <;> omega
  have rowM : ∀ d, d < 4 → (∃ p, p < 4 ∧ t (4 * d + p) < u (4 * d + p)) → ∃ p, p < 4 ∧ u (4 * d + p) < t (4 * d + p) := by
    intro d hd ⟨p, hp, h⟩
    have h1 := tr d hd
    have h2 := ur d hd
    apply Classical.byContradiction
    intro hn
    have a0 : t (4 * d) ≤ u (4 * d) := Int.not_lt.mp fun q => hn ⟨0, by omega, by simpa using q⟩
    have a1 : t (4 * d + 1) ≤ u (4 * d + 1) := Int.not_lt.mp fun q => hn ⟨1, by omega, q⟩
    have a2 : t (4 * d + 2) ≤ u (4 * d + 2) := Int.not_lt.mp fun q => hn ⟨2, by omega, q⟩
    have a3 : t (4 * d + 3) ≤ u (4 * d + 3) := Int.not_lt.mp fun q => hn ⟨3, by omega, q⟩
    rcases (show p = 0 ∨ p = 1 ∨ p = 2 ∨ p = 3 by omega) with rfl | rfl | rfl | rfl <;> (try rw [Nat.add_zero] at h) <;> omega
  have colM : ∀ p, p < 4 → (∃ d, d < 4 ∧ t (4 * d + p) < u (4 * d + p)) → ∃ d, d < 4 ∧ u (4 * d + p) < t (4 * d + p) := by
    intro p hp ⟨d, hd, h⟩
    have h1 := tc p hp
    have h2 := uc p hp
    apply Classical.byContradiction
    intro hn
    have a0 : t p ≤ u p := Int.not_lt.mp fun q => hn ⟨0, by omega, by simpa using q⟩
    have a1 : t (4 + p) ≤ u (4 + p) := Int.not_lt.mp fun q => hn ⟨1, by omega, q⟩
    have a2 : t (8 + p) ≤ u (8 + p) := Int.not_lt.mp fun q => hn ⟨2, by omega, q⟩
    have a3 : t (12 + p) ≤ u (12 + p) := Int.not_lt.mp fun q => hn ⟨3, by omega, q⟩
    rcases (show d = 0 ∨ d = 1 ∨ d = 2 ∨ d = 3 by omega) with rfl | rfl | rfl | rfl
    · simp at h; omega
    · simp at h; omega
    · simp at h; omega
    · simp at h; omega
  -- some district has more
  obtain ⟨e, he, pe, hpe, hme⟩ : ∃ d, d < 4 ∧ ∃ p, p < 4 ∧ t (4 * d + p) < u (4 * d + p) := by
    obtain ⟨l, hl, hn⟩ := hne
    have hd : l / 4 < 4 := by omega
    have hlp : 4 * (l / 4) + l % 4 = l := by omega
    rcases Int.lt_or_gt_of_ne hn with h | h
    · exact ⟨l / 4, hd, l % 4, by omega, by rw [hlp]; exact h⟩
    · obtain ⟨p, hp, h⟩ := rowP (l / 4) hd ⟨l % 4, by omega, by rw [hlp]; exact h⟩
      exact ⟨l / 4, hd, p, hp, h⟩
  obtain ⟨g, hg⟩ : ∃ g : Nat → Nat, ∀ d, (∃ p, p < 4 ∧ t (4 * d + p) < u (4 * d + p)) → g d < 4 ∧ t (4 * d + g d) < u (4 * d + g d) := by
    refine ⟨fun d => if h : ∃ p, p < 4 ∧ t (4 * d + p) < u (4 * d + p) then Classical.choose h else 0, fun d h => ?_⟩
    simp only [dif_pos h]
    exact Classical.choose_spec h
  obtain ⟨q, hq⟩ : ∃ q : Nat → Nat, ∀ p, (∃ d, d < 4 ∧ u (4 * d + p) < t (4 * d + p)) → q p < 4 ∧ u (4 * q p + p) < t (4 * q p + p) := by
    refine ⟨fun p => if h : ∃ d, d < 4 ∧ u (4 * d + p) < t (4 * d + p) then Classical.choose h else 0, fun p h => ?_⟩
    simp only [dif_pos h]
    exact Classical.choose_spec h
  let Pl : Nat → Prop := fun d => d < 4 ∧ ∃ p, p < 4 ∧ t (4 * d + p) < u (4 * d + p)
  have step : ∀ d, Pl d → Pl (q (g d)) ∧ g d < 4 ∧ t (4 * d + g d) < u (4 * d + g d) ∧ u (4 * q (g d) + g d) < t (4 * q (g d) + g d) := by
    intro d ⟨hd, h⟩
    obtain ⟨h1, h2⟩ := hg d h
    obtain ⟨h3, h4⟩ := hq (g d) (colM (g d) h1 ⟨d, hd, h2⟩)
    exact ⟨⟨h3, rowP _ h3 ⟨g d, h1, h4⟩⟩, h1, h2, h4⟩
  let f : Nat → Nat := fun d => if Pl d then q (g d) else q (g e)
  have hePl : Pl e := ⟨he, pe, hpe, hme⟩
  have fPl : ∀ d, Pl (f d) := by
    intro d
    by_cases h : Pl d
    · simp only [f, if_pos h]; exact (step d h).1
    · simp only [f, if_neg h]; exact (step e hePl).1
  obtain ⟨x, k, hx, hk1, hk4, hcy, hinj, hlst⟩ := cyc f (fun i _ => (fPl i).1)
  have xPl : Pl x := by
    obtain ⟨n, rfl⟩ : ∃ n, k = n + 1 := ⟨k - 1, by omega⟩
    rw [← hcy]
    exact fPl _
  have iPl : ∀ i, Pl (itr f x i) := by
    intro i
    cases i with
    | zero => exact xPl
    | succ i => exact fPl _
  have fit : ∀ i, f (itr f x i) = q (g (itr f x i)) := fun i => by simp only [f, if_pos (iPl i)]
  have hk2 : 2 ≤ k := by
    apply Classical.byContradiction
    intro hn
    have hk : k = 1 := by omega
    subst hk
    have h1 : f x = x := hcy
    have h2 := step x xPl
    have h3 : q (g x) = x := by have := fit 0; simp only [itr] at this; rw [← this]; exact h1
    rw [h3] at h2
    omega
  have hnx : ∀ i, i < k → itr f x (nxt k i) = q (g (itr f x i)) := by
    intro i hi
    by_cases h : i + 1 < k
    · simp only [nxt, if_pos h, itr]; exact fit i
    · have : i + 1 = k := by omega
      simp only [nxt, if_neg h]
      rw [← fit i]
      show x = itr f x (i + 1)
      rw [this, hcy]
  refine ⟨k, itr f x, fun i => g (itr f x i), ⟨hk2, hk4, fun i _ => ⟨(iPl i).1, (step _ (iPl i)).2.1⟩, hinj, ?_, hlst⟩, ?_, ?_⟩
  · intro i j hi hj he
    dsimp only at he
    have h1 : itr f x (nxt k i) = itr f x (nxt k j) := by rw [hnx i hi, hnx j hj, he]
    have bi : nxt k i < k := by unfold nxt; split <;> omega
    have bj : nxt k j < k := by unfold nxt; split <;> omega
    have h2 := hinj _ _ bi bj h1
    unfold nxt at h2
    split at h2 <;> split at h2 <;> omega
  · intro i _
    exact (step _ (iPl i)).2.2.1
  · intro i hi
    unfold le
    rw [hnx i hi]
    exact (step _ (iPl i)).2.2.2

theorem lt_nxt {k i : Nat} (hk : 2 ≤ k) (hi : i < k) : nxt k i < k ∧ nxt k i ≠ i := by unfold nxt; split <;> omega
theorem mo_lt {k : Nat} {D P : Nat → Nat} (h : isRing k D P) {i : Nat} (hi : i < k) : mo D P i < 16 := by
  have := h.2.2.1 i hi; unfold mo; omega
theorem le_lt {k : Nat} {D P : Nat → Nat} (h : isRing k D P) {i : Nat} (hi : i < k) : le k D P i < 16 := by
  have h1 := h.2.2.1 i hi
  have h2 := h.2.2.1 _ (lt_nxt h.1 hi).1
  unfold le; omega
/-- the same ring the other way -/
def revD (k : Nat) (D : Nat → Nat) (i : Nat) : Nat := if i = 0 then D 0 else D (k - i)
def revP (k : Nat) (P : Nat → Nat) (i : Nat) : Nat := P (k - 1 - i)
theorem rev_ring {k : Nat} {D P : Nat → Nat} (h : isRing k D P) : isRing k (revD k D) (revP k P) := by
  obtain ⟨h1, h2, h3, h4, h5, h6⟩ := h
  refine ⟨h1, h2, fun i hi => ⟨?_, (h3 (k - 1 - i) (by omega)).2⟩, fun i j hi hj he => ?_, fun i j hi hj he => ?_, fun i hi hk => ?_⟩
  · unfold revD; split
    · exact (h3 0 (by omega)).1
    · exact (h3 (k - i) (by omega)).1
  · unfold revD at he
    split at he <;> split at he
    · omega
    · have := h4 _ _ (by omega) (by omega) he; omega
    · have := h4 _ _ (by omega) (by omega) he; omega
    · have := h4 _ _ (by omega) (by omega) he; omega
  · have := h5 _ _ (by omega) (by omega) he; omega
  · unfold revD; rw [if_pos rfl, if_neg (by omega)]; exact h6 _ (by omega) (by omega)
theorem rev_mo {k : Nat} {D P : Nat → Nat} (hk : 2 ≤ k) {i : Nat} (hi : i < k) : mo (revD k D) (revP k P) i = le k D P (k - 1 - i) := by
  unfold mo le revD revP nxt
  by_cases h : i = 0
  · subst h; rw [if_pos rfl, if_neg (by omega)]
  · rw [if_neg h, if_pos (by omega), show k - 1 - i + 1 = k - i by omega]
theorem rev_le {k : Nat} {D P : Nat → Nat} (hk : 2 ≤ k) {i : Nat} (hi : i < k) : le k (revD k D) (revP k P) i = mo D P (k - 1 - i) := by
  unfold mo le revD revP nxt
  by_cases h : i + 1 < k
  · rw [if_pos h, if_neg (by omega), show k - (i + 1) = k - 1 - i by omega]
  · rw [if_neg h, if_pos rfl, show k - 1 - i = 0 by omega]
theorem pr_rev {k : Nat} (hk : k ≤ 4) (f : Nat → Int) : pr k (fun i => f (k - 1 - i)) = pr k f := by
  rcases (show k = 0 ∨ k = 1 ∨ k = 2 ∨ k = 3 ∨ k = 4 by omega) with rfl | rfl | rfl | rfl | rfl <;> simp [pr] <;> grind
/-- what is best stands alone -/
theorem best_one {c sz sh t u : Tb} {w : Int} (hw : w = 1 ∨ w = 2) (hc : ∀ l, 0 ≤ c l) (ht : fitT c sz sh t) (hu : fitT c sz sh u) (bt : bestT c t w) (bu : bestT c u w) : ∀ l, l < 16 → t l = u l := by
  apply Classical.byContradiction
  intro hn
  obtain ⟨k, D, P, hR, hm, hl⟩ := towards ht hu (by
    apply Classical.byContradiction
    intro h
    exact hn fun l hl => Classical.byContradiction fun q => h ⟨l, hl, q⟩)
  have hR' := rev_ring hR
  have hk := hR.1
  have cm : ∀ i, i < k → 0 < c (mo D P i) := by
    intro i hi
    have h1 := hm i hi
    have h2 := ht.1 _ (mo_lt hR hi)
    have h3 := hu.2.1 _ (mo_lt hR hi)
    have h4 := hc (mo D P i)
    rcases Int.lt_or_eq_of_le h4 with h | h
    · exact h
    · have := h3 h.symm; omega
  have cl : ∀ i, i < k → 0 < c (le k D P i) := by
    intro i hi
    have h1 := hl i hi
    have h2 := hu.1 _ (le_lt hR hi)
    have h3 := ht.2.1 _ (le_lt hR hi)
    have h4 := hc (le k D P i)
    rcases Int.lt_or_eq_of_le h4 with h | h
    · exact h
    · have := h3 h.symm; omega
  have can1 : canT c t k D P := fun i hi => ⟨cm i hi, by have h1 := hl i hi; have h2 := hu.1 _ (le_lt hR hi); omega⟩
  have can2 : canT c u k (revD k D) (revP k P) := fun i hi => by
    rw [rev_mo hk hi, rev_le hk hi]
    have hj : k - 1 - i < k := by omega
    refine ⟨cl _ hj, ?_⟩
    have h1 := hm _ hj; have h2 := ht.1 _ (mo_lt hR hj); omega
  have e1 : upR c u k (revD k D) (revP k P) k = pr k (fun i => c (le k D P i) * (2 * u (mo D P i) - 1)) := by
    unfold upR
    rw [← pr_rev hR.2.1 (fun i => c (le k D P i) * (2 * u (mo D P i) - 1))]
    exact pr_ext fun i hi => by rw [rev_mo hk hi, rev_le hk hi]
  have e2 : dnR c u k (revD k D) (revP k P) k = pr k (fun i => c (mo D P i) * (2 * u (le k D P i) + 1)) := by
    unfold dnR
    rw [← pr_rev hR.2.1 (fun i => c (mo D P i) * (2 * u (le k D P i) + 1))]
    exact pr_ext fun i hi => by rw [rev_mo hk hi, rev_le hk hi]
  have a1 : dnR c t k D P k ≤ upR c u k (revD k D) (revP k P) k := by
    rw [e1]
    refine (pr_le fun i hi => ⟨Int.mul_nonneg (by have := cl i hi; omega) (by have := ht.1 _ (mo_lt hR hi); omega), ?_⟩).2
    exact Int.mul_le_mul_of_nonneg_left (by have := hm i hi; omega) (by have := cl i hi; omega)
  have a2 : dnR c u k (revD k D) (revP k P) k ≤ upR c t k D P k := by
    rw [e2]
    refine (pr_le fun i hi => ⟨Int.mul_nonneg (by have := cm i hi; omega) (by have := hu.1 _ (le_lt hR hi); omega), ?_⟩).2
    exact Int.mul_le_mul_of_nonneg_left (by have := hl i hi; omega) (by have := cm i hi; omega)
  have b1 : ¬ dnR c t k D P k < upR c t k D P k := fun q => bt k D P ⟨hR, can1, Or.inl q⟩
  have b2 : ¬ dnR c u k (revD k D) (revP k P) k < upR c u k (revD k D) (revP k P) k := fun q => bu k _ _ ⟨hR', can2, Or.inl q⟩
  have w1 : ¬ wishR w k P := fun q => bt k D P ⟨hR, can1, Or.inr ⟨by omega, q⟩⟩
  have w2 : ¬ wishR w k (revP k P) := fun q => bu k _ _ ⟨hR', can2, Or.inr ⟨by omega, q⟩⟩
  have hne : P 0 ≠ P (k - 1) := fun q => by have := hR.2.2.2.2.1 _ _ (by omega) (by omega) q; omega
  unfold wishR revP at w2
  unfold wishR at w1
  rw [show k - 1 - 0 = k - 1 by omega, show k - 1 - (k - 1) = 0 by omega] at w2
  rcases hw with rfl | rfl <;> omega
