/-! ===== the class: votes, weights, shares ===== -/
theorem up_ne {σ : HP} {r r' j : Nat} {v : Int} (h : r ≠ r') : up σ r' j v r = σ r := by funext k; simp [up, h]
theorem up_at {σ : HP} {r j : Nat} {v : Int} : up σ r j v r j = v := by simp [up]
theorem up_nj {σ : HP} {r j j' : Nat} {v : Int} (h : j' ≠ j) : up σ r j v r j' = σ r j' := by simp [up, h]
theorem up_nr {σ : HP} {r r' j j' : Nat} {v : Int} (h : r ≠ r') : up σ r' j v r j' = σ r j' := by simp [up, h]
def own (v : Tb) (p : Nat) : Int := v p + v (4 + p) + v (8 + p) + v (12 + p)
def allV (v : Tb) : Int := sm 16 v
def cntF (v : Tb) (thr : Int) (l : Nat) : Int := if 1000 * own v (l % 4) < thr * allV v then 0 else v l
def mulF (sz : Tb) (d : Nat) : Nat → Int
  | 0 => 1
  | n + 1 => if n = d then mulF sz d n else mulF sz d n * sz n
def wtF (D : Nat) (wg : Int) (sz c : Tb) (p : Nat) : Int := sm D (fun d => if wg = 0 then c (d * 4 + p) else c (d * 4 + p) * mulF sz d D)
abbrev gbF (w s rk : Tb) (p q : Nat) : Prop := w q * (2 * s p + 1) < w p * (2 * s q + 1) ∨ (w p * (2 * s q + 1) = w q * (2 * s p + 1) ∧ rk p < rk q)
def bstF (w s rk : Tb) : Nat → Nat
  | 0 => 0
  | n + 1 => if gbF w s rk (n + 1) (bstF w s rk n) then n + 1 else bstF w s rk n
def shF (w rk : Tb) : Nat → Tb
  | 0 => fun _ => 0
  | n + 1 => fun p => if p = bstF w (shF w rk n) rk 3 then shF w rk n p + 1 else shF w rk n p
theorem bstF_le (w s rk : Tb) : ∀ n, bstF w s rk n ≤ n
  | 0 => Nat.le_refl _
  | n + 1 => by have := bstF_le w s rk n; simp only [bstF]; split <;> omega
theorem shF_bd (w rk : Tb) : ∀ n p, 0 ≤ shF w rk n p ∧ shF w rk n p ≤ n
  | 0, p => by simp [shF]
  | n + 1, p => by
    have := shF_bd w rk n p
    simp only [shF]
    split <;> omega
theorem shF_sum (w rk : Tb) : ∀ n, shF w rk n 0 + shF w rk n 1 + shF w rk n 2 + shF w rk n 3 = n
  | 0 => by simp [shF]
  | n + 1 => by
    have h := shF_sum w rk n
    have hb := bstF_le w (shF w rk n) rk 3
    simp only [shF]
    rcases (show bstF w (shF w rk n) rk 3 = 0 ∨ bstF w (shF w rk n) rk 3 = 1 ∨ bstF w (shF w rk n) rk 3 = 2 ∨ bstF w (shF w rk n) rk 3 = 3 by omega) with e | e | e | e <;> rw [e] <;> simp <;> omega
section XA
variable {d : Nat} {σ : HP} {Q : MQt} {X : MXt}
theorem ok_isIn {a k : Nat} (ha : a < 2147483648) (hk : k < 32) : Ok d Y3_isIn SX [vi a, vi k] σ (qi fun z σ' => σ' = σ ∧ z = if a.testBit k then 1 else 0) := by
  refine Ok.ofWp (by decide) (Nat.le_of_ble_eq_true rfl) ?_
  have e := bit_N ha hk
  refine b3_isIn_0 _ _ ?_ (fun h => ?_) (fun h => ?_)
  · rw [e]; split <;> exact ⟨by decide, by decide⟩
  · rw [e] at h
    refine b3_isIn_12 (b3_isIn_13 _ (Or.inl rfl) ⟨0, rfl, rfl, ?_⟩)
    split at h
    · omega
    · next q => rw [if_neg q]
  · rw [e] at h
    refine b3_isIn_8 (b3_isIn_13 _ (Or.inr rfl) ⟨1, rfl, rfl, ?_⟩)
    split at h
    · next q => rw [if_pos q]
    · omega
theorem ok_isThere {b k : Int} (hb : b = 0 ∨ b = 1) (hk : in32 k) (h0 : in32 (σ 0 0)) (h1 : in32 (σ 0 1)) : Ok d Y3_isThere SX [vr 0, vi b, vi k] σ (qi fun z σ' => σ' = σ ∧ z = if 0 ≤ k ∧ k < (if b = 0 then σ 0 0 else σ 0 1) then 1 else 0) := by
  refine Ok.ofWp (by decide) (Nat.le_of_ble_eq_true rfl) ?_
  have fin0 : (¬ (0 ≤ k ∧ k < (if b = 0 then σ 0 0 else σ 0 1))) → Wp d Y3_isThere SX 27 [none, none, none] [] σ (qi fun z σ' => σ' = σ ∧ z = if 0 ≤ k ∧ k < (if b = 0 then σ 0 0 else σ 0 1) then 1 else 0) (fun _ _ _ _ => False) := fun h => b3_isThere_27 (b3_isThere_28 _ (Or.inl rfl) ⟨0, rfl, rfl, by rw [if_neg h]⟩)
  have fin1 : (0 ≤ k ∧ k < (if b = 0 then σ 0 0 else σ 0 1)) → Wp d Y3_isThere SX 23 [none, none, none] [] σ (qi fun z σ' => σ' = σ ∧ z = if 0 ≤ k ∧ k < (if b = 0 then σ 0 0 else σ 0 1) then 1 else 0) (fun _ _ _ _ => False) := fun h => b3_isThere_23 (b3_isThere_28 _ (Or.inr rfl) ⟨1, rfl, rfl, by rw [if_pos h]⟩)
  refine b3_isThere_0 _ _ hk (fun h => fin0 (by omega)) (fun hk0 => ?_)
  refine b3_isThere_4 _ _ (by rcases hb with rfl | rfl <;> exact ⟨by decide, by decide⟩) (fun h => ?_) (fun h => ?_)
  · refine b3_isThere_16 _ (b3_isThere_20 _ _ hk h0 (fun q => ?_) (fun q => ?_))
    · exact fin0 (by rw [if_pos h]; omega)
    · exact fin1 (by rw [if_pos h]; omega)
  · refine b3_isThere_9 _ (b3_isThere_20 _ _ hk h1 (fun q => ?_) (fun q => ?_))
    · exact fin0 (by rw [if_neg h]; omega)
    · exact fin1 (by rw [if_neg h]; omega)
theorem ok_allSeats : Ok d Y3_allSeats SX [vr 0] σ (qi fun z σ' => σ' = σ ∧ z = sm 4 (σ 1)) := by
  refine Ok.ofWp (by decide) (Nat.le_of_ble_eq_true rfl) ?_
  have lp : ∀ k i : Nat, i + k = 4 → Wp d Y3_allSeats SX 4 [some (vr 0), some (vi (sm i (σ 1))), some (vi (i : Int))] [] σ (qi fun z σ' => σ' = σ ∧ z = sm 4 (σ 1)) (fun _ _ _ _ => False) := by
    intro k
    induction k with
    | zero =>
      intro i hi
      have e : i = 4 := by omega
      subst e
      exact b3_allSeats_4 _ _ ⟨by omega, by omega⟩ (fun _ => b3_allSeats_24 _ ⟨_, rfl, rfl, rfl⟩) (fun h => absurd h (by omega))
    | succ k ih =>
      intro i hi
      exact b3_allSeats_4 _ _ ⟨by omega, by omega⟩ (fun h => absurd h (by omega)) (fun _ => b3_allSeats_9 _ _ ⟨by omega, by omega⟩ (ih (i + 1) (by omega)))
  exact b3_allSeats_0 (lp 4 0 rfl)
theorem sm_bd {f : Nat → Int} {m : Int} : ∀ n, (∀ i, i < n → 0 ≤ f i ∧ f i ≤ m) → 0 ≤ sm n f ∧ sm n f ≤ n * m
  | 0, _ => by simp [sm]
  | n + 1, h => by
    obtain ⟨h1, h2⟩ := sm_bd (f := f) (m := m) n (fun i hi => h i (by omega))
    have h3 := h n (by omega)
    simp only [sm]
    have : ((n + 1 : Nat) : Int) * m = n * m + m := by rw [Int.natCast_succ, Int.add_mul, Int.one_mul]
    omega
theorem own_sm (v : Tb) (p : Nat) : sm 4 (fun e => v (e * 4 + p)) = own v p := by
  simp [sm, own]
theorem wp_countVotes (hv : ∀ l, l < 16 → 0 ≤ σ 2 l ∧ σ 2 l ≤ 500) (hb : 0 ≤ σ 0 2 ∧ σ 0 2 ≤ 1000) (KQ : ∀ τ' : HP, (∀ r, r ≠ 5 → τ' r = σ r) → (∀ l, l < 16 → τ' 5 l = cntF (σ 2) (σ 0 2) l) → Q none τ') : Wp d Y3_countVotes SX 0 [some (vr 0), none, none, none, none, none] [] σ Q X := by
  have hall := sm_bd (f := σ 2) 16 hv
  -- the inner loop: a party's lists
  have l3 : ∀ (p : Nat), p < 4 → ∀ (o : Int), (o = if 1000 * own (σ 2) p < σ 0 2 * allV (σ 2) then 1 else 0) → ∀ k i : Nat, i + k = 4 → ∀ τ : HP, (∀ r, r ≠ 5 → τ r = σ r) → (∀ l, l < 16 → (l % 4 < p ∨ (l % 4 = p ∧ l / 4 < i)) → τ 5 l = cntF (σ 2) (σ 0 2) l) →
      (∀ τ' : HP, (∀ r, r ≠ 5 → τ' r = σ r) → (∀ l, l < 16 → l % 4 < p + 1 → τ' 5 l = cntF (σ 2) (σ 0 2) l) → Wp d Y3_countVotes SX 130 [some (vr 0), some (vi (sm 16 (σ 2))), some (vi (p : Int)), none, none, none] [] τ' Q X) →
      Wp d Y3_countVotes SX 87 [some (vr 0), some (vi (sm 16 (σ 2))), some (vi (p : Int)), none, some (vi o), some (vi (i : Int))] [] τ Q X := by
    intro p hp o ho k
    induction k with
    | zero =>
      intro i hi τ h5 hc K
      have e : i = 4 := by omega
      subst e
      exact b3_countVotes_87 _ _ _ _ ⟨by omega, by omega⟩ (fun _ => K τ h5 (fun l hl hm => hc l hl (by omega))) (fun h => absurd h (by omega))
    | succ k ih =>
      intro i hi τ h5 hc K
      have key : ∀ z : Int, z = cntF (σ 2) (σ 0 2) (i * 4 + p) → Wp d Y3_countVotes SX 123 [some (vr 0), some (vi (sm 16 (σ 2))), some (vi (p : Int)), none, some (vi o), some (vi (i : Int))] [vi z, vi (((i : Int) * 4) + (p : Int)), vr 5] τ Q X := by
        intro z hz
        refine b3_countVotes_123 _ _ _ _ _ _ ⟨by omega, by omega⟩ (ih (i + 1) (by omega) _ (fun r hr => ?_) (fun l hl hm => ?_) K)
        · rw [up_ne hr]; exact h5 r hr
        · have e1 : (((i : Int) * 4) + (p : Int)).toNat = i * 4 + p := by omega
          rw [e1]
          by_cases q : l = i * 4 + p
          · rw [q, up_at]; exact hz
          · rw [up_nj q]; exact hc l hl (by omega)
      refine b3_countVotes_87 _ _ _ _ ⟨by omega, by omega⟩ (fun h => absurd h (by omega)) (fun _ => ?_)
      refine b3_countVotes_93 _ _ _ _ (by rw [ho]; split <;> exact ⟨by decide, by decide⟩) (fun q => ?_) (fun q => ?_)
      · refine b3_countVotes_112 _ _ _ _ _ ⟨by omega, by omega⟩ (key _ ?_)
        have e1 : (((i : Int) * 4) + (p : Int)).toNat = i * 4 + p := by omega
        rw [e1, h5 2 (by decide)]
        unfold cntF
        rw [show (i * 4 + p) % 4 = p by omega]
        split at ho
        · omega
        · next q2 => rw [if_neg q2]
      · refine b3_countVotes_108 _ _ _ _ _ (key 0 ?_)
        unfold cntF
        rw [show (i * 4 + p) % 4 = p by omega]
        split at ho
        · next q2 => rw [if_pos q2]
        · omega
  -- a party's own votes
  have l2 : ∀ (τ : HP), (∀ r, r ≠ 5 → τ r = σ r) → ∀ (p : Nat), p < 4 → (Wp d Y3_countVotes SX 63 [some (vr 0), some (vi (sm 16 (σ 2))), some (vi (p : Int)), some (vi (own (σ 2) p)), none, none] [] τ Q X) → ∀ k i : Nat, i + k = 4 →
      Wp d Y3_countVotes SX 37 [some (vr 0), some (vi (sm 16 (σ 2))), some (vi (p : Int)), some (vi (sm i (fun e => σ 2 (e * 4 + p)))), some (vi (i : Int)), none] [] τ Q X := by
    intro τ h5 p hp K k
    induction k with
    | zero =>
      intro i hi
      have e : i = 4 := by omega
      subst e
      rw [own_sm]
      exact b3_countVotes_37 _ _ _ _ ⟨by omega, by omega⟩ (fun _ => K) (fun h => absurd h (by omega))
    | succ k ih =>
      intro i hi
      refine b3_countVotes_37 _ _ _ _ ⟨by omega, by omega⟩ (fun h => absurd h (by omega)) (fun _ => b3_countVotes_43 _ _ _ _ ⟨by omega, by omega⟩ ?_)
      rw [h5 2 (by decide)]
      exact ih (i + 1) (by omega)
  have ownb : ∀ p, p < 4 → 0 ≤ own (σ 2) p ∧ own (σ 2) p ≤ 2000 := by
    intro p hp
    have a0 := hv p (by omega)
    have a1 := hv (4 + p) (by omega)
    have a2 := hv (8 + p) (by omega)
    have a3 := hv (12 + p) (by omega)
    unfold own; omega
  have prodb : 0 ≤ σ 0 2 * sm 16 (σ 2) ∧ σ 0 2 * sm 16 (σ 2) ≤ 1000 * 8000 := ⟨Int.mul_nonneg hb.1 hall.1, Int.mul_le_mul hb.2 (by omega) hall.1 (by omega)⟩
  -- all parties
  have l1 : ∀ k p : Nat, p + k = 4 → ∀ τ : HP, (∀ r, r ≠ 5 → τ r = σ r) → (∀ l, l < 16 → l % 4 < p → τ 5 l = cntF (σ 2) (σ 0 2) l) →
      (∀ τ' : HP, (∀ r, r ≠ 5 → τ' r = σ r) → (∀ l, l < 16 → τ' 5 l = cntF (σ 2) (σ 0 2) l) → Q none τ') →
      Wp d Y3_countVotes SX 27 [some (vr 0), some (vi (sm 16 (σ 2))), some (vi (p : Int)), none, none, none] [] τ Q X := by
    intro k
    induction k with
    | zero =>
      intro p hp τ h5 hc K
      have e : p = 4 := by omega
      subst e
      exact b3_countVotes_27 _ _ ⟨by omega, by omega⟩ (fun _ => b3_countVotes_136 (K τ h5 (fun l hl => hc l hl (by omega)))) (fun h => absurd h (by omega))
    | succ k ih =>
      intro p hp τ h5 hc K
      have hp4 : p < 4 := by omega
      have hob := ownb p hp4
      refine b3_countVotes_27 _ _ ⟨by omega, by omega⟩ (fun h => absurd h (by omega)) (fun _ => b3_countVotes_32 _ _ (l2 τ h5 p hp4 ?_ 4 0 rfl))
      have e02 : τ 0 2 = σ 0 2 := by rw [h5 0 (by decide)]
      have next : ∀ o : Int, (o = if 1000 * own (σ 2) p < σ 0 2 * allV (σ 2) then 1 else 0) → Wp d Y3_countVotes SX 82 [some (vr 0), some (vi (sm 16 (σ 2))), some (vi (p : Int)), none, none, none] [vi o] τ Q X := by
        intro o ho
        refine b3_countVotes_82 _ _ _ (l3 p hp4 o ho 4 0 rfl τ h5 (fun l hl hm => hc l hl (by omega)) (fun τ' h5' hc' => ?_))
        exact b3_countVotes_130 _ _ (ih (p + 1) (by omega) τ' h5' hc' K)
      refine b3_countVotes_63 _ _ _ ⟨by omega, by omega⟩ (by rw [e02]; exact ⟨by omega, by omega⟩) (fun q => ?_) (fun q => ?_)
      · rw [e02] at q
        exact b3_countVotes_81 _ _ (next 0 (by rw [if_neg (by unfold allV; omega)]))
      · rw [e02] at q
        exact b3_countVotes_77 _ _ (next 1 (by rw [if_pos (by unfold allV; omega)]))
  have l0 : ∀ k i : Nat, i + k = 16 → Wp d Y3_countVotes SX 25 [some (vr 0), some (vi (sm 16 (σ 2))), none, none, none, none] [] σ Q X → Wp d Y3_countVotes SX 4 [some (vr 0), some (vi (sm i (σ 2))), some (vi (i : Int)), none, none, none] [] σ Q X := by
    intro k
    induction k with
    | zero =>
      intro i hi K
      have e : i = 16 := by omega
      subst e
      exact b3_countVotes_4 _ _ ⟨by omega, by omega⟩ (fun _ => K) (fun h => absurd h (by omega))
    | succ k ih =>
      intro i hi K
      exact b3_countVotes_4 _ _ ⟨by omega, by omega⟩ (fun h => absurd h (by omega)) (fun _ => b3_countVotes_10 _ _ ⟨by omega, by omega⟩ (ih (i + 1) (by omega) K))
  exact b3_countVotes_0 (l0 16 0 rfl (b3_countVotes_25 _ (l1 4 0 rfl σ (fun _ _ => rfl) (fun l _ h => by omega) KQ)))
theorem ok_countVotes (hv : ∀ l, l < 16 → 0 ≤ σ 2 l ∧ σ 2 l ≤ 500) (hb : 0 ≤ σ 0 2 ∧ σ 0 2 ≤ 1000) : Ok d Y3_countVotes SX [vr 0] σ (qv fun σ' => (∀ r, r ≠ 5 → σ' r = σ r) ∧ ∀ l, l < 16 → σ' 5 l = cntF (σ 2) (σ 0 2) l) :=
  Ok.ofWp (by decide) (Nat.le_of_ble_eq_true rfl) (wp_countVotes hv hb fun τ h1 h2 => ⟨rfl, h1, h2⟩)
theorem mulF_bd {sz : Tb} {dd : Nat} (hs : ∀ e, e < 4 → 0 ≤ sz e ∧ sz e ≤ 20) : ∀ n, n ≤ 4 → 0 ≤ mulF sz dd n ∧ mulF sz dd n ≤ 20 ^ n
  | 0, _ => by simp [mulF]
  | n + 1, h => by
    obtain ⟨h1, h2⟩ := mulF_bd (sz := sz) (dd := dd) hs n (by omega)
    have h3 := hs n (by omega)
    simp only [mulF]
    rw [Int.pow_succ]
    split
    · exact ⟨h1, by omega⟩
    · exact ⟨Int.mul_nonneg h1 h3.1, Int.mul_le_mul h2 h3.2 h3.1 (by omega)⟩
theorem ok_soom {D dd : Nat} (hD : σ 0 0 = D) (hD4 : D ≤ 4) (hdd : dd < 4) (hs : ∀ e, e < 4 → 0 ≤ σ 1 e ∧ σ 1 e ≤ 20) : Ok d Y3_seatsOfOthersMultiplied SX [vr 0, vi dd] σ (ql fun z σ' => σ' = σ ∧ z = mulF (σ 1) dd D) := by
  refine Ok.ofWp (by decide) (Nat.le_of_ble_eq_true rfl) ?_
  have lp : ∀ k i : Nat, i + k = D → Wp d Y3_seatsOfOthersMultiplied SX 5 [some (vr 0), some (vi (dd : Int)), some (vl (mulF (σ 1) dd i)), none, some (vi (i : Int))] [] σ (ql fun z σ' => σ' = σ ∧ z = mulF (σ 1) dd D) (fun _ _ _ _ => False) := by
    intro k
    induction k with
    | zero =>
      intro i hi
      have e : i = D := by omega
      subst e
      exact b3_seatsOfOthersMultiplied_5 _ _ _ ⟨by omega, by omega⟩ ⟨by omega, by omega⟩ (fun _ => b3_seatsOfOthersMultiplied_37 _ ⟨_, rfl, rfl, rfl⟩) (fun h => absurd h (by omega))
    | succ k ih =>
      intro i hi
      refine b3_seatsOfOthersMultiplied_5 _ _ _ ⟨by omega, by omega⟩ ⟨by omega, by omega⟩ (fun h => absurd h (by omega)) (fun _ => ?_)
      have hi1 := ih (i + 1) (by omega)
      simp only [mulF] at hi1
      refine b3_seatsOfOthersMultiplied_14 _ _ _ ⟨by omega, by omega⟩ ⟨by omega, by omega⟩ (fun q => ?_) (fun q => ?_)
      · rw [if_pos (by omega)] at hi1
        exact b3_seatsOfOthersMultiplied_31 _ _ _ hi1
      · rw [if_neg (by omega)] at hi1
        have := hs i (by omega)
        exact b3_seatsOfOthersMultiplied_20 _ _ _ ⟨by omega, by omega⟩ ⟨by show _ ≤ σ 1 i; omega, by show σ 1 i ≤ _; omega⟩ (b3_seatsOfOthersMultiplied_31 _ _ _ hi1)
  exact b3_seatsOfOthersMultiplied_0 _ (lp D 0 (by omega))
theorem ok_weightOf {D pp : Nat} (hD : σ 0 0 = D) (hD4 : D ≤ 4) (hpp : pp < 4) (hs : ∀ e, e < 4 → 0 ≤ σ 1 e ∧ σ 1 e ≤ 20) (hc : ∀ l, l < 16 → 0 ≤ σ 5 l ∧ σ 5 l ≤ 500) (hw : σ 0 3 = 0 ∨ σ 0 3 = 1) : Ok (d + 1) Y3_weightOf SX [vr 0, vi pp] σ (ql fun z σ' => σ' = σ ∧ z = wtF D (σ 0 3) (σ 1) (σ 5) pp) := by
  refine Ok.ofWp (by decide) (Nat.le_of_ble_eq_true rfl) ?_
  have lp : ∀ k i : Nat, i + k = D → Wp (d + 1) Y3_weightOf SX 5 [some (vr 0), some (vi (pp : Int)), some (vl (sm i (fun e => if σ 0 3 = 0 then σ 5 (e * 4 + pp) else σ 5 (e * 4 + pp) * mulF (σ 1) e D))), none, some (vi (i : Int)), none, none] [] σ (ql fun z σ' => σ' = σ ∧ z = wtF D (σ 0 3) (σ 1) (σ 5) pp) (fun _ _ _ _ => False) := by
    intro k
    induction k with
    | zero =>
      intro i hi
      have e : i = D := by omega
      subst e
      exact b3_weightOf_5 _ _ _ ⟨by omega, by omega⟩ ⟨by omega, by omega⟩ (fun _ => b3_weightOf_58 _ ⟨_, rfl, rfl, rfl⟩) (fun h => absurd h (by omega))
    | succ k ih =>
      intro i hi
      refine b3_weightOf_5 _ _ _ ⟨by omega, by omega⟩ ⟨by omega, by omega⟩ (fun h => absurd h (by omega)) (fun _ => ?_)
      have hi1 := ih (i + 1) (by omega)
      simp only [sm] at hi1
      have hcl := hc (i * 4 + pp) (by omega)
      have e1 : (((i : Int) * 4) + (pp : Int)).toNat = i * 4 + pp := by omega
      refine b3_weightOf_14 _ _ _ ⟨by omega, by omega⟩ (by rw [e1]; exact ⟨by omega, by omega⟩) (by rcases hw with h | h <;> rw [h] <;> exact ⟨by decide, by decide⟩) (fun q => ?_) (fun q => ?_)
      · rw [if_pos q] at hi1
        rw [e1]
        exact b3_weightOf_48 _ _ _ _ (b3_weightOf_50 _ _ _ _ hi1)
      · rw [if_neg q] at hi1
        rw [e1]
        refine b3_weightOf_36 _ _ _ _ (ok_soom hD hD4 (show i < 4 by omega) hs) (fun z σ' h => ?_)
        obtain ⟨rfl, rfl⟩ := h
        exact b3_weightOf_44 _ _ _ _ _ (b3_weightOf_50 _ _ _ _ hi1)
  exact b3_weightOf_0 _ (lp D 0 (by omega))
end XA
