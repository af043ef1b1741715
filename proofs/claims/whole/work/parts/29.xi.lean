/-! ===== the class: going along rings ===== -/
def c16 (c : Tb) : Tb := fun l => if l < 16 then c l else 0
theorem c16_lt {c : Tb} {l : Nat} (h : l < 16) : c16 c l = c l := by simp [c16, h]
theorem c16_nn {c : Tb} (h : ∀ l, l < 16 → 0 ≤ c l) (l : Nat) : 0 ≤ c16 c l := by
  unfold c16; split
  · next q => exact h l q
  · omega
theorem fit_c {c c' sz sh t : Tb} (h : ∀ l, l < 16 → c' l = c l) (hf : fitT c sz sh t) : fitT c' sz sh t := ⟨hf.1, fun l hl e => hf.2.1 l hl (by rw [← h l hl]; exact e), hf.2.2⟩
theorem fit_e {c c' sz sz' sh sh' t t' : Tb} (h : ∀ l, l < 16 → c' l = c l) (hz : ∀ l, l < 4 → sz' l = sz l) (hh : ∀ l, l < 4 → sh' l = sh l) (ht : ∀ l, l < 16 → t' l = t l) (hf : fitT c sz sh t) : fitT c' sz' sh' t' := by
  refine ⟨fun l hl => by rw [ht l hl]; exact hf.1 l hl, fun l hl e => by rw [ht l hl]; exact hf.2.1 l hl (by rw [← h l hl]; exact e), fun d hd => ?_, fun p hp => ?_⟩
  · rw [ht _ (by omega), ht _ (by omega), ht _ (by omega), ht _ (by omega), hz d hd]; exact hf.2.2.1 d hd
  · rw [ht _ (by omega), ht _ (by omega), ht _ (by omega), ht _ (by omega), hh p hp]; exact hf.2.2.2 p hp
theorem ring_16 {k : Nat} {D P : Nat → Nat} (h : isRing k D P) {i : Nat} (hi : i < k) : mo D P i < 16 ∧ le k D P i < 16 := by
  have h1 := h.2.2.1 i hi
  have h2 := h.2.2.1 (nxt k i) (by unfold nxt; split <;> omega)
  unfold mo le
  omega
theorem gain_c {c c' t t' : Tb} {k : Nat} {D P : Nat → Nat} (h : ∀ l, l < 16 → c' l = c l) (ht : ∀ l, l < 16 → t' l = t l) (hR : isRing k D P) : upR c' t' k D P k = upR c t k D P k ∧ dnR c' t' k D P k = dnR c t k D P k :=
  ⟨pr_ext fun i hi => by rw [h _ (ring_16 hR hi).1, ht _ (ring_16 hR hi).2], pr_ext fun i hi => by rw [h _ (ring_16 hR hi).2, ht _ (ring_16 hR hi).1]⟩
theorem can_c {c c' t t' : Tb} {k : Nat} {D P : Nat → Nat} (h : ∀ l, l < 16 → c' l = c l) (ht : ∀ l, l < 16 → t' l = t l) (hR : isRing k D P) (hr : canT c t k D P) : canT c' t' k D P := fun i hi => by
  rw [h _ (ring_16 hR hi).1, ht _ (ring_16 hR hi).2]; exact hr i hi
theorem good_c {c c' t t' : Tb} {w : Int} {k : Nat} {D P : Nat → Nat} (h : ∀ l, l < 16 → c' l = c l) (ht : ∀ l, l < 16 → t' l = t l) (hg : goodR c t w k D P) : goodR c' t' w k D P := by
  obtain ⟨e1, e2⟩ := gain_c h ht hg.1
  refine ⟨hg.1, can_c h ht hg.1 hg.2.1, ?_⟩
  rw [e1, e2]; exact hg.2.2
theorem best_c {c c' t t' : Tb} {w : Int} (h : ∀ l, l < 16 → c' l = c l) (ht : ∀ l, l < 16 → t' l = t l) (hb : bestT c t w) : bestT c' t' w := fun k D P hg => hb k D P (good_c (fun l hl => (h l hl).symm) (fun l hl => (ht l hl).symm) hg)
theorem obey_c {c c' t t' : Tb} (h : ∀ l, l < 16 → c' l = c l) (ht : ∀ l, l < 16 → t' l = t l) (hb : obeyT c t) : obeyT c' t' := fun k D P hR hr => by
  obtain ⟨e1, e2⟩ := gain_c h ht hR
  rw [e1, e2]
  exact hb k D P hR (can_c (fun l hl => (h l hl).symm) (fun l hl => (ht l hl).symm) hR hr)
theorem fit_20 {c sz sh t : Tb} (hf : fitT c sz sh t) (hs : ∀ e, e < 4 → sz e ≤ 20) : ∀ l, l < 16 → 0 ≤ t l ∧ t l ≤ 20 := by
  have h0 : ∀ l, l < 16 → 0 ≤ t l := hf.1
  intro l hl
  refine ⟨h0 l hl, ?_⟩
  have e := hf.2.2.1 (l / 4) (by omega)
  have q := hs (l / 4) (by omega)
  have a0 := h0 (4 * (l / 4)) (by omega)
  have a1 := h0 (4 * (l / 4) + 1) (by omega)
  have a2 := h0 (4 * (l / 4) + 2) (by omega)
  have a3 := h0 (4 * (l / 4) + 3) (by omega)
  rcases (show l = 4 * (l / 4) ∨ l = 4 * (l / 4) + 1 ∨ l = 4 * (l / 4) + 2 ∨ l = 4 * (l / 4) + 3 by omega) with g | g | g | g <;> rw [g] <;> omega
theorem up_inc {σ : HP} {r l : Nat} {z : Int} : up σ r l (σ r l + z) r = inc (σ r) l z := by
  funext j
  unfold inc
  by_cases e : j = l
  · subst e; rw [up_at, if_pos rfl]
  · rw [up_nj e, if_neg e]
section XI
variable {d : Nat} {σ : HP} {Q : MQt} {X : MXt}
theorem ok_goAlong {r k : Nat} {D P : Nat → Nat} (hr : SX[r]? = some (.inl (.inl 16))) (hR : isRing k D P) (hk : σ 12 2 = (k : Int)) (hv : ∀ i, i < k → σ 13 i = (D i : Int) ∧ σ 14 i = (P i : Int)) : Ok d Y2_goAlong SX [vr 12, vr r] σ (qv fun σ' => (∀ x, x ≠ r → σ' x = σ x) ∧ σ' r = goN (σ r) k D P k) := by
  refine Ok.ofWp (by decide) (Nat.le_of_ble_eq_true rfl) ?_
  have n1 : r ≠ 12 := fun e => by rw [e] at hr; cases hr
  have n2 : r ≠ 13 := fun e => by rw [e] at hr; cases hr
  have n3 : r ≠ 14 := fun e => by rw [e] at hr; cases hr
  have k2 := hR.1
  have k4 := hR.2.1
  have lp : ∀ m i : Nat, i + m = k → ∀ τ : HP, (∀ x, x ≠ r → τ x = σ x) → τ r = goN (σ r) k D P i → Wp d Y2_goAlong SX 2 [some (vr 12), some (vr r), some (vi (i : Int)), none] [] τ (qv fun σ' => (∀ x, x ≠ r → σ' x = σ x) ∧ σ' r = goN (σ r) k D P k) (fun _ _ _ _ => False) := by
    intro m
    induction m with
    | zero =>
      intro i hi τ h1 h2
      have e : i = k := by omega
      subst e
      have e12 : τ 12 2 = (i : Int) := by rw [h1 12 (Ne.symm n1)]; exact hk
      exact b2_goAlong_2 _ _ ⟨by omega, by omega⟩ (by rw [e12]; exact ⟨by omega, by omega⟩) (fun _ => b2_goAlong_81 ⟨rfl, h1, h2⟩) (fun q => by rw [e12] at q; omega)
    | succ m ih =>
      intro i hi τ h1 h2
      have e12 : τ 12 2 = (k : Int) := by rw [h1 12 (Ne.symm n1)]; exact hk
      have hi' : i < k := by omega
      have e13 : ∀ j, j < k → τ 13 j = (D j : Int) := fun j hj => by rw [h1 13 (Ne.symm n2)]; exact (hv j hj).1
      have e14 : ∀ j, j < k → τ 14 j = (P j : Int) := fun j hj => by rw [h1 14 (Ne.symm n3)]; exact (hv j hj).2
      have hx : nxt k i < k := by unfold nxt; split <;> omega
      have b1 := hR.2.2.1 i hi'
      have b2 := hR.2.2.1 (nxt k i) hx
      have em : (((D i : Nat) : Int) * 4 + ((P i : Nat) : Int)).toNat = mo D P i := by unfold mo; omega
      have el : (((D (nxt k i) : Nat) : Int) * 4 + ((P i : Nat) : Int)).toNat = le k D P i := by unfold le; omega
      refine b2_goAlong_2 _ _ ⟨by omega, by omega⟩ (by rw [e12]; exact ⟨by omega, by omega⟩) (fun q => by rw [e12] at q; omega) (fun _ => ?_)
      have main : Wp d Y2_goAlong SX 37 [some (vr 12), some (vr r), some (vi (i : Int)), none] [vi ((D (nxt k i) : Nat) : Int)] τ (qv fun σ' => (∀ x, x ≠ r → σ' x = σ x) ∧ σ' r = goN (σ r) k D P k) (fun _ _ _ _ => False) := by
        refine b2_goAlong_37 _ _ _ ⟨by omega, by omega⟩ hr ?_ ?_ ?_
        · rw [Int.toNat_natCast, e13 i hi', e14 i hi']; omega
        · rw [Int.toNat_natCast, up_nr (Ne.symm n3), e14 i hi']; omega
        · rw [Int.toNat_natCast, up_nr (Ne.symm n3), e13 i hi', e14 i hi', em, el]
          refine ih (i + 1) (by omega) _ (fun x hx => by rw [up_ne hx, up_ne hx]; exact h1 x hx) ?_
          show _ = inc (inc (goN (σ r) k D P i) (mo D P i) 1) (le k D P i) (-1)
          rw [← h2, ← up_inc (σ := τ), ← up_inc (z := -1)]
          rfl
      refine b2_goAlong_10 _ _ ⟨by omega, by omega⟩ (by rw [e12]; exact ⟨by omega, by omega⟩) (fun q => ?_) (fun q => ?_)
      · rw [e12] at q
        refine b2_goAlong_31 _ _ ?_
        rw [e13 0 (by omega)]
        rw [show nxt k i = 0 by unfold nxt; rw [if_neg (by omega)]] at main
        exact main
      · rw [e12] at q
        refine b2_goAlong_20 _ _ ⟨by omega, by omega⟩ ?_
        rw [show ((i : Int) + 1).toNat = i + 1 by omega, e13 (i + 1) (by omega)]
        rw [show nxt k i = i + 1 by unfold nxt; rw [if_pos (by omega)]] at main
        exact main
  exact b2_goAlong_0 _ (lp k 0 (by omega) σ (fun _ _ => rfl) rfl)
theorem ok_climb {r : Nat} {c sz sh t : Tb} {w : Int} (hw : w = 0 ∨ w = 1 ∨ w = 2) (hr : SX[r]? = some (.inl (.inl 16))) (h5r : r ≠ 5) (h5 : σ 5 = c) (ht : σ r = t) (hc : ∀ l, l < 16 → 0 ≤ c l ∧ c l ≤ 500) (hf : fitT c sz sh t) (hs : ∀ e, e < 4 → 0 ≤ sz e) (h20 : sz 0 + sz 1 + sz 2 + sz 3 ≤ 20) :
    Ok (d + 10) Y2_climb SX [vr 12, vr 5, vr r, vi w] σ (qv fun σ' => (∀ x, x ≠ r → x ≠ 12 → x ≠ 13 → x ≠ 14 → σ' x = σ x) ∧ fitT c sz sh (σ' r) ∧ bestT c (σ' r) w) := by
  refine Ok.ofWp (by decide) (Nat.le_of_ble_eq_true rfl) ?_
  obtain ⟨μ, m1, m2⟩ := mu_ex (c := c16 c) (sz := sz) (sh := sh) w hs h20
  have e16 : ∀ l, l < 16 → c16 c l = c l := fun l hl => c16_lt hl
  have s20 : ∀ e, e < 4 → sz e ≤ 20 := by
    have a := hs 0 (by omega)
    have b := hs 1 (by omega)
    have c := hs 2 (by omega)
    have f := hs 3 (by omega)
    intro e he
    rcases (show e = 0 ∨ e = 1 ∨ e = 2 ∨ e = 3 by omega) with rfl | rfl | rfl | rfl <;> omega
  have n1 : r ≠ 12 := fun e => by rw [e] at hr; cases hr
  have n2 : r ≠ 13 := fun e => by rw [e] at hr; cases hr
  have n3 : r ≠ 14 := fun e => by rw [e] at hr; cases hr
  have lp : ∀ m i : Nat, i + m = 175617 → ∀ τ : HP, μ (τ r) < m → (∀ x, x ≠ r → x ≠ 12 → x ≠ 13 → x ≠ 14 → τ x = σ x) → fitT c sz sh (τ r) →
      Wp (d + 9 + 1) Y2_climb SX 3 [some (vr 12), some (vr 5), some (vr r), some (vi w), some (vi (i : Int))] [] τ (qv fun σ' => (∀ x, x ≠ r → x ≠ 12 → x ≠ 13 → x ≠ 14 → σ' x = σ x) ∧ fitT c sz sh (σ' r) ∧ bestT c (σ' r) w) (fun _ _ _ _ => False) := by
    intro m
    induction m with
    | zero => intro i hi τ hm; omega
    | succ m ih =>
      intro i hi τ hm h1 h2
      refine b2_climb_3 _ _ _ ?_
      refine Wp.ldc (z := 1000000) (ix := 18) (by decide +kernel) (by decide +kernel) ?_
      refine b2_climb_7 _ _ _ _ _ ⟨by omega, by omega⟩ ⟨by decide, by decide⟩ (fun q => absurd q (by omega)) (fun _ => ?_)
      have hz : ∀ l, l < 16 → 0 < τ r l → 0 < c l := fun l hl q => by
        have a := (hc l hl).1
        have b := h2.2.1 l hl
        omega
      have hR : RH0 τ r c (τ r) := ⟨hr, by rw [h1 5 (Ne.symm h5r) (by decide) (by decide) (by decide)]; exact h5, rfl, hc, fit_20 h2 s20, hz⟩
      refine b2_climb_10 (d := d + 9) _ _ _ (ok_isFound hw hR) (fun z τ' hz' => ?_)
      obtain ⟨k1, hz'⟩ := hz'
      have er : τ' r = τ r := k1 r n1 n2 n3
      have k2 : ∀ x, x ≠ r → x ≠ 12 → x ≠ 13 → x ≠ 14 → τ' x = σ x := fun x a b e f => by rw [k1 x b e f]; exact h1 x a b e f
      rcases hz' with ⟨rfl, hfd⟩ | ⟨rfl, hb⟩
      · obtain ⟨k, D, P, hg, e12, hv⟩ := hfd
        refine b2_climb_17 _ _ _ _ ⟨by decide, by decide⟩ (fun g => absurd g (by decide)) (fun _ => ?_)
        refine b2_climb_20 (d := d + 9) _ _ _ (ok_goAlong hr hg.1 e12 hv) (fun τ2 h3 => ?_)
        obtain ⟨h3, h4⟩ := h3
        rw [er] at h4
        obtain ⟨g1, g2⟩ := good_btr (c16_nn fun l hl => (hc l hl).1) (fit_c e16 h2) (good_c e16 (fun _ _ => rfl) hg)
        have := m2 _ _ g1 g2
        refine b2_climb_25 _ _ _ (ih (i + 1) (by omega) τ2 (by rw [h4]; omega) (fun x a b e f => by rw [h3 x a]; exact k2 x a b e f) ?_)
        rw [h4]
        exact fit_c (fun l hl => (e16 l hl).symm) g1
      · exact b2_climb_17 _ _ _ _ ⟨by decide, by decide⟩ (fun _ => b2_climb_31 ⟨rfl, k2, by rw [er]; exact h2, by rw [er]; exact hb⟩) (fun g => absurd rfl g)
  exact b2_climb_0 _ _ (lp 175617 0 rfl σ (by have := m1 (σ r); omega) (fun _ _ _ _ _ => rfl) (by rw [ht]; exact hf))
end XI
