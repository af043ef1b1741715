/-! ===== the class: what always holds, and solving ===== -/
def TB (σ : HP) (D : Nat) : Prop := fitT (cF σ) (σ 1) (sF σ D) (σ 8) ∧ bestT (cF σ) (σ 8) 1 ∧ fitT (cF σ) (σ 1) (sF σ D) (σ 9) ∧ bestT (cF σ) (σ 9) 2 ∧ ∀ j, j < 8 → σ 16 j = (nums (cF σ) (σ 8) 8).1 j ∧ σ 17 j = (nums (cF σ) (σ 8) 8).2 j
def BK (σ : HP) (D : Nat) : Prop := ∃ A B : Nat, σ 0 13 = A ∧ σ 0 14 = B ∧ 1 ≤ A ∧ blkPost (cF σ) (σ 1) (sF σ D) D A B
def nobad (σ : HP) (D : Nat) : Prop := ∀ s, 1 ≤ s → s < 2 ^ D → ¬ badS (cF σ) (σ 1) (sF σ D) s
def SolX (σ : HP) (D : Nat) : Prop := σ 0 11 = 1 → (∃ p, p < 4 ∧ 0 < wF σ D p) ∧ ((σ 0 12 = 1 ∧ nobad σ D ∧ TB σ D) ∨ (σ 0 12 = 0 ∧ BK σ D))
def XR (σ : HP) (P : Nat) : Prop := (∀ p, p < 4 → σ 4 p = 4 + (p : Int) ∨ (0 ≤ σ 4 p ∧ σ 4 p < 4 ∧ p < P)) ∧ ∀ p q, p < 4 → q < 4 → σ 4 p = σ 4 q → p = q
def XI (σ : HP) (D P : Nat) : Prop := XV σ D ∧ P ≤ 4 ∧ σ 0 1 = P ∧ (∀ e, e < 4 → D ≤ e → σ 1 e = 0) ∧ (∀ e, e < D → 1 ≤ σ 1 e) ∧ (∀ l, l < 16 → D ≤ l / 4 ∨ P ≤ l % 4 → σ 2 l = 0 ∧ σ 3 l = 0) ∧ (∀ l, l < 16 → 0 ≤ σ 3 l ∧ σ 3 l ≤ 20) ∧ XR σ P ∧ (σ 0 11 = 0 ∨ σ 0 11 = 1) ∧ (σ 0 12 = 0 ∨ σ 0 12 = 1) ∧ SolX σ D
/-- what the answers stand on is the same -/
def sameX (σ σ' : HP) : Prop := σ' 0 = σ 0 ∧ σ' 1 = σ 1 ∧ σ' 2 = σ 2 ∧ σ' 3 = σ 3 ∧ σ' 4 = σ 4 ∧ σ' 8 = σ 8 ∧ σ' 9 = σ 9 ∧ σ' 16 = σ 16 ∧ σ' 17 = σ 17
theorem sameX.rf {σ : HP} : sameX σ σ := ⟨rfl, rfl, rfl, rfl, rfl, rfl, rfl, rfl, rfl⟩
theorem sameX.of {σ σ' : HP} (h : ∀ r, r ≠ 5 → r ≠ 6 → r ≠ 7 → σ' r = σ r) : sameX σ σ' := by
  refine ⟨?_, ?_, ?_, ?_, ?_, ?_, ?_, ?_, ?_⟩ <;> exact h _ (by decide) (by decide) (by decide)
theorem cF_s {σ σ' : HP} (h0 : σ' 0 = σ 0) (h2 : σ' 2 = σ 2) : cF σ' = cF σ := by unfold cF; rw [h0, h2]
theorem wF_s {σ σ' : HP} (h0 : σ' 0 = σ 0) (h1 : σ' 1 = σ 1) (h2 : σ' 2 = σ 2) (D : Nat) : wF σ' D = wF σ D := by unfold wF; rw [cF_s h0 h2, h0, h1]
theorem sF_s {σ σ' : HP} (h0 : σ' 0 = σ 0) (h1 : σ' 1 = σ 1) (h2 : σ' 2 = σ 2) (h4 : σ' 4 = σ 4) (D : Nat) : sF σ' D = sF σ D := by unfold sF; rw [wF_s h0 h1 h2, h1, h4]
theorem XV.same {σ σ' : HP} {D : Nat} (h0 : σ' 0 = σ 0) (h1 : σ' 1 = σ 1) (h2 : σ' 2 = σ 2) (h4 : σ' 4 = σ 4) (h : XV σ D) : XV σ' D := by
  unfold XV at h ⊢; rw [h0, h1, h2, h4]; exact h
theorem XI.same {σ σ' : HP} {D P : Nat} (h : XI σ D P) (hs : sameX σ σ') : XI σ' D P := by
  obtain ⟨h0, h1, h2, h3, h4, h8, h9, h16, h17⟩ := hs
  obtain ⟨a1, a⟩ := h
  refine ⟨a1.same h0 h1 h2 h4, ?_⟩
  unfold XR SolX nobad TB BK at a ⊢
  rw [cF_s h0 h2, wF_s h0 h1 h2, sF_s h0 h1 h2 h4, h0, h1, h2, h3, h4, h8, h9, h16, h17]
  exact a
theorem sum4 (f : Tb) : sm 4 f = f 0 + f 1 + f 2 + f 3 := by simp [sm]
theorem best_obey {c t : Tb} {w : Int} (h : bestT c t w) : obeyT c t := fun k D P hR hr => by
  by_cases q : upR c t k D P k ≤ dnR c t k D P k
  · exact q
  · exact absurd ⟨hR, hr, Or.inl (by omega)⟩ (h k D P)
theorem sF_bd {σ : HP} {D : Nat} (h : XV σ D) : ∀ p, p < 4 → 0 ≤ sF σ D p ∧ sF σ D p ≤ 20 := by
  intro p _
  have a := shF_bd (wF σ D) (σ 4) (sm 4 (σ 1)).toNat p
  have b := h.2.2.2.2.2.1
  unfold sF
  omega
theorem sF_sum {σ : HP} {D : Nat} (h : XV σ D) : sm 4 (sF σ D) = sm 4 (σ 1) := by
  have a := shF_sum (wF σ D) (σ 4) (sm 4 (σ 1)).toNat
  have e := (sm_bd (f := σ 1) (m := 20) 4 fun i hi => h.2.2.2.2.1 i hi).1
  rw [sum4]
  unfold sF
  omega
theorem cF_out {σ : HP} {D P : Nat} (h : XI σ D P) : ∀ l, l < 16 → D ≤ l / 4 ∨ P ≤ l % 4 → cF σ l = 0 := by
  intro l hl hq
  have := (h.2.2.2.2.2.1 l hl hq).1
  unfold cF cntF
  split
  · rfl
  · exact this
section XL
variable {d : Nat} {σ : HP} {Q : MQt} {X : MXt}
theorem ok_findTables {D P : Nat} {σ0 : HP} (hx : XI σ0 D P) (h0 : sameX σ0 σ ∨ ((∀ j, j < 4 → σ 0 j = σ0 0 j) ∧ σ 1 = σ0 1 ∧ σ 2 = σ0 2 ∧ σ 3 = σ0 3 ∧ σ 4 = σ0 4)) (h5 : ∀ l, l < 16 → σ 5 l = cF σ0 l) (h7 : ∀ p, p < 4 → σ 7 p = sF σ0 D p) (hnb : nobad σ0 D) :
    Ok (d + 11) Y3_findTables SX [vr 0] σ (qv fun σ' => (∀ r, r ≠ 8 → r ≠ 9 → r ≠ 11 → r ≠ 12 → r ≠ 13 → r ≠ 14 → r ≠ 16 → r ≠ 17 → σ' r = σ r) ∧ fitT (cF σ0) (σ0 1) (sF σ0 D) (σ' 8) ∧ bestT (cF σ0) (σ' 8) 1 ∧ fitT (cF σ0) (σ0 1) (sF σ0 D) (σ' 9) ∧ bestT (cF σ0) (σ' 9) 2 ∧ ∀ j, j < 8 → σ' 16 j = (nums (cF σ0) (σ' 8) 8).1 j ∧ σ' 17 j = (nums (cF σ0) (σ' 8) 8).2 j) := by
  refine Ok.ofWp (by decide) (Nat.le_of_ble_eq_true rfl) ?_
  have hv := hx.1
  have e1 : σ 1 = σ0 1 := by rcases h0 with h0 | h0
                             · exact h0.2.1
                             · exact h0.2.1
  have hc0 := cF_bd hv
  have hc : ∀ l, l < 16 → 0 ≤ σ 5 l ∧ σ 5 l ≤ 500 := fun l hl => by rw [h5 l hl]; exact hc0 l hl
  have hs := hv.2.2.2.2.1
  have hs20 := hv.2.2.2.2.2.1
  rw [sum4] at hs20
  have hsh : ∀ p, p < 4 → 0 ≤ σ 7 p ∧ σ 7 p ≤ 20 := fun p hp => by rw [h7 p hp]; exact sF_bd hv p hp
  have hfx : ∀ t : Tb, fitT (σ 5) (σ 1) (σ 7) t → fitT (cF σ0) (σ0 1) (sF σ0 D) t := fun t ht => fit_e (fun l hl => (h5 l hl).symm) (fun l _ => by rw [e1]) (fun p hp => (h7 p hp).symm) (fun _ _ => rfl) ht
  have hfy : ∀ t : Tb, fitT (cF σ0) (σ0 1) (sF σ0 D) t → fitT (σ 5) (σ0 1) (sF σ0 D) t := fun t ht => fit_c h5 ht
  have bad : ∀ s, 1 ≤ s → s < 2 ^ D → ¬ badS (σ 5) (σ 1) (σ 7) s := by
    intro s h1 h2 hb
    refine hnb s h1 h2 ?_
    unfold badS supS demS at hb ⊢
    rw [← e1]
    have er : ∀ q, q < 4 → rchB (cF σ0) s q = rchB (σ 5) s q := fun q hq => by
      unfold rchB
      rw [h5 q (by omega), h5 (4 + q) (by omega), h5 (8 + q) (by omega), h5 (12 + q) (by omega)]
    rw [sm_ext (f := fun q => if rchB (cF σ0) s q = true then sF σ0 D q else 0) (g := fun q => if rchB (σ 5) s q = true then σ 7 q else 0) (fun q hq => by rw [er q hq, h7 q hq])]
    exact hb
  have hD4 := hv.1
  refine b3_findTables_0 (d := d + 10) (P := fun σ' => (∀ r, r ≠ 8 → r ≠ 11 → σ' r = σ r) ∧ fitT (σ 5) (σ 1) (σ 7) (σ' 8)) (ok_fill (d := d + 3) (D := D) hD4 hc (fun l hl q => by rw [h5 l hl]; exact cF_out hx l hl (Or.inl q)) (by rw [e1]; exact hs) (by rw [e1]; exact hx.2.2.2.1) hsh ?_ bad) (fun τ1 q1 => ?_)
  · rw [sm_ext (g := sF σ0 D) (fun p hp => h7 p hp), e1]
    exact sF_sum hv
  obtain ⟨q1, f1⟩ := q1
  have t5 : τ1 5 = σ 5 := q1 5 (by decide) (by decide)
  refine b3_findTables_23 (d := d + 10) (P := fun σ' => (∀ x, x ≠ 8 → x ≠ 12 → x ≠ 13 → x ≠ 14 → σ' x = τ1 x) ∧ fitT (σ 5) (σ0 1) (sF σ0 D) (σ' 8) ∧ bestT (σ 5) (σ' 8) 1) (ok_climb (d := d) (c := σ 5) (t := τ1 8) (Or.inr (Or.inl rfl)) rfl (by decide) t5 rfl hc (hfy _ (hfx _ f1)) (fun e he => (hs e he).1) hs20) (fun τ2 q2 => ?_)
  obtain ⟨q2, f2, g2⟩ := q2
  refine b3_findTables_39 ?_
  have c9 : ∀ l, l < 16 → cpy τ2 8 9 16 9 l = τ2 8 l := fun l hl => by unfold cpy; rw [if_pos ⟨rfl, hl⟩]
  have cn : ∀ r, r ≠ 9 → cpy τ2 8 9 16 r = τ2 r := fun r hr => by funext j; unfold cpy; rw [if_neg (fun q => hr q.1)]
  have u5 : cpy τ2 8 9 16 5 = σ 5 := by rw [cn 5 (by decide), q2 5 (by decide) (by decide) (by decide) (by decide)]; exact t5
  refine b3_findTables_54 (d := d + 10) (P := fun σ' => (∀ x, x ≠ 9 → x ≠ 12 → x ≠ 13 → x ≠ 14 → σ' x = cpy τ2 8 9 16 x) ∧ fitT (σ 5) (σ0 1) (sF σ0 D) (σ' 9) ∧ bestT (σ 5) (σ' 9) 2) (ok_climb (d := d) (c := σ 5) (t := cpy τ2 8 9 16 9) (Or.inr (Or.inr rfl)) rfl (by decide) u5 rfl hc (fit_e (fun _ _ => rfl) (fun _ _ => rfl) (fun _ _ => rfl) c9 f2) (fun e he => (hs e he).1) hs20) (fun τ3 q3 => ?_)
  obtain ⟨q3, f3, g3⟩ := q3
  have e8 : τ3 8 = τ2 8 := by rw [q3 8 (by decide) (by decide) (by decide) (by decide)]; exact cn 8 (by decide)
  have v5 : τ3 5 = σ 5 := by rw [q3 5 (by decide) (by decide) (by decide) (by decide)]; exact u5
  have k2 : bestT (cF σ0) (τ2 8) 1 := best_c (fun l hl => (h5 l hl).symm) (fun _ _ => rfl) g2
  have hz : ∀ l, l < 16 → 0 < τ2 8 l → 0 < cF σ0 l := fun l hl q => by
    have a := (hc0 l hl).1
    have b := f2.2.1 l hl
    rw [h5 l hl] at b
    omega
  have s20 : ∀ e, e < 4 → σ0 1 e ≤ 20 := fun e he => (hs e he).2
  refine b3_findTables_70 (d := d + 10) (ok_measure (d := d + 7) (c := cF σ0) (t := τ2 8) (fun l hl => by rw [v5]; exact h5 l hl) (fun l _ => by rw [e8]) (best_obey k2) hc0 (fit_20 f2 s20) hz) (fun τ4 q4 => ?_)
  obtain ⟨q4, n4⟩ := q4
  have e48 : τ4 8 = τ2 8 := by rw [q4 8 (by decide) (by decide)]; exact e8
  have e49 : τ4 9 = τ3 9 := q4 9 (by decide) (by decide)
  refine b3_findTables_85 ⟨rfl, fun r a b c e f g h i => ?_, ?_, ?_, ?_, ?_, ?_⟩
  · rw [q4 r h i, q3 r b e f g, cn r b, q2 r a e f g, q1 r a c]
  · rw [e48]; exact fit_c (fun l hl => (h5 l hl).symm) f2
  · rw [e48]; exact k2
  · rw [e49]; exact fit_c (fun l hl => (h5 l hl).symm) f3
  · rw [e49]; exact best_c (fun l hl => (h5 l hl).symm) (fun _ _ => rfl) g3
  · rw [e48]; exact n4
end XL
