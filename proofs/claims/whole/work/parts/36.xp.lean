/-! ===== the class: judging a proposal; and what a call changes ===== -/
section XP
variable {d : Nat} {σ : HP} {Q : MQt} {X : MXt} {D P : Nat}
theorem ok_pswv (hc : ∀ l, l < 16 → 0 ≤ σ 5 l ∧ σ 5 l ≤ 500) (h3 : ∀ l, l < 16 → 0 ≤ σ 3 l ∧ σ 3 l ≤ 20) : Ok d Y3_proposesSeatsWithoutVotes SX [vr 0] σ (qi fun z σ' => σ' = σ ∧ ((z = 1 ∧ ∃ l, l < 16 ∧ σ 5 l = 0 ∧ 0 < σ 3 l) ∨ (z = 0 ∧ ∀ l, l < 16 → 0 < σ 3 l → 0 < σ 5 l))) := by
  refine Ok.ofWp (by decide) (Nat.le_of_ble_eq_true rfl) ?_
  have lp : ∀ k i : Nat, i + k = 16 → (∀ l, l < i → 0 < σ 3 l → 0 < σ 5 l) → Wp d Y3_proposesSeatsWithoutVotes SX 2 [some (vr 0), some (vi (i : Int))] [] σ (qi fun z σ' => σ' = σ ∧ ((z = 1 ∧ ∃ l, l < 16 ∧ σ 5 l = 0 ∧ 0 < σ 3 l) ∨ (z = 0 ∧ ∀ l, l < 16 → 0 < σ 3 l → 0 < σ 5 l))) (fun _ _ _ _ => False) := by
    intro k
    induction k with
    | zero =>
      intro i hi hq
      have e : i = 16 := by omega
      subst e
      exact b3_proposesSeatsWithoutVotes_2 _ ⟨by omega, by omega⟩ (fun _ => b3_proposesSeatsWithoutVotes_34 ⟨0, rfl, rfl, Or.inr ⟨rfl, hq⟩⟩) (fun g => absurd g (by omega))
    | succ k ih =>
      intro i hi hq
      have ei : (i : Int).toNat = i := Int.toNat_natCast i
      have a := hc i (by omega)
      have b := h3 i (by omega)
      have next : (0 < σ 3 i → 0 < σ 5 i) → Wp d Y3_proposesSeatsWithoutVotes SX 28 [some (vr 0), some (vi (i : Int))] [] σ (qi fun z σ' => σ' = σ ∧ ((z = 1 ∧ ∃ l, l < 16 ∧ σ 5 l = 0 ∧ 0 < σ 3 l) ∨ (z = 0 ∧ ∀ l, l < 16 → 0 < σ 3 l → 0 < σ 5 l))) (fun _ _ _ _ => False) := by
        intro g
        refine b3_proposesSeatsWithoutVotes_28 _ (ih (i + 1) (by omega) (fun l hl => ?_))
        by_cases e : l = i
        · subst e; exact g
        · exact hq l (by omega)
      refine b3_proposesSeatsWithoutVotes_2 _ ⟨by omega, by omega⟩ (fun g => absurd g (by omega)) (fun _ => ?_)
      refine b3_proposesSeatsWithoutVotes_8 _ ⟨by omega, by omega⟩ (by rw [ei]; exact ⟨by omega, by omega⟩) (fun g => next (fun _ => by rw [ei] at g; omega)) (fun g => ?_)
      refine b3_proposesSeatsWithoutVotes_17 _ ⟨by omega, by omega⟩ (by rw [ei]; exact ⟨by omega, by omega⟩) (fun g2 => next (fun g3 => by rw [ei] at g2; omega)) (fun g2 => ?_)
      rw [ei] at g g2
      exact b3_proposesSeatsWithoutVotes_26 ⟨1, rfl, rfl, Or.inl ⟨rfl, i, by omega, g, g2⟩⟩
  exact b3_proposesSeatsWithoutVotes_0 (lp 16 0 rfl (fun l hl => by omega))
theorem ok_pia {r a b : Nat} (hr : SX[r]? = some (.inl (.inl 4))) (hab : (a = 4 ∧ b = 1) ∨ (a = 1 ∧ b = 4)) (h3 : ∀ l, l < 16 → 0 ≤ σ 3 l ∧ σ 3 l ≤ 20) (hd : ∀ k, k < 4 → in32 (σ r k)) : Ok d Y3_proposesInAll SX [vr 0, vr r, vi a, vi b] σ (qi fun z σ' => σ' = σ ∧ ((z = 1 ∧ ∀ k, k < 4 → sm 4 (fun j => σ 3 (a * k + b * j)) = σ r k) ∨ (z = 0 ∧ ¬ ∀ k, k < 4 → sm 4 (fun j => σ 3 (a * k + b * j)) = σ r k))) := by
  refine Ok.ofWp (by decide) (Nat.le_of_ble_eq_true rfl) ?_
  have l16 : ∀ k j, k < 4 → j < 4 → a * k + b * j < 16 := by
    intro k j hk hj
    rcases hab with ⟨rfl, rfl⟩ | ⟨rfl, rfl⟩ <;> omega
  have el : ∀ k j : Nat, k < 4 → j < 4 → ((a : Int) * (k : Int) + (b : Int) * (j : Int)).toNat = a * k + b * j := by
    intro k j hk hj
    rcases hab with ⟨rfl, rfl⟩ | ⟨rfl, rfl⟩ <;> omega
  have ib : ∀ k j : Nat, k < 4 → j < 4 → 0 ≤ ((a : Int) * (k : Int) + (b : Int) * (j : Int)) ∧ ((a : Int) * (k : Int) + (b : Int) * (j : Int)) < 16 := by
    intro k j hk hj
    rcases hab with ⟨rfl, rfl⟩ | ⟨rfl, rfl⟩ <;> omega
  have l1 : ∀ m k : Nat, k + m = 4 → (∀ x, x < k → sm 4 (fun j => σ 3 (a * x + b * j)) = σ r x) → Wp d Y3_proposesInAll SX 3 [some (vr 0), some (vr r), some (vi (a : Int)), some (vi (b : Int)), some (vi (k : Int)), none, none] [] σ (qi fun z σ' => σ' = σ ∧ ((z = 1 ∧ ∀ k, k < 4 → sm 4 (fun j => σ 3 (a * k + b * j)) = σ r k) ∨ (z = 0 ∧ ¬ ∀ k, k < 4 → sm 4 (fun j => σ 3 (a * k + b * j)) = σ r k))) (fun _ _ _ _ => False) := by
    intro m
    induction m with
    | zero =>
      intro k hk hq
      have e : k = 4 := by omega
      subst e
      exact b3_proposesInAll_3 _ _ _ _ ⟨by omega, by omega⟩ (fun _ => b3_proposesInAll_63 ⟨1, rfl, rfl, Or.inl ⟨rfl, hq⟩⟩) (fun g => absurd g (by omega))
    | succ m ih =>
      intro k hk hq
      have k4 : k < 4 := by omega
      refine b3_proposesInAll_3 _ _ _ _ ⟨by omega, by omega⟩ (fun g => absurd g (by omega)) (fun _ => ?_)
      refine b3_proposesInAll_9 _ _ _ _ ?_
      have l2 : ∀ n j : Nat, j + n = 4 → Wp d Y3_proposesInAll SX 15 [some (vr 0), some (vr r), some (vi (a : Int)), some (vi (b : Int)), some (vi (k : Int)), some (vi (sm j (fun j => σ 3 (a * k + b * j)))), some (vi (j : Int))] [] σ (qi fun z σ' => σ' = σ ∧ ((z = 1 ∧ ∀ k, k < 4 → sm 4 (fun j => σ 3 (a * k + b * j)) = σ r k) ∨ (z = 0 ∧ ¬ ∀ k, k < 4 → sm 4 (fun j => σ 3 (a * k + b * j)) = σ r k))) (fun _ _ _ _ => False) := by
        intro n
        induction n with
        | zero =>
          intro j hj
          have e : j = 4 := by omega
          subst e
          have hb := sm_bd (f := fun j => σ 3 (a * k + b * j)) (m := 20) 4 (fun i hi => h3 _ (l16 k i k4 hi))
          have ek : (k : Int).toNat = k := Int.toNat_natCast k
          refine b3_proposesInAll_15 _ _ _ _ _ _ ⟨by omega, by omega⟩ (fun _ => ?_) (fun g => absurd g (by omega))
          refine b3_proposesInAll_46 _ _ _ _ _ hr ⟨by omega, by omega⟩ ⟨by omega, by omega⟩ (by rw [ek]; exact hd k k4) (fun g => ?_) (fun g => ?_)
          · rw [ek] at g
            refine b3_proposesInAll_57 _ _ _ _ (ih (k + 1) (by omega) (fun x hx => ?_))
            by_cases e : x = k
            · subst e; exact g
            · exact hq x (by omega)
          · rw [ek] at g
            exact b3_proposesInAll_55 ⟨0, rfl, rfl, Or.inr ⟨rfl, fun hh => g (hh k k4)⟩⟩
        | succ n ihn =>
          intro j hj
          refine b3_proposesInAll_15 _ _ _ _ _ _ ⟨by omega, by omega⟩ (fun g => absurd g (by omega)) (fun _ => ?_)
          refine b3_proposesInAll_21 _ _ _ _ _ _ (ib k j k4 (by omega)) ?_
          rw [el k j k4 (by omega)]
          exact ihn (j + 1) (by omega)
      exact l2 4 0 rfl
  exact b3_proposesInAll_0 _ _ _ (l1 4 0 rfl (fun x hx => by omega))
theorem obey_0 {c t : Tb} (h : obeyT c t) : bestT c t 0 := by
  rintro k D P ⟨hR, hr, hg⟩
  rcases hg with hg | ⟨-, hg⟩
  · have := h k D P hR hr; omega
  · rcases hg with ⟨hg, -⟩ | ⟨hg, -⟩ <;> exact absurd hg (by decide)
def jdg (c sz sh t : Tb) (z : Int) : Prop := (z = 1 ∧ ∃ l, l < 16 ∧ c l = 0 ∧ 0 < t l) ∨ ((∀ l, l < 16 → 0 < t l → 0 < c l) ∧ ((z = 2 ∧ ¬ ∀ e, e < 4 → row t e = sz e) ∨ ((∀ e, e < 4 → row t e = sz e) ∧ ((z = 3 ∧ ¬ ∀ p, p < 4 → col t p = sh p) ∨ ((∀ p, p < 4 → col t p = sh p) ∧ ((z = 4 ∧ ¬ obeyT c t) ∨ (z = 0 ∧ obeyT c t)))))))
def rJudge (σ : HP) (D : Nat) (k : Nat) (z : Int) (σ' : HP) : Prop := sameX σ σ' ∧ ((k = 1 ∧ noW σ D) ∨ (k = 0 ∧ someW σ D ∧ jdg (cF σ) (σ 1) (sF σ D) (σ 3) z))
theorem wp_judge (h : XI σ D P) : Wp (d + 10) Y3_judge SX 0 [some (vr 0)] [] σ (qi fun z σ' => rJudge σ D 0 z σ') (exX [eIS] fun k σ' => rJudge σ D k 0 σ') := by
  have hv := h.1
  have h3 := h.2.2.2.2.2.2.1
  refine b3_judge_0 (d := d + 9) (ok_shareOut (d := d + 7) h.1) (fun z σ1 hz => ?_)
  obtain ⟨s1, s2, s3, hz⟩ := hz
  have hs := sameX.of s1
  rcases hz with ⟨rfl, hw, h7⟩ | ⟨rfl, hw, -⟩
  · refine b3_judge_4 _ ⟨by decide, by decide⟩ (fun _ => ?_) (fun q => absurd q (by decide))
    have e3 : σ1 3 = σ 3 := hs.2.2.2.1
    have e1 : σ1 1 = σ 1 := hs.2.1
    have hc : ∀ l, l < 16 → 0 ≤ σ1 5 l ∧ σ1 5 l ≤ 500 := fun l hl => by rw [s2 l hl]; exact cF_bd hv l hl
    have h3' : ∀ l, l < 16 → 0 ≤ σ1 3 l ∧ σ1 3 l ≤ 20 := by rw [e3]; exact h3
    refine b3_judge_15 (d := d + 9) (ok_pswv hc h3') (fun z σ2 hz => ?_)
    obtain ⟨rfl, hz⟩ := hz
    rcases hz with ⟨rfl, l, l1, l2, l3⟩ | ⟨rfl, hz⟩
    · refine b3_judge_19 _ ⟨by decide, by decide⟩ (fun q => absurd q (by decide)) (fun _ => b3_judge_22 ⟨1, rfl, hs, Or.inr ⟨rfl, hw, Or.inl ⟨rfl, l, l1, by rw [← s2 l l1]; exact l2, by rw [← e3]; exact l3⟩⟩⟩)
    · refine b3_judge_19 _ ⟨by decide, by decide⟩ (fun _ => ?_) (fun q => absurd rfl q)
      have k1 : ∀ l, l < 16 → 0 < σ 3 l → 0 < cF σ l := fun l hl q => by rw [← s2 l hl]; exact hz l hl (by rw [e3]; exact q)
      have hs20 := hv.2.2.2.2.1
      refine b3_judge_24 (d := d + 9) (P := fun z σ' => σ' = σ2 ∧ ((z = 1 ∧ ∀ k, k < 4 → sm 4 (fun j => σ2 3 (4 * k + 1 * j)) = σ2 1 k) ∨ (z = 0 ∧ ¬ ∀ k, k < 4 → sm 4 (fun j => σ2 3 (4 * k + 1 * j)) = σ2 1 k))) (ok_pia (a := 4) (b := 1) rfl (Or.inl ⟨rfl, rfl⟩) h3' (fun k hk => by rw [e1]; have := hs20 k hk; exact ⟨by omega, by omega⟩)) (fun z σ3 hz2 => ?_)
      obtain ⟨rfl, hz2⟩ := hz2
      have er : ∀ k, sm 4 (fun j => σ3 3 (4 * k + 1 * j)) = row (σ 3) k := fun k => by rw [e3]; simp [sm, row]
      simp only [er, e1] at hz2
      rcases hz2 with ⟨rfl, hz2⟩ | ⟨rfl, hz2⟩
      · refine b3_judge_34 _ ⟨by decide, by decide⟩ (fun _ => ?_) (fun q => absurd q (by decide))
        refine b3_judge_39 (d := d + 9) (P := fun z σ' => σ' = σ3 ∧ ((z = 1 ∧ ∀ k, k < 4 → sm 4 (fun j => σ3 3 (1 * k + 4 * j)) = σ3 7 k) ∨ (z = 0 ∧ ¬ ∀ k, k < 4 → sm 4 (fun j => σ3 3 (1 * k + 4 * j)) = σ3 7 k))) (ok_pia (a := 1) (b := 4) rfl (Or.inr ⟨rfl, rfl⟩) h3' (fun k hk => by rw [h7 k hk]; have := sF_bd hv k hk; exact ⟨by omega, by omega⟩)) (fun z σ4 hz3 => ?_)
        obtain ⟨rfl, hz3⟩ := hz3
        have ec : ∀ k, sm 4 (fun j => σ4 3 (1 * k + 4 * j)) = col (σ 3) k := fun k => by rw [e3]; simp [sm, col, Nat.add_comm]
        have e7 : (∀ k, k < 4 → col (σ 3) k = σ4 7 k) ↔ ∀ k, k < 4 → col (σ 3) k = sF σ D k := ⟨fun g k hk => by rw [← h7 k hk]; exact g k hk, fun g k hk => by rw [h7 k hk]; exact g k hk⟩
        simp only [ec, e7] at hz3
        rcases hz3 with ⟨rfl, hz3⟩ | ⟨rfl, hz3⟩
        · refine b3_judge_49 _ ⟨by decide, by decide⟩ (fun _ => ?_) (fun q => absurd q (by decide))
          have hR : RH0 σ4 3 (σ4 5) (σ4 3) := ⟨rfl, rfl, rfl, hc, h3', fun l hl q => by rw [s2 l hl]; exact k1 l hl (by rw [← e3]; exact q)⟩
          refine b3_judge_54 (d := d + 9) (ok_isFound (d := d) (w := 0) (Or.inl rfl) hR) (fun z τ hz4 => ?_)
          obtain ⟨q1, hz4⟩ := hz4
          have hs2 : sameX σ τ := by
            obtain ⟨a0, a1, a2, a3, a4, a8, a9, a16, a17⟩ := hs
            refine ⟨?_, ?_, ?_, ?_, ?_, ?_, ?_, ?_, ?_⟩
            · rw [q1 0 (by decide) (by decide) (by decide)]; exact a0
            · rw [q1 1 (by decide) (by decide) (by decide)]; exact a1
            · rw [q1 2 (by decide) (by decide) (by decide)]; exact a2
            · rw [q1 3 (by decide) (by decide) (by decide)]; exact a3
            · rw [q1 4 (by decide) (by decide) (by decide)]; exact a4
            · rw [q1 8 (by decide) (by decide) (by decide)]; exact a8
            · rw [q1 9 (by decide) (by decide) (by decide)]; exact a9
            · rw [q1 16 (by decide) (by decide) (by decide)]; exact a16
            · rw [q1 17 (by decide) (by decide) (by decide)]; exact a17
          rcases hz4 with ⟨rfl, k, D', P', hg, -⟩ | ⟨rfl, hb⟩
          · refine b3_judge_70 _ ⟨by decide, by decide⟩ (fun q => absurd q (by decide)) (fun _ => b3_judge_73 (b3_judge_78 _ ⟨4, rfl, hs2, Or.inr ⟨rfl, hw, Or.inr ⟨k1, Or.inr ⟨hz2, Or.inr ⟨hz3, Or.inl ⟨rfl, fun ho => ?_⟩⟩⟩⟩⟩⟩))
            refine obey_0 ho k D' P' (good_c (fun l hl => (s2 l hl).symm) (fun l hl => by rw [e3]) hg)
          · refine b3_judge_70 _ ⟨by decide, by decide⟩ (fun _ => b3_judge_77 (b3_judge_78 _ ⟨0, rfl, hs2, Or.inr ⟨rfl, hw, Or.inr ⟨k1, Or.inr ⟨hz2, Or.inr ⟨hz3, Or.inr ⟨rfl, ?_⟩⟩⟩⟩⟩⟩)) (fun q => absurd rfl q)
            exact best_obey (best_c (fun l hl => (s2 l hl).symm) (fun l hl => by rw [e3]) hb)
        · exact b3_judge_49 _ ⟨by decide, by decide⟩ (fun g => absurd rfl g) (fun _ => b3_judge_52 ⟨3, rfl, hs, Or.inr ⟨rfl, hw, Or.inr ⟨k1, Or.inr ⟨hz2, Or.inl ⟨rfl, hz3⟩⟩⟩⟩⟩)
      · exact b3_judge_34 _ ⟨by decide, by decide⟩ (fun g => absurd rfl g) (fun _ => b3_judge_37 ⟨2, rfl, hs, Or.inr ⟨rfl, hw, Or.inr ⟨k1, Or.inl ⟨rfl, hz2⟩⟩⟩⟩)
  · exact b3_judge_4 _ ⟨by decide, by decide⟩ (fun g => absurd rfl g) (fun _ => b3_judge_7 ⟨0, rfl, hs, Or.inl ⟨rfl, hw⟩⟩)
end XP
