/-! ===== the model: turning; judging ===== -/
section MJ
variable {d : Nat} {ρ : HP} {Q : MQt} {X : MXt} {r n x : Nat} {sz sh : Tb}
theorem mok_turn {b w : Int} (hb : b = 0 ∨ b = 1) (hw : w = if b = 0 then 2 else 1) (hg : RG ρ) (hx : SM[x]? = some (.inl (.inl 16))) (x4 : x ≠ 4) (x7 : x ≠ 7) (h4 : ∀ l, l < 16 → 0 ≤ ρ 4 l ∧ ρ 4 l ≤ 500) (hf : fitT (ρ 4) sz sh (ρ x)) (ho : obeyT (ρ 4) (ρ x)) (hs : ∀ e, e < 4 → 0 ≤ sz e) (h20 : sz 0 + sz 1 + sz 2 + sz 3 ≤ 20) :
    Ok (d + 3) Y4_turn SM [vr 0, vr x, vi b] ρ (qv fun ρ' => (∀ y, y ≠ x → ρ' y = ρ y) ∧ fitT (ρ 4) sz sh (ρ' x) ∧ bestT (ρ 4) (ρ' x) w) := by
  refine Ok.ofWp (by decide) (Nat.le_of_ble_eq_true rfl) ?_
  have x0 : x ≠ 0 := fun e => by rw [e] at hx; cases hx
  obtain ⟨μ, m1, m2⟩ := mu_ex (c := c16 (ρ 4)) (sz := sz) (sh := sh) w hs h20
  have e16 : ∀ l, l < 16 → c16 (ρ 4) l = ρ 4 l := fun l hl => c16_lt hl
  have e61 : ∀ l, l < 16 → ρ 4 l = c16 (ρ 4) l := fun l hl => (e16 l hl).symm
  have c0 := c16_nn fun l hl => (h4 l hl).1
  have s20 : ∀ e, e < 4 → sz e ≤ 20 := by
    have a := hs 0 (by omega)
    have b := hs 1 (by omega)
    have c := hs 2 (by omega)
    have f := hs 3 (by omega)
    intro e he
    rcases (show e = 0 ∨ e = 1 ∨ e = 2 ∨ e = 3 by omega) with rfl | rfl | rfl | rfl <;> omega
  have l1 : ∀ y L : Nat, L + y = 16 → ∀ τ : HP, (∀ y, y ≠ x → τ y = ρ y) → fitT (ρ 4) sz sh (τ x) → obeyT (ρ 4) (τ x) → (∀ K, K < L → NB (c16 (ρ 4)) sz sh w K (τ x)) → Wp (d + 2 + 1) Y4_turn SM 2 [some (vr 0), some (vr x), some (vi b), some (vi (L : Int)), none, none] [] τ (qv fun ρ' => (∀ y, y ≠ x → ρ' y = ρ y) ∧ fitT (ρ 4) sz sh (ρ' x) ∧ bestT (ρ 4) (ρ' x) w) (fun _ _ _ _ => False) := by
    intro y
    induction y with
    | zero =>
      intro L hL τ t1 t2 t3 t4
      have e : L = 16 := by omega
      subst e
      refine b4_turn_2 _ _ _ ⟨by omega, by omega⟩ (fun _ => b4_turn_91 ⟨rfl, t1, t2, ?_⟩) (fun g => absurd g (by omega))
      exact best_c e61 (fun _ _ => rfl) (nb_best c0 (fit_c e16 t2) (obey_c e16 (fun _ _ => rfl) t3) t4)
    | succ y ihy =>
      intro L hL τ t1 t2 t3 t4
      refine b4_turn_2 _ _ _ ⟨by omega, by omega⟩ (fun g => absurd g (by omega)) (fun _ => b4_turn_8 _ _ _ ?_)
      have OL : ∀ m : Nat, ∀ τ : HP, (∀ y, y ≠ x → τ y = ρ y) → fitT (ρ 4) sz sh (τ x) → obeyT (ρ 4) (τ x) → (∀ K, K < L → NB (c16 (ρ 4)) sz sh w K (τ x)) → μ (τ x) < m → Wp (d + 2 + 1) Y4_turn SM 11 [some (vr 0), some (vr x), some (vi b), some (vi (L : Int)), some (vi 1), none] [] τ (qv fun ρ' => (∀ y, y ≠ x → ρ' y = ρ y) ∧ fitT (ρ 4) sz sh (ρ' x) ∧ bestT (ρ 4) (ρ' x) w) (fun _ _ _ _ => False) := by
        intro m
        induction m with
        | zero => intro τ _ _ _ _ h; omega
        | succ m ihm =>
          intro τ t1 t2 t3 t4 t5
          refine b4_turn_11 _ _ _ _ ⟨by decide, by decide⟩ (fun g => absurd g (by decide)) (fun _ => b4_turn_16 _ _ _ ?_)
          have il : ∀ j k : Nat, k + j = 408 → ∀ (τ : HP) (v : Int), (∀ y, y ≠ x → τ y = ρ y) → fitT (ρ 4) sz sh (τ x) → obeyT (ρ 4) (τ x) → (∀ K, K < L → NB (c16 (ρ 4)) sz sh w K (τ x)) → μ (τ x) < m + 1 → ((v = 1 ∧ μ (τ x) < m) ∨ (v = 0 ∧ ∀ i, i < k → ∀ r n D P, ρ 7 i = (r : Nat) → isRing n D P → isCode r n D P → ¬ (turnR w L n D P ∧ canT (ρ 4) (τ x) n D P ∧ upR (ρ 4) (τ x) n D P n = dnR (ρ 4) (τ x) n D P n))) → Wp (d + 2 + 1) Y4_turn SM 22 [some (vr 0), some (vr x), some (vi b), some (vi (L : Int)), some (vi v), some (vi (k : Int))] [] τ (qv fun ρ' => (∀ y, y ≠ x → ρ' y = ρ y) ∧ fitT (ρ 4) sz sh (ρ' x) ∧ bestT (ρ 4) (ρ' x) w) (fun _ _ _ _ => False) := by
            intro j
            induction j with
            | zero =>
              intro k hk τ v t1 t2 t3 t4 t5 hno
              have e14 : τ 0 14 = 408 := by rw [t1 0 (Ne.symm x0)]; exact hg.1
              have e : k = 408 := by omega
              subst e
              refine b4_turn_22 _ _ _ _ _ ⟨by omega, by omega⟩ (by rw [e14]; exact ⟨by decide, by decide⟩) (fun _ => ?_) (fun g => by rw [e14] at g; omega)
              refine b4_turn_82 _ _ _ _ ?_
              rcases hno with ⟨rfl, hmm⟩ | ⟨rfl, hno⟩
              · exact ihm τ t1 t2 t3 t4 hmm
              · refine b4_turn_11 _ _ _ _ ⟨by decide, by decide⟩ (fun _ => b4_turn_85 _ _ _ (ihy (L + 1) (by omega) τ t1 t2 t3 (fun K hK => ?_))) (fun g => absurd rfl g)
                by_cases e : K = L
                · subst e
                  refine nb_of (by omega) c0 (fit_c e16 t2) (obey_c e16 (fun _ _ => rfl) t3) (fun n D P hR hcan heq ht => ?_)
                  obtain ⟨k, r, hk, e, hcd⟩ := hg.2.2 n D P hR
                  obtain ⟨g1, g2⟩ := gain_c (c := ρ 4) (c' := c16 (ρ 4)) (t := τ x) (t' := τ x) e16 (fun _ _ => rfl) hR
                  exact hno k hk r n D P e hR hcd ⟨ht, can_c e61 (fun _ _ => rfl) hR hcan, by rw [← g1, ← g2]; exact heq⟩
                · exact t4 K (by omega)
            | succ j ihj =>
              intro k hk τ v t1 t2 t3 t4 t5 hno
              have e14 : τ 0 14 = 408 := by rw [t1 0 (Ne.symm x0)]; exact hg.1
              obtain ⟨r, n, D, P, e7, hR, hc⟩ := hg.2.1 k (by omega)
              have ek : (k : Int).toNat = k := Int.toNat_natCast k
              have u7 : τ 7 k = (r : Nat) := by rw [t1 7 (Ne.symm x7)]; exact e7
              have u4 : τ 4 = ρ 4 := t1 4 (Ne.symm x4)
              have hB : TBd τ x := ⟨hx, by rw [u4]; exact h4, fit_20 t2 s20⟩
              refine b4_turn_22 _ _ _ _ _ ⟨by omega, by omega⟩ (by rw [e14]; exact ⟨by decide, by decide⟩) (fun g => by rw [e14] at g; omega) (fun _ => ?_)
              refine b4_turn_31 (d := d + 2) _ _ _ _ _ ⟨by omega, by omega⟩ (P := fun z ρ' => ρ' = τ ∧ ((z = 1 ∧ turnR w L n D P) ∨ (z = 0 ∧ ¬ turnR w L n D P))) (by rw [ek, u7, hw]; exact mok_turnsFirst (by omega) hb hR hc) (fun z τ1 hz => ?_)
              obtain ⟨rfl, hz⟩ := hz
              have next : ¬ (turnR w L n D P ∧ canT (ρ 4) (τ1 x) n D P ∧ upR (ρ 4) (τ1 x) n D P n = dnR (ρ 4) (τ1 x) n D P n) → Wp (d + 2 + 1) Y4_turn SM 76 [some (vr 0), some (vr x), some (vi b), some (vi (L : Int)), some (vi v), some (vi (k : Int))] [] τ1 (qv fun ρ' => (∀ y, y ≠ x → ρ' y = ρ y) ∧ fitT (ρ 4) sz sh (ρ' x) ∧ bestT (ρ 4) (ρ' x) w) (fun _ _ _ _ => False) := by
                intro hn1
                refine b4_turn_76 _ _ _ _ _ (ihj (k + 1) (by omega) τ1 v t1 t2 t3 t4 t5 ?_)
                rcases hno with hno | ⟨rfl, hno⟩
                · exact Or.inl hno
                · refine Or.inr ⟨rfl, fun i hi => ?_⟩
                  by_cases e : i = k
                  · subst e
                    refine no_same (c := ρ 4) (t := τ1 x) (A := fun n D P => turnR w L n D P ∧ canT (ρ 4) (τ1 x) n D P ∧ upR (ρ 4) (τ1 x) n D P n = dnR (ρ 4) (τ1 x) n D P n) e7 hc (fun D' P' hD hA => ?_) hn1
                    obtain ⟨c1, c2, c3, c4⟩ := can_p (c := ρ 4) (t := τ1 x) hD
                    exact ⟨(c4 w L).1 hA.1, c1.1 hA.2.1, by rw [← c2, ← c3]; exact hA.2.2⟩
                  · exact hno i (by omega)
              rcases hz with ⟨rfl, hz⟩ | ⟨rfl, hz⟩
              · refine b4_turn_43 _ _ _ _ _ _ ⟨by decide, by decide⟩ (fun g => absurd g (by decide)) (fun _ => ?_)
                refine b4_turn_46 (d := d + 2) _ _ _ _ _ ⟨by omega, by omega⟩ (P := fun z ρ' => ρ' = τ1 ∧ gainP (τ1 4) (τ1 x) n D P z) (by rw [ek, u7]; exact mok_gain hR hc hB) (fun z τ2 hz2 => ?_)
                obtain ⟨rfl, hz2⟩ := hz2
                rw [u4] at hz2
                rcases hz2 with ⟨rfl, hz2⟩ | ⟨hcan, ⟨rfl, hz2⟩ | ⟨rfl, hz2⟩ | ⟨rfl, hz2⟩⟩
                · exact b4_turn_58 _ _ _ _ _ _ ⟨by decide, by decide⟩ (fun _ => next (fun q => hz2 q.2.1)) (fun g => absurd g (by decide))
                · exact b4_turn_58 _ _ _ _ _ _ ⟨by decide, by decide⟩ (fun _ => next (fun q => by have := q.2.2; omega)) (fun g => absurd g (by decide))
                · exact b4_turn_58 _ _ _ _ _ _ ⟨by decide, by decide⟩ (fun _ => next (fun q => by have := q.2.2; omega)) (fun g => absurd g (by decide))
                · refine b4_turn_58 _ _ _ _ _ _ ⟨by decide, by decide⟩ (fun g => absurd rfl g) (fun _ => ?_)
                  refine b4_turn_61 (d := d + 2) _ _ _ _ ⟨by omega, by omega⟩ (P := fun ρ' => (∀ y, y ≠ x → ρ' y = τ2 y) ∧ ρ' x = goN (τ2 x) n D P n) (by rw [ek, u7]; exact mok_goAlong hx hR hc) (fun τ3 h3 => ?_)
                  obtain ⟨v1, v2⟩ := h3
                  have bf := turn_bf (τ2 x) hR hz
                  obtain ⟨g1, g2⟩ := gain_c (c := ρ 4) (c' := c16 (ρ 4)) (t := τ2 x) (t' := τ2 x) e16 (fun _ _ => rfl) hR
                  have can6 : canT (c16 (ρ 4)) (τ2 x) n D P := can_c e16 (fun _ _ => rfl) hR hcan
                  have eq6 : upR (c16 (ρ 4)) (τ2 x) n D P n = dnR (c16 (ρ 4)) (τ2 x) n D P n := by rw [g1, g2]; exact hz2
                  have f6 := fit_c (c' := c16 (ρ 4)) e16 t2
                  have ft := go_fit f6 hR can6
                  have ob := go_ob c0 f6 (obey_c e16 (fun _ _ => rfl) t3) hR can6 eq6
                  have bt : btr (c16 (ρ 4)) w (τ2 x) (goN (τ2 x) n D P n) := Or.inr ⟨go_eq c0 f6 hR can6 eq6, L, by omega, bf⟩
                  have := m2 _ _ ft bt
                  refine b4_turn_73 _ _ _ _ (b4_turn_76 _ _ _ _ _ (ihj (k + 1) (by omega) τ3 1 (fun y hy => by rw [v1 y hy]; exact t1 y hy) (by rw [v2]; exact fit_c e61 ft) (by rw [v2]; exact obey_c e61 (fun _ _ => rfl) ob) (fun K hK => ?_) (by rw [v2]; omega) (Or.inl ⟨rfl, by rw [v2]; omega⟩)))
                  rw [v2]
                  exact nb_keep (t4 K hK) (fun j hj => bf.1 j (by omega))
              · exact b4_turn_43 _ _ _ _ _ _ ⟨by decide, by decide⟩ (fun _ => next (fun q => hz q.1)) (fun g => absurd rfl g)
          exact il 408 0 rfl τ 0 t1 t2 t3 t4 t5 (Or.inr ⟨rfl, fun i hi => by omega⟩)
      exact OL (μ (τ x) + 1) τ t1 t2 t3 t4 (by omega)
  exact b4_turn_0 _ _ (l1 16 0 rfl ρ (fun _ _ => rfl) hf ho (fun K hK => by omega))
end MJ
section MK
variable {d : Nat} {σ ρ σ' : HP} {Q : MQt} {X : MXt} {D P k : Nat} {z : Int}
theorem jdg_one {c sz sh t : Tb} {z z' : Int} (h1 : jdg c sz sh t z) (h2 : jdg c sz sh t z') : z = z' := by
  rcases h1 with ⟨rfl, l, l1, l2, l3⟩ | ⟨a1, h1⟩
  · rcases h2 with ⟨rfl, -⟩ | ⟨b1, -⟩
    · rfl
    · have := b1 l l1 l3; omega
  · rcases h2 with ⟨-, l, l1, l2, l3⟩ | ⟨-, h2⟩
    · have := a1 l l1 l3; omega
    · rcases h1 with ⟨rfl, h1⟩ | ⟨a2, h1⟩
      · rcases h2 with ⟨rfl, -⟩ | ⟨b2, -⟩
        · rfl
        · exact absurd b2 h1
      · rcases h2 with ⟨-, h2⟩ | ⟨-, h2⟩
        · exact absurd a2 h2
        · rcases h1 with ⟨rfl, h1⟩ | ⟨a3, h1⟩
          · rcases h2 with ⟨rfl, -⟩ | ⟨b3, -⟩
            · rfl
            · exact absurd b3 h1
          · rcases h2 with ⟨-, h2⟩ | ⟨-, h2⟩
            · exact absurd a3 h2
            · rcases h1 with ⟨rfl, h1⟩ | ⟨rfl, h1⟩ <;> rcases h2 with ⟨rfl, h2⟩ | ⟨rfl, h2⟩
              · rfl
              · exact absurd h2 h1
              · exact absurd h1 h2
              · rfl
theorem sF_P (h : XI σ D P) (hw : someW σ D) {p : Nat} (hp : p < 4) (hq : P ≤ p) : sF σ D p = 0 := by
  have hr := h.2.2.2.2.2.2.2.1
  have P4 := h.2.1
  unfold sF
  generalize (sm 4 (σ 1)).toNat = n
  induction n with
  | zero => rfl
  | succ n ih =>
    have sb : ∀ p, 0 ≤ shF (wF σ D) (σ 4) n p ∧ shF (wF σ D) (σ 4) n p ≤ n := shF_bd (wF σ D) (σ 4) n
    have cb := bst_best (w := wF σ D) (s := shF (wF σ D) (σ 4) n) (rk := σ 4) (fun p => (sb p).1) hr.2 3 (by omega)
    have cl := bstF_le (wF σ D) (shF (wF σ D) (σ 4) n) (σ 4) 3
    simp only [shF]
    rw [if_neg, ih]
    intro e
    rw [← e] at cb cl
    obtain ⟨y, hy, hyw⟩ := hw
    have w0 : wF σ D p = 0 := wF_P h hp hq
    have yp : y ≠ p := fun q => by rw [q, w0] at hyw; omega
    have g2 := cb y (by omega) yp
    unfold gbF at g2
    rw [w0, Int.zero_mul] at g2
    have : 0 < wF σ D y * (2 * shF (wF σ D) (σ 4) n p + 1) := Int.mul_pos hyw (by have := (sb p).1; omega)
    omega
theorem mok_judge (h : Rel ρ σ D P) (hr : rJudge σ D k z σ') : Ok (d + 4) Y4_judge SM [vr 0] ρ (qi fun z' ρ' => ρ' 0 0 = k ∧ (k = 0 → z' = z) ∧ RelE ρ' σ') := by
  refine Ok.ofWp (by decide) (Nat.le_of_ble_eq_true rfl) ?_
  obtain ⟨hx, hm, hS⟩ := id h
  have P4 := hx.2.1
  have D4 := hx.1.1
  obtain ⟨hs, hr⟩ := hr
  refine b4_judge_0 (d := d + 3) (mok_shareAll (d := d + 1) hx hm) (fun z0 ρ1 hz => ?_)
  obtain ⟨s1, s2, s3, hz⟩ := hz
  rcases hz with ⟨rfl, hw, s6⟩ | ⟨rfl, hw⟩
  · refine b4_judge_5 _ ⟨by decide, by decide⟩ (fun g => absurd g (by decide)) (fun _ => ?_)
    rcases hr with ⟨-, g⟩ | ⟨rfl, -, hj⟩
    · exact absurd (no_some g hw) id
    refine b4_judge_8 (b4_judge_13 _ (by rw [up_at]; exact ⟨by decide, by decide⟩) (fun _ => ?_) (fun g => by rw [up_at] at g; exact absurd g (by decide)))
    refine b4_judge_25 ?_
    have r1 : up ρ1 0 0 0 0 1 = D := by rw [up_nj (by decide), s1 0 (by decide) (by decide) (by decide)]; exact hm.1
    have r2 : up ρ1 0 0 0 0 2 = P := by rw [up_nj (by decide), s1 0 (by decide) (by decide) (by decide)]; exact hm.2.1
    have iD : in32 (up ρ1 0 0 0 0 1) := by rw [r1]; exact ⟨by omega, by omega⟩
    have iP : in32 (up ρ1 0 0 0 0 2) := by rw [r2]; exact ⟨by omega, by omega⟩
    have t10 : ∀ l, l < 16 → up ρ1 0 0 0 10 l = σ 3 l := fun l hl => by rw [up_nr (by decide), s1 10 (by decide) (by decide) (by decide)]; exact (hm.2.2.2.2.2.1 l hl).2
    have f6 : ∀ p, p < 4 → up ρ1 0 0 0 6 p = sF σ D p := fun p hp => by rw [up_nr (by decide)]; exact s6 p hp
    have f1 : ∀ e, e < 4 → up ρ1 0 0 0 1 e = σ 1 e := fun e he => by rw [up_nr (by decide), s1 1 (by decide) (by decide) (by decide)]; exact hm.2.2.2.2.1 e he
    have f4 : ∀ l, l < 16 → up ρ1 0 0 0 4 l = cF σ l := fun l hl => by rw [up_nr (by decide)]; exact s2 l hl
    have b3 := hx.2.2.2.2.2.2.1
    have bz := hx.2.2.2.2.2.1
    have fin : ∀ z' : Int, jdg (cF σ) (σ 1) (sF σ D) (σ 3) z' → (qi fun z' ρ' => ρ' 0 0 = ((0 : Nat) : Int) ∧ (0 = 0 → z' = z) ∧ RelE ρ' σ') (some (vi z')) (up ρ1 0 0 0) := fun z' hz' => ⟨z', rfl, up_at, fun _ => jdg_one hz' hj, D, P, ms_rel h hs s1 s2⟩
    -- the last step
    have e4 : ∀ v : Int, (v = 0 ∧ (∀ e, e < 4 → row (σ 3) e = σ 1 e) ∧ (∀ p, p < 4 → col (σ 3) p = sF σ D p) ∧ ∀ l, l < 16 → 0 < σ 3 l → 0 < cF σ l) ∨ (v ≠ 0 ∧ in32 v ∧ jdg (cF σ) (σ 1) (sF σ D) (σ 3) v) → Wp (d + 3 + 1) Y4_judge SM 197 [some (vr 0), some (vi v), none, none, none] [] (up ρ1 0 0 0) (qi fun z' ρ' => ρ' 0 0 = ((0 : Nat) : Int) ∧ (0 = 0 → z' = z) ∧ RelE ρ' σ') (fun _ _ _ _ => False) := by
      intro v hv
      rcases hv with ⟨rfl, j2, j3, j1⟩ | ⟨v0, iv, hv⟩
      · refine b4_judge_197 _ ⟨by decide, by decide⟩ (fun g => absurd rfl g) (fun _ => ?_)
        have hB : TBd (up ρ1 0 0 0) 10 := ⟨rfl, fun l hl => by rw [f4 l hl]; exact cF_bd hx.1 l hl, fun l hl => by rw [t10 l hl]; exact b3 l hl⟩
        have hG : RG (up ρ1 0 0 0) := by
          have a10 := hm.2.2.2.2.2.2.2.2.2.1
          unfold RG at a10 ⊢
          rw [up_nj (by decide), up_ne (by decide), s1 0 (by decide) (by decide) (by decide), s1 7 (by decide) (by decide) (by decide)]
          exact a10
        refine b4_judge_201 (d := d + 3) _ (mok_obeys hG hB) (fun z2 τ hz2 => ?_)
        obtain ⟨rfl, hz2⟩ := hz2
        rcases hz2 with ⟨rfl, ob⟩ | ⟨rfl, ob⟩
        · refine b4_judge_209 _ _ ⟨by decide, by decide⟩ (fun _ => b4_judge_216 _ (b4_judge_217 _ (fin 0 (Or.inr ⟨j1, Or.inr ⟨j2, Or.inr ⟨j3, Or.inr ⟨rfl, ?_⟩⟩⟩⟩)))) (fun g => absurd g (by decide))
          exact obey_c (fun l hl => (f4 l hl).symm) (fun l hl => (t10 l hl).symm) ob
        · refine b4_judge_209 _ _ ⟨by decide, by decide⟩ (fun g => absurd rfl g) (fun _ => b4_judge_212 (b4_judge_217 _ (fin 4 (Or.inr ⟨j1, Or.inr ⟨j2, Or.inr ⟨j3, Or.inl ⟨rfl, fun g => ob ?_⟩⟩⟩⟩))))
          exact obey_c f4 t10 g
      · exact b4_judge_197 _ iv (fun _ => b4_judge_216 _ (b4_judge_217 _ (fin v hv))) (fun g => absurd g v0)
    -- seats without votes
    have e3 : ∀ v : Int, (v = 0 ∧ (∀ e, e < 4 → row (σ 3) e = σ 1 e) ∧ ∀ p, p < 4 → col (σ 3) p = sF σ D p) ∨ (v = 3 ∧ (∀ e, e < 4 → row (σ 3) e = σ 1 e) ∧ ¬ ∀ p, p < 4 → col (σ 3) p = sF σ D p) ∨ (v = 2 ∧ ¬ ∀ e, e < 4 → row (σ 3) e = σ 1 e) → ∀ m i : Nat, i + m = 16 → ∀ b : Int, ((b = v ∧ ∀ l, l < i → 0 < σ 3 l → 0 < cF σ l) ∨ (b = 1 ∧ ∃ l, l < i ∧ cF σ l = 0 ∧ 0 < σ 3 l)) → Wp (d + 3 + 1) Y4_judge SM 161 [some (vr 0), some (vi b), some (vi (i : Int)), none, none] [] (up ρ1 0 0 0) (qi fun z' ρ' => ρ' 0 0 = ((0 : Nat) : Int) ∧ (0 = 0 → z' = z) ∧ RelE ρ' σ') (fun _ _ _ _ => False) := by
      intro v hv m
      induction m with
      | zero =>
        intro i hi b hb
        have e : i = 16 := by omega
        subst e
        refine b4_judge_161 _ _ ⟨by omega, by omega⟩ (fun _ => e4 b ?_) (fun g => absurd g (by omega))
        rcases hb with ⟨rfl, hb⟩ | ⟨rfl, l, l1, l2, l3⟩
        · rcases hv with ⟨rfl, j2, j3⟩ | ⟨rfl, j2, j3⟩ | ⟨rfl, j2⟩
          · exact Or.inl ⟨rfl, j2, j3, hb⟩
          · exact Or.inr ⟨by decide, ⟨by decide, by decide⟩, Or.inr ⟨hb, Or.inr ⟨j2, Or.inl ⟨rfl, j3⟩⟩⟩⟩
          · exact Or.inr ⟨by decide, ⟨by decide, by decide⟩, Or.inr ⟨hb, Or.inl ⟨rfl, j2⟩⟩⟩
        · exact Or.inr ⟨by decide, ⟨by decide, by decide⟩, Or.inl ⟨rfl, l, l1, l2, l3⟩⟩
      | succ m ih =>
        intro i hi b hb
        have ei : (i : Int).toNat = i := Int.toNat_natCast i
        have x3 := b3 i (by omega)
        have xc := cF_bd hx.1 i (by omega)
        refine b4_judge_161 _ _ ⟨by omega, by omega⟩ (fun g => absurd g (by omega)) (fun _ => ?_)
        have skip : (0 < σ 3 i → 0 < cF σ i) → Wp (d + 3 + 1) Y4_judge SM 189 [some (vr 0), some (vi b), some (vi (i : Int)), none, none] [] (up ρ1 0 0 0) (qi fun z' ρ' => ρ' 0 0 = ((0 : Nat) : Int) ∧ (0 = 0 → z' = z) ∧ RelE ρ' σ') (fun _ _ _ _ => False) := by
          intro g
          refine b4_judge_189 _ _ (b4_judge_190 _ _ (ih (i + 1) (by omega) b ?_))
          rcases hb with ⟨rfl, hb⟩ | ⟨rfl, l, l1, l2⟩
          · refine Or.inl ⟨rfl, fun l hl => ?_⟩
            by_cases e : l = i
            · subst e; exact g
            · exact hb l (by omega)
          · exact Or.inr ⟨rfl, l, by omega, l2⟩
        refine b4_judge_167 _ _ ⟨by omega, by omega⟩ (by rw [ei, t10 i (by omega)]; exact ⟨by omega, by omega⟩) (fun g => skip (fun g2 => by rw [ei, t10 i (by omega)] at g; omega)) (fun g => ?_)
        rw [ei, t10 i (by omega)] at g
        refine b4_judge_176 _ _ ⟨by omega, by omega⟩ (by rw [ei, f4 i (by omega)]; exact ⟨by omega, by omega⟩) (fun g2 => skip (fun _ => by rw [ei, f4 i (by omega)] at g2; omega)) (fun g2 => ?_)
        rw [ei, f4 i (by omega)] at g2
        exact b4_judge_185 _ (b4_judge_190 _ _ (ih (i + 1) (by omega) 1 (Or.inr ⟨rfl, i, by omega, g2, g⟩)))
    -- the districts
    have rowD : ∀ e, e < 4 → sm P (fun p => σ 3 (4 * e + p)) = row (σ 3) e := fun e he => by
      rw [sm_D P4 (fun p hp q => (bz (4 * e + p) (by omega) (Or.inr (by omega))).2), sum4]; rfl
    have row0 : ∀ e, e < 4 → D ≤ e → row (σ 3) e = 0 := fun e he q => by
      unfold row
      rw [(bz (4 * e) (by omega) (Or.inl (by omega))).2, (bz (4 * e + 1) (by omega) (Or.inl (by omega))).2, (bz (4 * e + 2) (by omega) (Or.inl (by omega))).2, (bz (4 * e + 3) (by omega) (Or.inl (by omega))).2]; rfl
    have rb : ∀ e, e < 4 → 0 ≤ row (σ 3) e ∧ row (σ 3) e ≤ 80 := fun e he => by
      have a := b3 (4 * e) (by omega)
      have b := b3 (4 * e + 1) (by omega)
      have c := b3 (4 * e + 2) (by omega)
      have f := b3 (4 * e + 3) (by omega)
      unfold row; omega
    have e2 : ∀ v : Int, (v = 0 ∧ ∀ p, p < 4 → col (σ 3) p = sF σ D p) ∨ (v = 3 ∧ ¬ ∀ p, p < 4 → col (σ 3) p = sF σ D p) → ∀ m i : Nat, i + m = D → ∀ b : Int, ((b = v ∧ ∀ e, e < i → row (σ 3) e = σ 1 e) ∨ (b = 2 ∧ ∃ e, e < i ∧ row (σ 3) e ≠ σ 1 e)) → Wp (d + 3 + 1) Y4_judge SM 95 [some (vr 0), some (vi b), some (vi (i : Int)), none, none] [] (up ρ1 0 0 0) (qi fun z' ρ' => ρ' 0 0 = ((0 : Nat) : Int) ∧ (0 = 0 → z' = z) ∧ RelE ρ' σ') (fun _ _ _ _ => False) := by
      intro v hv m
      induction m with
      | zero =>
        intro i hi b hb
        have e : i = D := by omega
        subst e
        refine b4_judge_95 _ _ ⟨by omega, by omega⟩ iD (fun _ => b4_judge_159 _ ?_) (fun g => by rw [r1] at g; omega)
        rcases hb with ⟨rfl, hb⟩ | ⟨rfl, e, e1, e2⟩
        · have j2 : ∀ e, e < 4 → row (σ 3) e = σ 1 e := fun e he => by
            by_cases q : e < i
            · exact hb e q
            · rw [row0 e he (by omega), hx.2.2.2.1 e he (by omega)]
          rcases hv with ⟨rfl, j3⟩ | ⟨rfl, j3⟩
          · exact e3 0 (Or.inl ⟨rfl, j2, j3⟩) 16 0 rfl 0 (Or.inl ⟨rfl, fun l hl => by omega⟩)
          · exact e3 3 (Or.inr (Or.inl ⟨rfl, j2, j3⟩)) 16 0 rfl 3 (Or.inl ⟨rfl, fun l hl => by omega⟩)
        · exact e3 2 (Or.inr (Or.inr ⟨rfl, fun g => e2 (g e (by omega))⟩)) 16 0 rfl 2 (Or.inl ⟨rfl, fun l hl => by omega⟩)
      | succ m ih =>
        intro i hi b hb
        have ei : (i : Int).toNat = i := Int.toNat_natCast i
        have i4 : i < 4 := by omega
        refine b4_judge_95 _ _ ⟨by omega, by omega⟩ iD (fun g => by rw [r1] at g; omega) (fun _ => b4_judge_103 _ _ ?_)
        have inn : ∀ y j : Nat, j + y = P → Wp (d + 3 + 1) Y4_judge SM 108 [some (vr 0), some (vi b), some (vi (i : Int)), some (vi (sm j (fun p => σ 3 (4 * i + p)))), some (vi (j : Int))] [] (up ρ1 0 0 0) (qi fun z' ρ' => ρ' 0 0 = ((0 : Nat) : Int) ∧ (0 = 0 → z' = z) ∧ RelE ρ' σ') (fun _ _ _ _ => False) := by
          intro y
          induction y with
          | zero =>
            intro j hj'
            have e : j = P := by omega
            subst e
            have rbi := rb i i4
            have szi := hx.1.2.2.2.2.1 i i4
            refine b4_judge_108 _ _ _ _ ⟨by omega, by omega⟩ iP (fun _ => ?_) (fun g => by rw [r2] at g; omega)
            rw [rowD i i4]
            refine b4_judge_137 _ _ _ ⟨by omega, by omega⟩ ⟨by omega, by omega⟩ (by rw [ei, f1 i i4]; exact ⟨by omega, by omega⟩) (fun g => ?_) (fun g => ?_)
            · rw [ei, f1 i i4] at g
              refine b4_judge_151 _ _ (b4_judge_152 _ _ (ih (i + 1) (by omega) b ?_))
              rcases hb with ⟨rfl, hb⟩ | ⟨rfl, e, e1, e2⟩
              · refine Or.inl ⟨rfl, fun e he => ?_⟩
                by_cases q : e = i
                · subst q; exact g
                · exact hb e (by omega)
              · exact Or.inr ⟨rfl, e, by omega, e2⟩
            · rw [ei, f1 i i4] at g
              exact b4_judge_147 _ (b4_judge_152 _ _ (ih (i + 1) (by omega) 2 (Or.inr ⟨rfl, i, by omega, g⟩)))
          | succ y ihy =>
            intro j hj'
            refine b4_judge_108 _ _ _ _ ⟨by omega, by omega⟩ iP (fun g => by rw [r2] at g; omega) (fun _ => ?_)
            refine b4_judge_117 _ _ _ _ ⟨by omega, by omega⟩ ?_
            rw [show (4 * (i : Int) + (j : Int)).toNat = 4 * i + j by omega, t10 _ (by omega)]
            exact ihy (j + 1) (by omega)
        exact inn P 0 (by omega)
    -- the parties
    have colD : ∀ p, p < 4 → sm D (fun e => σ 3 (4 * e + p)) = col (σ 3) p := fun p hp => by
      rw [sm_D D4 (fun e he q => (bz (4 * e + p) (by omega) (Or.inl (by omega))).2), sum4]
      unfold col
      rw [show 4 * 0 + p = p by omega]
    have col0 : ∀ p, p < 4 → P ≤ p → col (σ 3) p = 0 := fun p hp q => by
      unfold col
      rw [(bz p (by omega) (Or.inr (by omega))).2, (bz (4 + p) (by omega) (Or.inr (by omega))).2, (bz (8 + p) (by omega) (Or.inr (by omega))).2, (bz (12 + p) (by omega) (Or.inr (by omega))).2]; rfl
    have cb : ∀ p, p < 4 → 0 ≤ col (σ 3) p ∧ col (σ 3) p ≤ 80 := fun p hp => by
      have a := b3 p (by omega)
      have b := b3 (4 + p) (by omega)
      have c := b3 (8 + p) (by omega)
      have f := b3 (12 + p) (by omega)
      unfold col; omega
    have e1 : ∀ m i : Nat, i + m = P → ∀ b : Int, ((b = 0 ∧ ∀ p, p < i → col (σ 3) p = sF σ D p) ∨ (b = 3 ∧ ∃ p, p < i ∧ col (σ 3) p ≠ sF σ D p)) → Wp (d + 3 + 1) Y4_judge SM 29 [some (vr 0), some (vi b), some (vi (i : Int)), none, none] [] (up ρ1 0 0 0) (qi fun z' ρ' => ρ' 0 0 = ((0 : Nat) : Int) ∧ (0 = 0 → z' = z) ∧ RelE ρ' σ') (fun _ _ _ _ => False) := by
      intro m
      induction m with
      | zero =>
        intro i hi b hb
        have e : i = P := by omega
        subst e
        refine b4_judge_29 _ _ ⟨by omega, by omega⟩ iP (fun _ => b4_judge_93 _ ?_) (fun g => by rw [r2] at g; omega)
        rcases hb with ⟨rfl, hb⟩ | ⟨rfl, p, p1, p2⟩
        · refine e2 0 (Or.inl ⟨rfl, fun p hp => ?_⟩) D 0 (by omega) 0 (Or.inl ⟨rfl, fun e he => by omega⟩)
          by_cases q : p < i
          · exact hb p q
          · rw [col0 p hp (by omega), sF_P hx hw hp (by omega)]
        · exact e2 3 (Or.inr ⟨rfl, fun g => p2 (g p (by omega))⟩) D 0 (by omega) 3 (Or.inl ⟨rfl, fun e he => by omega⟩)
      | succ m ih =>
        intro i hi b hb
        have ei : (i : Int).toNat = i := Int.toNat_natCast i
        have i4 : i < 4 := by omega
        refine b4_judge_29 _ _ ⟨by omega, by omega⟩ iP (fun g => by rw [r2] at g; omega) (fun _ => b4_judge_37 _ _ ?_)
        have inn : ∀ y j : Nat, j + y = D → Wp (d + 3 + 1) Y4_judge SM 42 [some (vr 0), some (vi b), some (vi (i : Int)), some (vi (sm j (fun e => σ 3 (4 * e + i)))), some (vi (j : Int))] [] (up ρ1 0 0 0) (qi fun z' ρ' => ρ' 0 0 = ((0 : Nat) : Int) ∧ (0 = 0 → z' = z) ∧ RelE ρ' σ') (fun _ _ _ _ => False) := by
          intro y
          induction y with
          | zero =>
            intro j hj'
            have e : j = D := by omega
            subst e
            have rbi := cb i i4
            have szi := sF_bd hx.1 i i4
            refine b4_judge_42 _ _ _ _ ⟨by omega, by omega⟩ iD (fun _ => ?_) (fun g => by rw [r1] at g; omega)
            rw [colD i i4]
            refine b4_judge_71 _ _ _ ⟨by omega, by omega⟩ ⟨by omega, by omega⟩ (by rw [ei, f6 i i4]; exact ⟨by omega, by omega⟩) (fun g => ?_) (fun g => ?_)
            · rw [ei, f6 i i4] at g
              refine b4_judge_85 _ _ (b4_judge_86 _ _ (ih (i + 1) (by omega) b ?_))
              rcases hb with ⟨rfl, hb⟩ | ⟨rfl, e, e1, e2⟩
              · refine Or.inl ⟨rfl, fun e he => ?_⟩
                by_cases q : e = i
                · subst q; exact g
                · exact hb e (by omega)
              · exact Or.inr ⟨rfl, e, by omega, e2⟩
            · rw [ei, f6 i i4] at g
              exact b4_judge_81 _ (b4_judge_86 _ _ (ih (i + 1) (by omega) 3 (Or.inr ⟨rfl, i, by omega, g⟩)))
          | succ y ihy =>
            intro j hj'
            refine b4_judge_42 _ _ _ _ ⟨by omega, by omega⟩ iD (fun g => by rw [r1] at g; omega) (fun _ => ?_)
            refine b4_judge_51 _ _ _ _ ⟨by omega, by omega⟩ ?_
            rw [show (4 * (j : Int) + (i : Int)).toNat = 4 * j + i by omega, t10 _ (by omega)]
            exact ihy (j + 1) (by omega)
        exact inn D 0 (by omega)
    exact e1 P 0 (by omega) 0 (Or.inl ⟨rfl, fun p hp => by omega⟩)
  · refine b4_judge_5 _ ⟨by decide, by decide⟩ (fun _ => ?_) (fun g => absurd rfl g)
    rcases hr with ⟨rfl, -⟩ | ⟨-, g, -⟩
    · exact b4_judge_12 (b4_judge_13 _ (by rw [up_at]; exact ⟨by decide, by decide⟩) (fun g => by rw [up_at] at g; exact absurd g (by decide)) (fun _ => b4_judge_23 ⟨0, rfl, up_at, fun g => absurd g (by decide), D, P, ms_rel h hs s1 s2⟩))
    · exact absurd (no_some hw g) id
end MK
