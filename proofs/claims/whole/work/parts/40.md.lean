/-! ===== the model: sharing; both told the same ===== -/
section MD
variable {d : Nat} {σ ρ : HP} {Q : MQt} {X : MXt} {D P : Nat}
def Rel (ρ σ : HP) (D P : Nat) : Prop := XI σ D P ∧ MIn ρ σ D P ∧ MSol ρ σ
def RelE (ρ σ : HP) : Prop := ∃ D P, Rel ρ σ D P
theorem Rel.keep {ρ' σ' : HP} (h : Rel ρ σ D P) (hs : sameX σ σ') (k1 : ∀ r, r ≠ 0 → r ≠ 4 → r ≠ 5 → r ≠ 6 → ρ' r = ρ r) (k0 : ∀ j, j ≠ 0 → ρ' 0 j = ρ 0 j) (k4 : (∀ l, l < 16 → ρ' 4 l = cF σ l) ∨ ρ' 4 = ρ 4) : Rel ρ' σ' D P := by
  obtain ⟨hx, hm, hS⟩ := h
  refine ⟨hx.same hs, ?_, ?_⟩
  · obtain ⟨a1, a2, a3, a4, a5, a6, a7, a8, a9, a10, a11, a12⟩ := hm
    refine ⟨?_, ?_, ?_, ?_, ?_, ?_, ?_, ?_, ?_, ?_, ?_, ?_⟩
    · rw [k0 1 (by decide)]; exact a1
    · rw [k0 2 (by decide)]; exact a2
    · rw [k0 5 (by decide), hs.1]; exact a3
    · rw [k0 6 (by decide), hs.1]; exact a4
    · rw [k1 1 (by decide) (by decide) (by decide) (by decide), hs.2.1]; exact a5
    · rw [k1 2 (by decide) (by decide) (by decide) (by decide), k1 10 (by decide) (by decide) (by decide) (by decide), hs.2.2.1, hs.2.2.2.1]; exact a6
    · rw [k1 3 (by decide) (by decide) (by decide) (by decide)]; exact a7
    · rw [k1 3 (by decide) (by decide) (by decide) (by decide), hs.2.2.2.2.1]; exact a8
    · intro l hl q
      rcases k4 with k4 | k4
      · rw [k4 l hl]; exact cF_out hx l hl (Or.inl q)
      · rw [k4]; exact a9 l hl q
    · unfold RG at a10 ⊢; rw [k0 14 (by decide), k1 7 (by decide) (by decide) (by decide) (by decide)]; exact a10
    · rw [k0 8 (by decide), hs.1]; exact a11
    · rw [k0 9 (by decide)]; exact a12
  · unfold MSol at hS ⊢
    rw [cF_s hs.1 hs.2.2.1, hs.1, k0 9 (by decide), k0 10 (by decide), k1 8 (by decide) (by decide) (by decide) (by decide), k1 9 (by decide) (by decide) (by decide) (by decide), k1 14 (by decide) (by decide) (by decide) (by decide), k1 15 (by decide) (by decide) (by decide) (by decide), hs.2.2.2.2.2.1, hs.2.2.2.2.2.2.1, hs.2.2.2.2.2.2.2.1, hs.2.2.2.2.2.2.2.2]
    intro g
    obtain ⟨b1, b2, b3, b4⟩ := hS g
    refine ⟨b1, fun l hl => ?_, b3, b4⟩
    rcases k4 with k4 | k4
    · exact k4 l hl
    · rw [k4]; exact b2 l hl
theorem sm_D {f : Tb} (hD : D ≤ 4) (h : ∀ e, e < 4 → D ≤ e → f e = 0) : sm D f = sm 4 f := by
  rcases (show D = 0 ∨ D = 1 ∨ D = 2 ∨ D = 3 ∨ D = 4 by omega) with rfl | rfl | rfl | rfl | rfl
  · simp [sm, h 0 (by omega) (by omega), h 1 (by omega) (by omega), h 2 (by omega) (by omega), h 3 (by omega) (by omega)]
  · simp [sm, h 1 (by omega) (by omega), h 2 (by omega) (by omega), h 3 (by omega) (by omega)]
  · simp [sm, h 2 (by omega) (by omega), h 3 (by omega) (by omega)]
  · simp [sm, h 3 (by omega) (by omega)]
  · rfl
theorem total_eq (h : XI σ D P) (hm : MIn ρ σ D P) : sm D (ρ 1) = sm 4 (σ 1) := by
  rw [sm_ext (g := σ 1) (fun e he => hm.2.2.2.2.1 e (by have := h.1.1; omega))]
  exact sm_D h.1.1 h.2.2.2.1
theorem wF_P (h : XI σ D P) {p : Nat} (hp : p < 4) (hq : P ≤ p) : wF σ D p = 0 := by
  have D4 := h.1.1
  unfold wF wtF
  have e : ∀ n, n ≤ D → sm n (fun d => if σ 0 3 = 0 then cF σ (d * 4 + p) else cF σ (d * 4 + p) * mulF (σ 1) d D) = 0 := by
    intro n
    induction n with
    | zero => intro _; rfl
    | succ n ih =>
      intro hn
      have c0 : cF σ (n * 4 + p) = 0 := cF_out h _ (by omega) (Or.inr (by omega))
      simp only [sm]
      rw [ih (by omega), c0]
      split <;> simp
  exact e D (Nat.le_refl D)
theorem some_n (h : XI σ D P) (hw : someW σ D) : 1 ≤ sm 4 (σ 1) ∧ 1 ≤ P := by
  obtain ⟨p, hp, hq⟩ := hw
  have hD : 0 < D := by
    rcases Nat.eq_zero_or_pos D with e | e
    · subst e; unfold wF wtF at hq; simp [sm] at hq
    · exact e
  refine ⟨?_, ?_⟩
  · have a := h.2.2.2.2.1 0 hD
    have s := h.1.2.2.2.2.1
    have b := s 1 (by omega)
    have c := s 2 (by omega)
    have e := s 3 (by omega)
    rw [sum4]; omega
  · rcases Nat.eq_zero_or_pos P with e | e
    · have := wF_P h hp (by omega); omega
    · exact e
def msPost (ρ σ : HP) (D : Nat) (z : Int) (ρ' : HP) : Prop := (∀ r, r ≠ 4 → r ≠ 5 → r ≠ 6 → ρ' r = ρ r) ∧ (∀ l, l < 16 → ρ' 4 l = cF σ l) ∧ (∀ p, p < 4 → ρ' 5 p = wF σ D p) ∧ ((z = 1 ∧ someW σ D ∧ ∀ p, p < 4 → ρ' 6 p = sF σ D p) ∨ (z = 0 ∧ noW σ D))
theorem mok_shareAll (h : XI σ D P) (hm : MIn ρ σ D P) : Ok (d + 2) Y4_shareAll SM [vr 0] ρ (qi fun z ρ' => msPost ρ σ D z ρ') := by
  refine Ok.ofWp (by decide) (Nat.le_of_ble_eq_true rfl) ?_
  have D4 := h.1.1
  have P4 := h.2.1
  obtain ⟨m1, m2, -, -, -, -, m3, m4, -⟩ := id hm
  have htot := total_eq h hm
  have hsz := h.1.2.2.2.2.2.1
  have hsz0 := (sm_bd (f := σ 1) (m := 20) 4 (fun i hi => h.1.2.2.2.2.1 i hi)).1
  have hr := h.2.2.2.2.2.2.2.1
  refine b4_shareAll_0 (d := d + 1) (mok_total m1 D4) (fun z ρ0 hz => ?_)
  obtain ⟨rfl, rfl⟩ := hz
  rw [htot]
  refine b4_shareAll_4 _ ?_
  obtain ⟨n, hn⟩ : ∃ n : Nat, sm 4 (σ 1) = n := ⟨(sm 4 (σ 1)).toNat, by omega⟩
  rw [hn]
  have esF : ∀ p, sF σ D p = shF (wF σ D) (σ 4) n p := fun p => by unfold sF; rw [hn, Int.toNat_natCast]
  have wnn : ∀ p, p < 4 → 0 ≤ wF σ D p ∧ wF σ D p ≤ 320000000 := fun p hp => wtF_bd D4 h.1.2.2.2.2.1 (cF_bd h.1) hp
  have l1 : ∀ k i : Nat, i + k = 4 → ∀ τ : HP, (∀ r, r ≠ 6 → τ r = ρ0 r) → (∀ p, p < i → τ 6 p = 0) → Wp (d + 1 + 1) Y4_shareAll SM 7 [some (vr 0), some (vi (n : Int)), some (vi (i : Int)), none, none, none] [] τ (qi fun z ρ' => msPost ρ0 σ D z ρ') (fun _ _ _ _ => False) := by
    intro k
    induction k with
    | zero =>
      intro i hi τ t1 t2
      have e : i = 4 := by omega
      subst e
      refine b4_shareAll_7 _ _ ⟨by omega, by omega⟩ (fun _ => ?_) (fun g => absurd g (by omega))
      have hmw : MW τ σ D := by
        obtain ⟨a, b, c, e, f, g⟩ := hm.mw
        refine ⟨?_, ?_, ?_, ?_, ?_, ?_⟩
        · rw [t1 0 (by decide)]; exact a
        · rw [t1 0 (by decide)]; exact b
        · rw [t1 0 (by decide)]; exact c
        · rw [t1 1 (by decide)]; exact e
        · rw [t1 2 (by decide)]; exact f
        · rw [t1 4 (by decide)]; exact g
      refine b4_shareAll_25 (d := d + 1) _ (mok_weighAll h hmw) (fun z τ1 hz => ?_)
      obtain ⟨u1, u2, u3, hz⟩ := hz
      have v1 : ∀ r, r ≠ 4 → r ≠ 5 → r ≠ 6 → τ1 r = ρ0 r := fun r a b c => by rw [u1 r a b]; exact t1 r c
      rcases hz with ⟨rfl, hw⟩ | ⟨rfl, hw⟩
      · refine b4_shareAll_29 _ _ ⟨by decide, by decide⟩ (fun g => absurd g (by decide)) (fun _ => ?_)
        obtain ⟨n1, P1⟩ := some_n h hw
        refine b4_shareAll_32 _ ⟨by omega, by omega⟩ (fun _ => ?_) (fun g => absurd g (by omega))
        refine b4_shareAll_38 _ ?_
        -- seat by seat
        have l2 : ∀ m j : Nat, j + m = n → ∀ τ2 : HP, (∀ r, r ≠ 6 → τ2 r = τ1 r) → (∀ p, p < 4 → τ2 6 p = shF (wF σ D) (σ 4) j p) → Wp (d + 1 + 1) Y4_shareAll SM 40 [some (vr 0), some (vi (n : Int)), some (vi (j : Int)), none, none, none] [] τ2 (qi fun z ρ' => msPost ρ0 σ D z ρ') (fun _ _ _ _ => False) := by
          intro m
          induction m with
          | zero =>
            intro j hj τ2 w1 w2
            have e : j = n := by omega
            subst e
            refine b4_shareAll_40 _ _ ⟨by omega, by omega⟩ ⟨by omega, by omega⟩ (fun _ => b4_shareAll_142 ⟨1, rfl, fun r a b c => by rw [w1 r c]; exact v1 r a b c, fun l hl => by rw [w1 4 (by decide)]; exact u2 l hl, fun p hp => by rw [w1 5 (by decide)]; exact u3 p hp, Or.inl ⟨rfl, hw, fun p hp => by rw [w2 p hp, esF]⟩⟩) (fun g => absurd g (by omega))
          | succ m ihm =>
            intro j hj τ2 w1 w2
            have sb : ∀ p, 0 ≤ shF (wF σ D) (σ 4) j p ∧ shF (wF σ D) (σ 4) j p ≤ j := shF_bd (wF σ D) (σ 4) j
            have k0 : τ2 0 2 = P := by rw [w1 0 (by decide), v1 0 (by decide) (by decide) (by decide)]; exact m2
            have k3 : τ2 3 = ρ0 3 := by rw [w1 3 (by decide), v1 3 (by decide) (by decide) (by decide)]
            have k5 : ∀ p, p < 4 → τ2 5 p = wF σ D p := fun p hp => by rw [w1 5 (by decide)]; exact u3 p hp
            refine b4_shareAll_40 _ _ ⟨by omega, by omega⟩ ⟨by omega, by omega⟩ (fun g => absurd g (by omega)) (fun _ => ?_)
            refine b4_shareAll_45 (d := d + 1) _ _ (mok_inOrder (k := 0) h (by omega) k0 (by rw [k3]; exact m3) (by rw [k3]; exact m4)) (fun z τ3 hz => ?_)
            obtain ⟨rfl, b0, rfl, bP, bN⟩ := hz
            refine b4_shareAll_50 _ _ _ ?_
            have l3 : ∀ x i : Nat, i + x = P → ∀ b : Nat, b < P → NQ (σ 4) (σ 4 b) < i → (∀ q, q < P → NQ (σ 4) (σ 4 q) < i → q ≠ b → gbF (wF σ D) (shF (wF σ D) (σ 4) j) (σ 4) b q) → Wp (d + 1 + 1) Y4_shareAll SM 54 [some (vr 0), some (vi (n : Int)), some (vi (j : Int)), some (vi (b : Int)), some (vi (i : Int)), none] [] τ3 (qi fun z ρ' => msPost ρ0 σ D z ρ') (fun _ _ _ _ => False) := by
              intro x
              induction x with
              | zero =>
                intro i hi b hb hbn hbest
                have e : i = P := by omega
                subst e
                have eb : (b : Int).toNat = b := Int.toNat_natCast b
                refine b4_shareAll_54 _ _ _ _ ⟨by omega, by omega⟩ (by rw [k0]; exact ⟨by omega, by omega⟩) (fun _ => ?_) (fun g => by rw [k0] at g; omega)
                refine b4_shareAll_126 _ _ _ ⟨by omega, by omega⟩ ?_
                rw [eb, w2 b (by omega)]
                have allb : ∀ q, q < i → q ≠ b → gbF (wF σ D) (shF (wF σ D) (σ 4) j) (σ 4) b q := fun q hq => hbest q hq (NQ_lt h hq).2
                -- the class's choice is the same
                have same : bstF (wF σ D) (shF (wF σ D) (σ 4) j) (σ 4) 3 = b := by
                  have cb := bst_best (w := wF σ D) (s := shF (wF σ D) (σ 4) j) (rk := σ 4) (fun p => (sb p).1) hr.2 3 (by omega)
                  have cl := bstF_le (wF σ D) (shF (wF σ D) (σ 4) j) (σ 4) 3
                  generalize bstF (wF σ D) (shF (wF σ D) (σ 4) j) (σ 4) 3 = c at cb cl
                  by_cases e : c = b
                  · exact e
                  · exfalso
                    have g1 := cb b (by omega) (fun q => e q.symm)
                    by_cases cP : c < i
                    · exact gb_as g1 (allb c cP e)
                    · obtain ⟨p, hp, hpw⟩ := hw
                      have w0 : wF σ D c = 0 := wF_P h (by omega) (by omega)
                      have pc : p ≠ c := fun q => by rw [q, w0] at hpw; omega
                      have g2 := cb p (by omega) pc
                      unfold gbF at g2
                      rw [w0, Int.zero_mul] at g2
                      have : 0 < wF σ D p * (2 * shF (wF σ D) (σ 4) j c + 1) := Int.mul_pos hpw (by have := (sb c).1; omega)
                      omega
                refine ihm (j + 1) (by omega) _ (fun r hr' => by rw [up_ne hr']; exact w1 r hr') (fun p hp => ?_)
                simp only [shF]
                rw [same]
                by_cases e : p = b
                · subst e; rw [up_at, if_pos rfl]
                · rw [up_nj e, if_neg e]; exact w2 p hp
              | succ x ihx =>
                intro i hi b hb hbn hbest
                have eb : (b : Int).toNat = b := Int.toNat_natCast b
                refine b4_shareAll_54 _ _ _ _ ⟨by omega, by omega⟩ (by rw [k0]; exact ⟨by omega, by omega⟩) (fun g => by rw [k0] at g; omega) (fun _ => ?_)
                refine b4_shareAll_63 (d := d + 1) _ _ _ _ (mok_inOrder (k := i) h (by omega) k0 (by rw [k3]; exact m3) (by rw [k3]; exact m4)) (fun z τ4 hz => ?_)
                obtain ⟨rfl, p, rfl, pP, pN⟩ := hz
                have ep : (p : Int).toNat = p := Int.toNat_natCast p
                have s1 := sb p
                have s2 := sb b
                have q1 := wnn p (by omega)
                have q2 := wnn b (by omega)
                have f6p := w2 p (by omega)
                have f6b := w2 b (by omega)
                have f5p := k5 p (by omega)
                have f5b := k5 b (by omega)
                have j20 : (j : Int) ≤ 20 := by omega
                have z1 : 0 ≤ wF σ D p * (2 * shF (wF σ D) (σ 4) j b + 1) ∧ wF σ D p * (2 * shF (wF σ D) (σ 4) j b + 1) ≤ 320000000 * 41 := ⟨Int.mul_nonneg q1.1 (by omega), Int.mul_le_mul q1.2 (by omega) (by omega) (by omega)⟩
                have z2 : 0 ≤ wF σ D b * (2 * shF (wF σ D) (σ 4) j p + 1) ∧ wF σ D b * (2 * shF (wF σ D) (σ 4) j p + 1) ≤ 320000000 * 41 := ⟨Int.mul_nonneg q2.1 (by omega), Int.mul_le_mul q2.2 (by omega) (by omega) (by omega)⟩
                have pb : p ≠ b := fun e => by rw [e] at pN; omega
                refine b4_shareAll_69 _ _ _ _ _ ⟨by omega, by omega⟩ ⟨by omega, by omega⟩ (by rw [eb, f6b]; exact ⟨by omega, by omega⟩) (by rw [ep, f6p]; exact ⟨by omega, by omega⟩) (by rw [eb, ep, f6b, f5p]; exact ⟨by omega, by omega⟩) (by rw [eb, ep, f6p, f5b]; exact ⟨by omega, by omega⟩) (fun g => ?_) (fun g => ?_)
                · rw [eb, ep, f6p, f6b, f5p, f5b] at g
                  refine b4_shareAll_118 _ _ _ _ (b4_shareAll_119 _ _ _ _ (ihx (i + 1) (by omega) b hb (by omega) (fun q hq hN hne => ?_)))
                  by_cases e : NQ (σ 4) (σ 4 q) < i
                  · exact hbest q hq e hne
                  · have ek : q = p := by
                      rcases Int.lt_trichotomy (σ 4 q) (σ 4 p) with l | l | l
                      · have := NQ_mono (σ 4) (show σ 4 q + 1 ≤ σ 4 p by omega)
                        have := NQ_yes (rk := σ 4) (p := q) (by omega) hr.2
                        omega
                      · exact hr.2 q p (by omega) (by omega) l
                      · have := NQ_mono (σ 4) (show σ 4 p + 1 ≤ σ 4 q by omega)
                        have := NQ_yes (rk := σ 4) (p := p) (by omega) hr.2
                        omega
                    subst ek
                    unfold gbF
                    rcases Int.lt_or_eq_of_le g with l | l
                    · exact Or.inl l
                    · refine Or.inr ⟨l.symm, ?_⟩
                      rcases Int.lt_or_le (σ 4 b) (σ 4 q) with l2 | l2
                      · exact l2
                      · have := NQ_mono (σ 4) l2
                        omega
                · rw [eb, ep, f6p, f6b, f5p, f5b] at g
                  refine b4_shareAll_113 _ _ _ _ (b4_shareAll_119 _ _ _ _ (ihx (i + 1) (by omega) p pP (by omega) (fun q hq hN hne => ?_)))
                  have gpb : gbF (wF σ D) (shF (wF σ D) (σ 4) j) (σ 4) p b := Or.inl g
                  by_cases e : NQ (σ 4) (σ 4 q) < i
                  · by_cases e2 : q = b
                    · rw [e2]; exact gpb
                    · exact gb_tr (fun p => (sb p).1) gpb (hbest q hq e e2)
                  · exfalso
                    rcases Int.lt_trichotomy (σ 4 q) (σ 4 p) with l | l | l
                    · have := NQ_mono (σ 4) (show σ 4 q + 1 ≤ σ 4 p by omega)
                      have := NQ_yes (rk := σ 4) (p := q) (by omega) hr.2
                      omega
                    · exact hne (hr.2 q p (by omega) (by omega) l)
                    · have := NQ_mono (σ 4) (show σ 4 p + 1 ≤ σ 4 q by omega)
                      have := NQ_yes (rk := σ 4) (p := p) (by omega) hr.2
                      omega
            refine l3 (P - 1) 1 (by omega) b0 bP (by omega) (fun q hq hN hne => ?_)
            exfalso
            have q0 := (NQ_lt h hq).1
            rcases Int.lt_trichotomy (σ 4 q) (σ 4 b0) with l | l | l
            · have := NQ_mono (σ 4) (show σ 4 q + 1 ≤ σ 4 b0 by omega)
              have := NQ_yes (rk := σ 4) (p := q) (by omega) hr.2
              omega
            · exact hne (hr.2 q b0 (by omega) (by omega) l)
            · have := NQ_mono (σ 4) (show σ 4 b0 + 1 ≤ σ 4 q by omega)
              have := NQ_yes (rk := σ 4) (p := b0) (by omega) hr.2
              omega
        refine l2 n 0 (by omega) τ1 (fun _ _ => rfl) (fun p hp => ?_)
        rw [u1 6 (by decide) (by decide)]
        exact t2 p hp
      · exact b4_shareAll_29 _ _ ⟨by decide, by decide⟩ (fun _ => b4_shareAll_36 ⟨0, rfl, v1, u2, u3, Or.inr ⟨rfl, hw⟩⟩) (fun g => absurd rfl g)
    | succ k ih =>
      intro i hi τ t1 t2
      refine b4_shareAll_7 _ _ ⟨by omega, by omega⟩ (fun g => absurd g (by omega)) (fun _ => ?_)
      refine b4_shareAll_12 _ _ ⟨by omega, by omega⟩ ?_
      rw [Int.toNat_natCast]
      refine ih (i + 1) (by omega) _ (fun r hr' => by rw [up_ne hr']; exact t1 r hr') (fun p hp => ?_)
      by_cases e : p = i
      · subst e; rw [up_at]
      · rw [up_nj e]; exact t2 p (by omega)
  exact l1 4 0 rfl ρ0 (fun _ _ => rfl) (fun p hp => by omega)
end MD
