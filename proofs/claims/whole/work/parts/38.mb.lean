/-! ===== the model: weights ===== -/
section MB
variable {d : Nat} {σ ρ : HP} {Q : MQt} {X : MXt} {D P : Nat}
theorem all_own (v : Tb) : own v 0 + own v 1 + own v 2 + own v 3 = allV v := by
  unfold own allV
  simp [sm]
  omega
theorem own_e {v v' : Tb} (h : ∀ l, l < 16 → v' l = v l) {p : Nat} (hp : p < 4) : own v' p = own v p := by
  unfold own; rw [h _ (by omega), h _ (by omega), h _ (by omega), h _ (by omega)]
def MW (ρ σ : HP) (D : Nat) : Prop := ρ 0 1 = D ∧ ρ 0 5 = σ 0 3 ∧ ρ 0 6 = σ 0 2 ∧ (∀ e, e < 4 → ρ 1 e = σ 1 e) ∧ (∀ l, l < 16 → ρ 2 l = σ 2 l) ∧ ∀ l, l < 16 → D ≤ l / 4 → ρ 4 l = 0
theorem MIn.mw (h : MIn ρ σ D P) : MW ρ σ D := by
  obtain ⟨a, b, c, e, f, g, i, j, k, l⟩ := h
  exact ⟨a, c, e, f, fun l hl => (g l hl).1, k⟩
def wPost (ρ σ : HP) (D : Nat) (z : Int) (ρ' : HP) : Prop := (∀ r, r ≠ 4 → r ≠ 5 → ρ' r = ρ r) ∧ (∀ l, l < 16 → ρ' 4 l = cF σ l) ∧ (∀ p, p < 4 → ρ' 5 p = wF σ D p) ∧ ((z = 1 ∧ someW σ D) ∨ (z = 0 ∧ noW σ D))
theorem mok_weighAll (h : XI σ D P) (hm : MW ρ σ D) : Ok (d + 1) Y4_weighAll SM [vr 0] ρ (qi fun z ρ' => wPost ρ σ D z ρ') := by
  refine Ok.ofWp (by decide) (Nat.le_of_ble_eq_true rfl) ?_
  obtain ⟨m1, m5, m6, me, mv, mz⟩ := hm
  have hv := h.1
  obtain ⟨D4, -, hthr, hwg, hsz, -, hvt, -⟩ := hv
  have hcb := cF_bd h.1
  have hown : ∀ p, p < 4 → own (ρ 2) p = own (σ 2) p := fun p hp => own_e mv hp
  have obd : ∀ p, p < 4 → 0 ≤ own (σ 2) p ∧ own (σ 2) p ≤ 2000 := by
    intro p hp
    have a := hvt p (by omega)
    have b := hvt (4 + p) (by omega)
    have c := hvt (8 + p) (by omega)
    have e := hvt (12 + p) (by omega)
    unfold own; omega
  have o0 := obd 0 (by omega)
  have o1 := obd 1 (by omega)
  have o2 := obd 2 (by omega)
  have o3 := obd 3 (by omega)
  have hall := all_own (σ 2)
  have tb : 0 ≤ σ 0 2 * allV (σ 2) ∧ σ 0 2 * allV (σ 2) ≤ 1000 * 8000 := ⟨Int.mul_nonneg hthr.1 (by omega), Int.mul_le_mul hthr.2 (by omega) (by omega) (by omega)⟩
  refine b4_weighAll_0 (d := d) (mok_votesOf (p := 0) (by omega)) (fun z ρ0 hz => ?_)
  obtain ⟨rfl, rfl⟩ := hz
  refine b4_weighAll_5 (d := d) _ (mok_votesOf (p := 1) (by omega)) (fun z ρ0 hz => ?_)
  obtain ⟨rfl, rfl⟩ := hz
  refine b4_weighAll_10 (d := d) _ _ (mok_votesOf (p := 2) (by omega)) (fun z ρ0 hz => ?_)
  obtain ⟨rfl, rfl⟩ := hz
  refine b4_weighAll_16 (d := d) _ _ (mok_votesOf (p := 3) (by omega)) (fun z ρ0 hz => ?_)
  obtain ⟨rfl, rfl⟩ := hz
  refine b4_weighAll_22 _ _ ?_
  rw [hown 0 (by omega), hown 1 (by omega), hown 2 (by omega), hown 3 (by omega), hall]
  have l1 : ∀ k i : Nat, i + k = 4 → ∀ (τ : HP) (b : Int), (∀ r, r ≠ 4 → r ≠ 5 → τ r = ρ0 r) → (∀ l, l < 16 → (l % 4 < i ∨ D ≤ l / 4) → τ 4 l = cF σ l) → (∀ p, p < i → τ 5 p = wF σ D p) → ((b = 1 ∧ ∃ p, p < i ∧ 0 < wF σ D p) ∨ (b = 0 ∧ ∀ p, p < i → wF σ D p = 0)) →
      Wp (d + 1) Y4_weighAll SM 28 [some (vr 0), some (vi (allV (σ 2))), some (vi b), some (vi (i : Int)), none, none, none, none, none, none] [] τ (qi fun z ρ' => wPost ρ0 σ D z ρ') (fun _ _ _ _ => False) := by
    intro k
    induction k with
    | zero =>
      intro i hi τ b t1 t2 t3 t4
      have e : i = 4 := by omega
      subst e
      refine b4_weighAll_28 _ _ _ ⟨by omega, by omega⟩ (fun _ => b4_weighAll_217 _ (by omega) ⟨_, rfl, t1, fun l hl => t2 l hl (Or.inl (by omega)), t3, ?_⟩) (fun g => absurd g (by omega))
      rcases t4 with ⟨rfl, p, hp, q⟩ | ⟨rfl, q⟩
      · exact Or.inl ⟨rfl, p, hp, q⟩
      · exact Or.inr ⟨rfl, q⟩
    | succ k ih =>
      intro i hi τ b t1 t2 t3 t4
      have i4 : i < 4 := by omega
      have ei : (i : Int).toNat = i := Int.toNat_natCast i
      have e2 : own (τ 2) i = own (σ 2) i := by rw [t1 2 (by decide) (by decide)]; exact hown i i4
      have oi := obd i i4
      refine b4_weighAll_28 _ _ _ ⟨by omega, by omega⟩ (fun g => absurd g (by omega)) (fun _ => ?_)
      refine b4_weighAll_33 (d := d) _ _ _ (mok_votesOf i4) (fun z τ' hz => ?_)
      obtain ⟨rfl, rfl⟩ := hz
      rw [e2]
      have e06 : τ' 0 6 = σ 0 2 := by rw [t1 0 (by decide) (by decide)]; exact m6
      -- the districts, whether the party is out or not
      have l2 : ∀ o : Int, (o = 1 ∧ 1000 * own (σ 2) i < σ 0 2 * allV (σ 2)) ∨ (o = 0 ∧ ¬ 1000 * own (σ 2) i < σ 0 2 * allV (σ 2)) → ∀ m j : Nat, j + m = D → ∀ τ2 : HP, (∀ r, r ≠ 4 → r ≠ 5 → τ2 r = ρ0 r) → (∀ l, l < 16 → (l % 4 < i ∨ (l % 4 = i ∧ l / 4 < j) ∨ D ≤ l / 4) → τ2 4 l = cF σ l) → (∀ p, p < i → τ2 5 p = wF σ D p) → τ2 5 i = sm j (fun d => if σ 0 3 = 0 then cF σ (d * 4 + i) else cF σ (d * 4 + i) * mulF (σ 1) d D) →
          Wp (d + 1) Y4_weighAll SM 68 [some (vr 0), some (vi (allV (σ 2))), some (vi b), some (vi (i : Int)), some (vi o), some (vi (j : Int)), none, none, none, none] [] τ2 (qi fun z ρ' => wPost ρ0 σ D z ρ') (fun _ _ _ _ => False) := by
        intro o ho m
        induction m with
        | zero =>
          intro j hj τ2 u1 u2 u3 u4
          have e : j = D := by omega
          subst e
          have e01 : τ2 0 1 = j := by rw [u1 0 (by decide) (by decide)]; exact m1
          refine b4_weighAll_68 _ _ _ _ _ ⟨by omega, by omega⟩ (by rw [e01]; exact ⟨by omega, by omega⟩) (fun _ => ?_) (fun g => by rw [e01] at g; omega)
          have ew : τ2 5 i = wF σ j i := u4
          have wb := wtF_bd (D := j) (wg := σ 0 3) (sz := σ 1) (c := cF σ) D4 hsz hcb i4
          have wb' : 0 ≤ wF σ j i ∧ wF σ j i ≤ 320000000 := wb
          have u3' : ∀ p, p < i + 1 → τ2 5 p = wF σ j p := fun p hp => by
            by_cases e : p = i
            · subst e; exact ew
            · exact u3 p (by omega)
          have u2' : ∀ l, l < 16 → (l % 4 < i + 1 ∨ j ≤ l / 4) → τ2 4 l = cF σ l := fun l hl q => u2 l hl (by omega)
          have yes : (∃ p, p < i + 1 ∧ 0 < wF σ j p) → Wp (d + 1) Y4_weighAll SM 205 [some (vr 0), some (vi (allV (σ 2))), none, some (vi (i : Int)), none, none, none, none, none, none] [] τ2 (qi fun z ρ' => wPost ρ0 σ j z ρ') (fun _ _ _ _ => False) := fun q =>
            b4_weighAll_205 _ _ (b4_weighAll_210 _ _ _ (ih (i + 1) (by omega) τ2 1 u1 u2' u3' (Or.inl ⟨rfl, q⟩)))
          rcases t4 with ⟨rfl, p, hp, q⟩ | ⟨rfl, q⟩
          · exact b4_weighAll_190 _ _ _ ⟨by decide, by decide⟩ (fun _ => yes ⟨p, by omega, q⟩) (fun g => absurd g (by decide))
          · refine b4_weighAll_190 _ _ _ ⟨by decide, by decide⟩ (fun g => absurd rfl g) (fun _ => ?_)
            refine b4_weighAll_194 _ _ ⟨by omega, by omega⟩ (by rw [ei, ew]; exact ⟨by omega, by omega⟩) (fun g => ?_) (fun g => ?_)
            · rw [ei, ew] at g
              refine b4_weighAll_209 _ _ (b4_weighAll_210 _ _ _ (ih (i + 1) (by omega) τ2 0 u1 u2' u3' (Or.inr ⟨rfl, fun p hp => ?_⟩)))
              by_cases e : p = i
              · subst e; omega
              · exact q p (by omega)
            · rw [ei, ew] at g
              exact yes ⟨i, by omega, g⟩
        | succ m ihm =>
          intro j hj τ2 u1 u2 u3 u4
          have e01 : τ2 0 1 = D := by rw [u1 0 (by decide) (by decide)]; exact m1
          have el : (4 * (j : Int) + (i : Int)).toNat = 4 * j + i := by omega
          have cj := hcb (4 * j + i) (by omega)
          refine b4_weighAll_68 _ _ _ _ _ ⟨by omega, by omega⟩ (by rw [e01]; exact ⟨by omega, by omega⟩) (fun g => by rw [e01] at g; omega) (fun _ => ?_)
          have main : Wp (d + 1) Y4_weighAll SM 97 [some (vr 0), some (vi (allV (σ 2))), some (vi b), some (vi (i : Int)), some (vi o), some (vi (j : Int)), none, none, none, none] [vi (cF σ (4 * j + i))] τ2 (qi fun z ρ' => wPost ρ0 σ D z ρ') (fun _ _ _ _ => False) := by
            refine b4_weighAll_97 _ _ _ _ _ _ ⟨by omega, by omega⟩ ?_
            rw [el]
            have w1 : ∀ r, r ≠ 4 → r ≠ 5 → up τ2 4 (4 * j + i) (cF σ (4 * j + i)) r = ρ0 r := fun r a b => by rw [up_ne a]; exact u1 r a b
            have w5 : up τ2 4 (4 * j + i) (cF σ (4 * j + i)) 5 = τ2 5 := up_ne (by decide)
            have w01 : up τ2 4 (4 * j + i) (cF σ (4 * j + i)) 0 1 = D := by rw [w1 0 (by decide) (by decide)]; exact m1
            have w05 : up τ2 4 (4 * j + i) (cF σ (4 * j + i)) 0 5 = σ 0 3 := by rw [w1 0 (by decide) (by decide)]; exact m5
            have fin : ∀ by_ : Int, by_ * cF σ (4 * j + i) = (if σ 0 3 = 0 then cF σ (j * 4 + i) else cF σ (j * 4 + i) * mulF (σ 1) j D) → Wp (d + 1) Y4_weighAll SM 165 [some (vr 0), some (vi (allV (σ 2))), some (vi b), some (vi (i : Int)), some (vi o), some (vi (j : Int)), some (vi (cF σ (4 * j + i))), some (vl by_), none, none] [] (up τ2 4 (4 * j + i) (cF σ (4 * j + i))) (qi fun z ρ' => wPost ρ0 σ D z ρ') (fun _ _ _ _ => False) := by
              intro by_ hby
              refine b4_weighAll_165 _ _ _ _ _ _ _ ⟨by omega, by omega⟩ ⟨by omega, by omega⟩ ?_
              rw [ei, w5, u4, hby]
              refine ihm (j + 1) (by omega) _ (fun r a b => by rw [up_ne b]; exact w1 r a b) (fun l hl q => ?_) (fun p hp => ?_) ?_
              · rw [up_nr (by decide)]
                by_cases e : l = 4 * j + i
                · subst e; rw [up_at]
                · rw [up_nj e]; exact u2 l hl (by omega)
              · rw [up_nj (by omega), w5]; exact u3 p hp
              · rw [up_at]; rfl
            have l3 : ∀ n e : Nat, e + n = D → Wp (d + 1) Y4_weighAll SM 118 [some (vr 0), some (vi (allV (σ 2))), some (vi b), some (vi (i : Int)), some (vi o), some (vi (j : Int)), some (vi (cF σ (4 * j + i))), some (vl (if σ 0 3 = 0 then 1 else mulF (σ 1) j e)), none, some (vi (e : Int))] [] (up τ2 4 (4 * j + i) (cF σ (4 * j + i))) (qi fun z ρ' => wPost ρ0 σ D z ρ') (fun _ _ _ _ => False) := by
              intro n
              induction n with
              | zero =>
                intro e he
                have e' : e = D := by omega
                subst e'
                refine b4_weighAll_118 _ _ _ _ _ _ _ _ ⟨by omega, by omega⟩ (by rw [w01]; exact ⟨by omega, by omega⟩) (fun _ => fin _ ?_) (fun g => by rw [w01] at g; omega)
                rw [Nat.mul_comm j 4]
                by_cases q : σ 0 3 = 0
                · rw [if_pos q, if_pos q, Int.one_mul]
                · rw [if_neg q, if_neg q, Int.mul_comm]
              | succ n ihn =>
                intro e he
                have ee : (e : Int).toNat = e := Int.toNat_natCast e
                refine b4_weighAll_118 _ _ _ _ _ _ _ _ ⟨by omega, by omega⟩ (by rw [w01]; exact ⟨by omega, by omega⟩) (fun g => by rw [w01] at g; omega) (fun _ => ?_)
                refine b4_weighAll_127 _ _ _ _ _ _ _ _ (by rw [w05]; rcases hwg with e | e <;> rw [e] <;> exact ⟨by decide, by decide⟩) (fun q => fin _ ?_) (fun q => ?_)
                · rw [w05] at q
                  rw [Nat.mul_comm j 4, if_pos q, if_pos q, Int.one_mul]
                · rw [w05] at q
                  have s1 : up τ2 4 (4 * j + i) (cF σ (4 * j + i)) 1 e = σ 1 e := by rw [w1 1 (by decide) (by decide)]; exact me e (by omega)
                  have sb := hsz e (by omega)
                  have nx := ihn (e + 1) (by omega)
                  rw [if_neg q] at nx ⊢
                  refine b4_weighAll_134 _ _ _ _ _ _ _ _ ⟨by omega, by omega⟩ ⟨by omega, by omega⟩ (fun g => ?_) (fun g => ?_)
                  · refine b4_weighAll_146 _ _ _ _ _ _ _ _ ⟨by omega, by omega⟩ (by rw [ee, s1]; exact ⟨by omega, by omega⟩) (b4_weighAll_157 _ _ _ _ _ _ _ _ ?_)
                    rw [ee, s1]
                    simp only [mulF] at nx
                    rw [if_neg (by omega)] at nx
                    exact nx
                  · refine b4_weighAll_141 _ _ _ _ _ _ _ _ (b4_weighAll_157 _ _ _ _ _ _ _ _ ?_)
                    simp only [mulF] at nx
                    rw [if_pos (by omega)] at nx
                    exact nx
            have := l3 D 0 (by omega)
            simp only [mulF, ite_self] at this
            exact this
          have ec : cF σ (4 * j + i) = if 1000 * own (σ 2) i < σ 0 2 * allV (σ 2) then 0 else σ 2 (4 * j + i) := by
            unfold cF cntF; rw [show (4 * j + i) % 4 = i by omega]
          rcases ho with ⟨rfl, ho⟩ | ⟨rfl, ho⟩
          · rw [if_pos ho] at ec
            refine b4_weighAll_77 _ _ _ _ _ ⟨by decide, by decide⟩ (fun g => absurd g (by decide)) (fun _ => b4_weighAll_82 _ _ _ _ _ ?_)
            rw [ec] at main
            exact main
          · rw [if_neg ho] at ec
            refine b4_weighAll_77 _ _ _ _ _ ⟨by decide, by decide⟩ (fun _ => b4_weighAll_86 _ _ _ _ _ ⟨by omega, by omega⟩ ?_) (fun g => absurd rfl g)
            rw [el, u1 2 (by decide) (by decide), mv _ (by omega), ← ec]
            exact main
      have st : ∀ o : Int, (o = 1 ∧ 1000 * own (σ 2) i < σ 0 2 * allV (σ 2)) ∨ (o = 0 ∧ ¬ 1000 * own (σ 2) i < σ 0 2 * allV (σ 2)) → Wp (d + 1) Y4_weighAll SM 56 [some (vr 0), some (vi (allV (σ 2))), some (vi b), some (vi (i : Int)), none, none, none, none, none, none] [vi o] τ' (qi fun z ρ' => wPost ρ0 σ D z ρ') (fun _ _ _ _ => False) := by
        intro o ho
        refine b4_weighAll_56 _ _ _ _ ⟨by omega, by omega⟩ ?_
        rw [ei]
        refine l2 o ho D 0 (by omega) _ (fun r a b => by rw [up_ne b]; exact t1 r a b) (fun l hl q => by rw [up_nr (by decide)]; exact t2 l hl (by omega)) (fun p hp => by rw [up_nj (by omega)]; exact t3 p hp) ?_
        rw [up_at]; rfl
      refine b4_weighAll_41 _ _ _ _ _ ⟨by omega, by omega⟩ (by rw [e06]; exact ⟨by omega, by omega⟩) (fun g => ?_) (fun g => ?_)
      · rw [e06] at g
        exact b4_weighAll_55 _ _ _ (st 0 (Or.inr ⟨rfl, by omega⟩))
      · rw [e06] at g
        exact b4_weighAll_51 _ _ _ (st 1 (Or.inl ⟨rfl, g⟩))
  refine l1 4 0 rfl ρ0 0 (fun _ _ _ => rfl) (fun l hl q => ?_) (fun p hp => by omega) (Or.inr ⟨rfl, fun p hp => by omega⟩)
  rw [mz l hl (by omega), cF_out h l hl (by omega)]
end MB
