/-! ===== the model's constructor: its loops ===== -/
section MT
variable {d : Nat} {ρ : HP} {Q : MQt} {X : MXt}
theorem wp_init (h14 : ρ 0 14 = 0) (K : ∀ τ : HP, (∀ r, r ≠ 0 → r ≠ 7 → τ r = ρ r) → (∀ j, j ≠ 14 → τ 0 j = ρ 0 j) → RG τ → Q none τ) : Wp (d + 2) Y4_init SM 135 [some (vr 0), none, none, none, none] [] ρ Q X := by
  have l256 : ∀ k, 16 ≤ allK k ∧ allK k ≤ 256 := fun k => by unfold allK; split <;> (try split) <;> omega
  have lk : ∀ y k : Nat, k + y = 5 → 2 ≤ k → ∀ τ : HP, RI ρ τ (base k) k 0 0 → Wp (d + 1 + 1) Y4_init SM 137 [some (vr 0), some (vi (k : Int)), none, none, none] [] τ Q X := by
    intro y
    induction y with
    | zero =>
      intro k hk k2 τ hI
      have e : k = 5 := by omega
      subst e
      exact b4_init_137 _ ⟨by omega, by omega⟩ (fun _ => b4_init_247 (K τ hI.1 hI.2.1 (RI.rg hI))) (fun g => absurd g (by omega))
    | succ y ihy =>
      intro k hk k2 τ hI
      have k4 : k ≤ 4 := by omega
      obtain ⟨a16, a256⟩ := l256 k
      refine b4_init_137 _ ⟨by omega, by omega⟩ (fun g => absurd g (by omega)) (fun _ => ?_)
      have ld : ∀ x dd : Nat, dd + x = allK k → ∀ τ : HP, RI ρ τ (base k + cD k dd) k dd 0 → Wp (d + 1 + 1) Y4_init SM 168 [some (vr 0), some (vi (k : Int)), some (vi (allK k : Int)), some (vi (dd : Int)), none] [] τ Q X := by
        intro x
        induction x with
        | zero =>
          intro dd hd τ hI
          have e : dd = allK k := by omega
          subst e
          refine b4_init_168 _ _ _ ⟨by omega, by omega⟩ ⟨by omega, by omega⟩ (fun _ => b4_init_241 _ (ihy (k + 1) (by omega) (by omega) τ ?_)) (fun g => absurd g (by omega))
          rw [← base_nx k2 k4]
          refine hI.mv (fun k' d' p' a b => ?_)
          rcases b with b | ⟨-, b | ⟨-, b⟩⟩
          · by_cases e : k' = k
            · subst e; exact Or.inr ⟨rfl, Or.inl a.2.2.1⟩
            · exact Or.inl (by omega)
          · omega
          · omega
        | succ x ihx =>
          intro dd hd τ hI
          have d256 : dd < allK k := by omega
          refine b4_init_168 _ _ _ ⟨by omega, by omega⟩ ⟨by omega, by omega⟩ (fun g => absurd g (by omega)) (fun _ => b4_init_173 _ _ _ ?_)
          have lq : begP dd k → ∀ z p : Nat, p + z = allK k → ∀ τ : HP, RI ρ τ (base k + cD k dd + cR k p) k dd p → Wp (d + 1 + 1) Y4_init SM 176 [some (vr 0), some (vi (k : Int)), some (vi (allK k : Int)), some (vi (dd : Int)), some (vi (p : Int))] [] τ Q X := by
            intro hb z
            have hbB : begB dd k = true := begB_iff.2 hb
            induction z with
            | zero =>
              intro p hp τ hI
              have e : p = allK k := by omega
              subst e
              refine b4_init_176 _ _ _ _ ⟨by omega, by omega⟩ ⟨by omega, by omega⟩ (fun _ => b4_init_235 _ _ _ (ihx (dd + 1) (by omega) τ ?_)) (fun g => absurd g (by omega))
              have e2 : base k + cD k (dd + 1) = base k + cD k dd + cR k (allK k) := by simp only [cD, hbB, if_true]; omega
              rw [e2]
              refine hI.mv (fun k' d' p' a b => ?_)
              rcases b with b | ⟨rfl, b | ⟨-, b⟩⟩
              · exact Or.inl b
              · by_cases e : d' = dd
                · subst e; exact Or.inr ⟨rfl, Or.inr ⟨rfl, a.2.2.2.1⟩⟩
                · exact Or.inr ⟨rfl, Or.inl (by omega)⟩
              · omega
            | succ z ihz =>
              intro p hp τ hI
              have p256 : p < allK k := by omega
              refine b4_init_176 _ _ _ _ ⟨by omega, by omega⟩ ⟨by omega, by omega⟩ (fun g => absurd g (by omega)) (fun _ => ?_)
              refine b4_init_182 (d := d + 1) _ _ _ _ (mok_begins (by omega) k4 k2) (fun w τ1 hw => ?_)
              obtain ⟨rfl, hw⟩ := hw
              rcases hw with ⟨rfl, -⟩ | ⟨rfl, hw⟩
              · refine b4_init_187 _ _ _ _ _ ⟨by decide, by decide⟩ (fun g => absurd g (by decide)) (fun _ => ?_)
                refine b4_init_190 (d := d + 1) _ _ _ _ (mok_differ (by omega) k4) (fun w τ2 hw => ?_)
                obtain ⟨rfl, hw⟩ := hw
                rcases hw with ⟨rfl, hf⟩ | ⟨rfl, hf⟩
                · have hfB : difB p k = true := difB_iff.2 hf
                  have room := cnt_lt k2 k4 d256 p256 hbB hfB
                  refine b4_init_196 _ _ _ _ _ ⟨by decide, by decide⟩ (fun g => absurd g (by decide)) (fun _ => ?_)
                  obtain ⟨i1, i2, i3, i4, i5⟩ := hI
                  refine b4_init_199 _ _ _ _ (by rw [i3]; omega) (b4_init_229 _ _ _ _ ?_)
                  rw [i3, Int.toNat_natCast, cd_or (by omega) (by omega) (by omega), up_nr (show (0 : Nat) ≠ 7 by decide), i3]
                  have e2 : base k + cD k dd + cR k (p + 1) = base k + cD k dd + cR k p + 1 := by simp only [cR, hfB, if_true]; omega
                  refine ihz (p + 1) (by omega) _ ?_
                  rw [e2]
                  refine ⟨fun r a b => by rw [up_ne a, up_ne b]; exact i1 r a b, fun j hj => by rw [up_nj hj, up_nr (by decide)]; exact i2 j hj, by rw [up_at]; rfl, fun i hi => ?_, fun k' d' p' a b => ?_⟩
                  · rw [up_nr (by decide)]
                    by_cases e : i = base k + cD k dd + cR k p
                    · subst e
                      rw [up_at]
                      exact ⟨_, k, dg dd, dg p, rfl, ring_of k2 k4 hb hf, cd_code k4 (by omega) (by omega)⟩
                    · rw [up_nj e]; exact i4 i (by omega)
                  · have old : lxB k dd p k' d' p' → ∃ i, i < base k + cD k dd + cR k p + 1 ∧ up (up τ2 7 (base k + cD k dd + cR k p) ((cd k dd p : Nat) : Int)) 0 14 (((base k + cD k dd + cR k p : Nat) : Int) + 1) 7 i = ((cd k' d' p' : Nat) : Int) := by
                      intro g
                      obtain ⟨i, hi, e⟩ := i5 k' d' p' a g
                      exact ⟨i, by omega, by rw [up_nr (by decide), up_nj (by omega)]; exact e⟩
                    rcases b with b | ⟨rfl, b | ⟨rfl, b⟩⟩
                    · exact old (Or.inl b)
                    · exact old (Or.inr ⟨rfl, Or.inl b⟩)
                    · by_cases e : p' = p
                      · subst e
                        exact ⟨_, Nat.lt_succ_self _, by rw [up_nr (by decide), up_at]⟩
                      · exact old (Or.inr ⟨rfl, Or.inr ⟨rfl, by omega⟩⟩)
                · refine b4_init_196 _ _ _ _ _ ⟨by decide, by decide⟩ (fun _ => b4_init_229 _ _ _ _ (ihz (p + 1) (by omega) τ2 ?_)) (fun g => absurd rfl g)
                  have hfB : difB p k = false := by
                    cases q : difB p k with
                    | false => rfl
                    | true => exact absurd (difB_iff.1 q) hf
                  have e2 : base k + cD k dd + cR k (p + 1) = base k + cD k dd + cR k p := by simp [cR, hfB]
                  rw [e2]
                  refine hI.mv (fun k' d' p' a b => ?_)
                  rcases b with b | ⟨rfl, b | ⟨rfl, b⟩⟩
                  · exact Or.inl b
                  · exact Or.inr ⟨rfl, Or.inl b⟩
                  · by_cases e : p' = p
                    · subst e; exact absurd a.2.2.2.2.2 hf
                    · exact Or.inr ⟨rfl, Or.inr ⟨rfl, by omega⟩⟩
              · exact absurd hb hw
          by_cases hb : begP dd k
          · exact lq hb (allK k) 0 (by omega) τ hI
          · refine b4_init_176 _ _ _ _ ⟨by decide, by decide⟩ ⟨by omega, by omega⟩ (fun g => absurd g (by omega)) (fun _ => ?_)
            refine b4_init_182 (d := d + 1) _ _ _ _ (mok_begins (by omega) k4 k2) (fun w τ1 hw => ?_)
            obtain ⟨rfl, hw⟩ := hw
            rcases hw with ⟨-, hw⟩ | ⟨rfl, -⟩
            · exact absurd hw hb
            · refine b4_init_187 _ _ _ _ _ ⟨by decide, by decide⟩ (fun _ => b4_init_235 _ _ _ (ihx (dd + 1) (by omega) τ1 ?_)) (fun g => absurd rfl g)
              have hbB : begB dd k = false := by
                cases q : begB dd k with
                | false => rfl
                | true => exact absurd (begB_iff.1 q) hb
              have e2 : base k + cD k (dd + 1) = base k + cD k dd := by simp [cD, hbB]
              rw [e2]
              refine hI.mv (fun k' d' p' a b => ?_)
              rcases b with b | ⟨rfl, b | ⟨-, b⟩⟩
              · exact Or.inl b
              · by_cases e : d' = dd
                · subst e; exact absurd a.2.2.2.2.1 hb
                · exact Or.inr ⟨rfl, Or.inl (by omega)⟩
              · omega
      have st : ∀ s : Int, s = (allK k : Int) → Wp (d + 1 + 1) Y4_init SM 165 [some (vr 0), some (vi (k : Int)), none, none, none] [vi s] τ Q X := by
        rintro s rfl
        exact b4_init_165 _ _ (ld (allK k) 0 (by omega) τ hI)
      refine b4_init_142 _ ⟨by omega, by omega⟩ (fun g => b4_init_152 _ ⟨by omega, by omega⟩ (fun g2 => b4_init_162 _ (st 256 ?_)) (fun g2 => b4_init_157 _ (st 64 ?_))) (fun g => b4_init_147 _ (st 16 ?_))
      · rw [show k = 4 by omega]; rfl
      · rw [show k = 3 by omega]; rfl
      · rw [show k = 2 by omega]; rfl
  refine b4_init_135 (lk 3 2 rfl (by omega) ρ ⟨fun _ _ _ => rfl, fun _ _ => rfl, h14, fun i hi => absurd hi (by show ¬ i < 0; omega), fun k' d' p' a b => ?_⟩)
  have := a.1
  rcases b with b | ⟨-, b | ⟨-, b⟩⟩ <;> omega
end MT
