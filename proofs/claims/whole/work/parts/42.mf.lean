/-! ===== the model: the rest of what it is told; shares and ties ===== -/
section MF
variable {d : Nat} {σ ρ σ' : HP} {Q : MQt} {X : MXt} {D P k : Nat} {z : Int}
theorem mok_threshold {n : Int} (h : Rel ρ σ D P) (hn : in32 n) (hr : rThreshold σ n k σ') : Ok d Y4_threshold SM [vr 0, vi n] ρ (qv fun ρ' => ρ' 0 0 = k ∧ RelE ρ' σ') := by
  refine Ok.ofWp (by decide) (Nat.le_of_ble_eq_true rfl) ?_
  obtain ⟨hx, hm, hS⟩ := id h
  rcases hr with ⟨rfl, q, rfl⟩ | ⟨rfl, q, rfl⟩
  · have fin : Wp d Y4_threshold SM 12 [some (vr 0), some (vi n)] [vr 0] ρ (qv fun ρ' => ρ' 0 0 = ((1 : Nat) : Int) ∧ RelE ρ' σ') (fun _ _ _ _ => False) :=
      b4_threshold_12 _ (b4_threshold_17 _ _ (by rw [up_at]; exact ⟨by decide, by decide⟩) (fun _ => b4_threshold_37 ⟨rfl, up_at, D, P, h.thr⟩) (fun g => by rw [up_at] at g; exact absurd g (by decide)))
    exact b4_threshold_0 _ hn (fun _ => fin) (fun g1 => b4_threshold_5 _ hn (fun g2 => absurd ⟨g1, g2⟩ q) (fun _ => fin))
  · refine b4_threshold_0 _ hn (fun g => absurd q.1 (by omega)) (fun g1 => b4_threshold_5 _ hn (fun g2 => ?_) (fun g => absurd q.2 (by omega)))
    refine b4_threshold_16 _ (b4_threshold_17 _ _ (by rw [up_at]; exact ⟨by decide, by decide⟩) (fun g => absurd up_at g) (fun _ => b4_threshold_27 _ (b4_threshold_37 ⟨rfl, ?_, D, P, XI_thr hx q.1 q.2, ?_, MSol0 up_at⟩)))
    · rw [up_nj (by decide), up_nj (by decide), up_at]; rfl
    · obtain ⟨a1, a2, a3, a4, a5, a6, a7, a8, a9, a10, a11, a12⟩ := hm
      have v0 : ∀ j, j ≠ 0 → j ≠ 6 → j ≠ 8 → up (up (up ρ 0 0 0) 0 6 n) 0 8 0 0 j = ρ 0 j := fun j a b c => by rw [up_nj c, up_nj b, up_nj a]
      have vr : ∀ r, r ≠ 0 → up (up (up ρ 0 0 0) 0 6 n) 0 8 0 r = ρ r := fun r a => by rw [up_ne a, up_ne a, up_ne a]
      have w0 : ∀ x, x ≠ 2 → x ≠ 11 → up (up σ 0 2 n) 0 11 0 0 x = σ 0 x := fun x p q => by rw [up_nj q, up_nj p]
      have wr : ∀ r, r ≠ 0 → up (up σ 0 2 n) 0 11 0 r = σ r := fun r p => by rw [up_ne p, up_ne p]
      have v6 : up (up (up ρ 0 0 0) 0 6 n) 0 8 0 0 6 = n := by rw [up_nj (by decide), up_at]
      have w2 : up (up σ 0 2 n) 0 11 0 0 2 = n := by rw [up_nj (by decide), up_at]
      refine ⟨?_, ?_, ?_, ?_, ?_, ?_, ?_, ?_, ?_, ?_, ?_, ?_⟩
      · rw [v0 1 (by decide) (by decide) (by decide)]; exact a1
      · rw [v0 2 (by decide) (by decide) (by decide)]; exact a2
      · rw [v0 5 (by decide) (by decide) (by decide), w0 3 (by decide) (by decide)]; exact a3
      · rw [v6, w2]
      · rw [vr 1 (by decide), wr 1 (by decide)]; exact a5
      · rw [vr 2 (by decide), vr 10 (by decide), wr 2 (by decide), wr 3 (by decide)]; exact a6
      · rw [vr 3 (by decide)]; exact a7
      · rw [vr 3 (by decide), wr 4 (by decide)]; exact a8
      · rw [vr 4 (by decide)]; exact a9
      · unfold RG at a10 ⊢; rw [v0 14 (by decide) (by decide) (by decide), vr 7 (by decide)]; exact a10
      · rw [up_at, up_at]
      · rw [v0 9 (by decide) (by decide) (by decide)]; exact a12
theorem mok_weigh {b : Int} (h : Rel ρ σ D P) (hb : b = 0 ∨ b = 1) (hr : σ' = up (up σ 0 3 b) 0 11 0) : Ok d Y4_weigh SM [vr 0, vi b] ρ (qv fun ρ' => RelE ρ' σ') := by
  refine Ok.ofWp (by decide) (Nat.le_of_ble_eq_true rfl) ?_
  obtain ⟨hx, hm, hS⟩ := id h
  subst hr
  refine b4_weigh_0 _ hb ⟨rfl, D, P, XI_weigh hx hb, ?_, MSol0 up_at⟩
  obtain ⟨a1, a2, a3, a4, a5, a6, a7, a8, a9, a10, a11, a12⟩ := hm
  have v0 : ∀ j, j ≠ 0 → j ≠ 5 → j ≠ 8 → up (up (up ρ 0 0 0) 0 5 b) 0 8 0 0 j = ρ 0 j := fun j a b c => by rw [up_nj c, up_nj b, up_nj a]
  have vr : ∀ r, r ≠ 0 → up (up (up ρ 0 0 0) 0 5 b) 0 8 0 r = ρ r := fun r a => by rw [up_ne a, up_ne a, up_ne a]
  have w0 : ∀ x, x ≠ 3 → x ≠ 11 → up (up σ 0 3 b) 0 11 0 0 x = σ 0 x := fun x p q => by rw [up_nj q, up_nj p]
  have wr : ∀ r, r ≠ 0 → up (up σ 0 3 b) 0 11 0 r = σ r := fun r p => by rw [up_ne p, up_ne p]
  have v6 : up (up (up ρ 0 0 0) 0 5 b) 0 8 0 0 5 = b := by rw [up_nj (by decide), up_at]
  have w2 : up (up σ 0 3 b) 0 11 0 0 3 = b := by rw [up_nj (by decide), up_at]
  refine ⟨?_, ?_, ?_, ?_, ?_, ?_, ?_, ?_, ?_, ?_, ?_, ?_⟩
  · rw [v0 1 (by decide) (by decide) (by decide)]; exact a1
  · rw [v0 2 (by decide) (by decide) (by decide)]; exact a2
  · rw [v6, w2]
  · rw [v0 6 (by decide) (by decide) (by decide), w0 2 (by decide) (by decide)]; exact a4
  · rw [vr 1 (by decide), wr 1 (by decide)]; exact a5
  · rw [vr 2 (by decide), vr 10 (by decide), wr 2 (by decide), wr 3 (by decide)]; exact a6
  · rw [vr 3 (by decide)]; exact a7
  · rw [vr 3 (by decide), wr 4 (by decide)]; exact a8
  · rw [vr 4 (by decide)]; exact a9
  · unfold RG at a10 ⊢; rw [v0 14 (by decide) (by decide) (by decide), vr 7 (by decide)]; exact a10
  · rw [up_at, up_at]
  · rw [v0 9 (by decide) (by decide) (by decide)]; exact a12
theorem mok_count {b : Int} (h : Rel ρ σ D P) (hb : b = 0 ∨ b = 1) : Ok d Y4_count SM [vr 0, vi b] ρ (qi fun z' ρ' => z' = (if b = 0 then σ 0 0 else σ 0 1) ∧ RelE ρ' σ) := by
  refine Ok.ofWp (by decide) (Nat.le_of_ble_eq_true rfl) ?_
  obtain ⟨hx, hm, hS⟩ := id h
  have e1 : up ρ 0 0 0 0 1 = σ 0 0 := by rw [up_nj (by decide), hm.1, hx.1.2.1]
  have e2 : up ρ 0 0 0 0 2 = σ 0 1 := by rw [up_nj (by decide), hm.2.1, hx.2.2.1]
  rcases hb with rfl | rfl
  · exact b4_count_0 _ ⟨by decide, by decide⟩ (fun _ => b4_count_16 (b4_count_20 _ ⟨_, rfl, by rw [if_pos rfl]; exact e1, D, P, h.thr⟩)) (fun q => absurd rfl q)
  · exact b4_count_0 _ ⟨by decide, by decide⟩ (fun q => absurd q (by decide)) (fun _ => b4_count_9 (b4_count_20 _ ⟨_, rfl, by rw [if_neg (by decide)]; exact e2, D, P, h.thr⟩))
theorem mok_lot {a b : Int} (h : Rel ρ σ D P) (ha : in32 a) (hb : in32 b) (hr : rLot σ P a b k σ') : Ok d Y4_lot SM [vr 0, vi a, vi b] ρ (qv fun ρ' => ρ' 0 0 = k ∧ RelE ρ' σ') := by
  refine Ok.ofWp (by decide) (Nat.le_of_ble_eq_true rfl) ?_
  obtain ⟨hx, hm, hS⟩ := id h
  have P4 := hx.2.1
  have m2 := hm.2.1
  have iP : in32 (ρ 0 2) := by rw [m2]; exact ⟨by omega, by omega⟩
  rcases hr with ⟨rfl, q, rfl⟩ | ⟨rfl, q, k1, k2, k3⟩
  · have fin : Wp d Y4_lot SM 22 [some (vr 0), some (vi a), some (vi b), none] [vr 0] ρ (qv fun ρ' => ρ' 0 0 = ((1 : Nat) : Int) ∧ RelE ρ' σ') (fun _ _ _ _ => False) :=
      b4_lot_22 _ _ (b4_lot_27 _ _ _ (by rw [up_at]; exact ⟨by decide, by decide⟩) (fun g => by rw [up_at] at g; exact absurd g (by decide)) (fun _ => b4_lot_37 ⟨rfl, up_at, D, P, h.thr⟩))
    exact b4_lot_0 _ _ ha (fun _ => fin) (fun g1 => b4_lot_5 _ _ ha (fun _ => fin) (fun g2 => b4_lot_10 _ _ hb (fun _ => fin) (fun g3 => b4_lot_14 _ _ hb iP (fun g4 => by rw [m2] at g4; exact absurd ⟨g1, by omega, g3, g4⟩ q) (fun _ => fin))))
  · refine b4_lot_0 _ _ ha (fun g => absurd q.1 (by omega)) (fun g1 => b4_lot_5 _ _ ha (fun g => absurd q.2.1 (by omega)) (fun g2 => b4_lot_10 _ _ hb (fun g => absurd q.2.2.1 (by omega)) (fun g3 => b4_lot_14 _ _ hb iP (fun _ => ?_) (fun g => by rw [m2] at g; omega))))
    refine b4_lot_26 _ _ (b4_lot_27 _ _ _ (by rw [up_at]; exact ⟨by decide, by decide⟩) (fun _ => ?_) (fun g => by rw [up_at] at g; exact absurd g (by decide)))
    refine b4_lot_38 _ _ ?_
    obtain ⟨a1, a2, a3, a4, a5, a6, a7, a8, a9, a10, a11, a12⟩ := hm
    have lp : ∀ n i : Nat, i + n = 4 → ∀ τ : HP, (∀ r, r ≠ 3 → τ r = up ρ 0 0 0 r) → (∀ j, j < 4 → τ 3 j = if j < i ∧ ρ 3 j = b then -1 else ρ 3 j) → Wp d Y4_lot SM 40 [some (vr 0), some (vi a), some (vi b), some (vi (i : Int))] [] τ (qv fun ρ' => ρ' 0 0 = ((0 : Nat) : Int) ∧ RelE ρ' σ') (fun _ _ _ _ => False) := by
      intro n
      induction n with
      | zero =>
        intro i hi τ t1 t2
        have e : i = 4 := by omega
        subst e
        refine b4_lot_40 _ _ _ ⟨by omega, by omega⟩ (fun _ => ?_) (fun g => absurd g (by omega))
        have v0 : ∀ j, j ≠ 0 → j ≠ 8 → up (up τ 3 a.toNat b) 0 8 0 0 j = ρ 0 j := fun j x y => by rw [up_nj y, up_nr (by decide), t1 0 (by decide), up_nj x]
        have vr : ∀ r, r ≠ 0 → r ≠ 3 → up (up τ 3 a.toNat b) 0 8 0 r = ρ r := fun r x y => by rw [up_ne x, up_ne y, t1 r y, up_ne x]
        have v3 : ∀ j, j < 4 → up (up τ 3 a.toNat b) 0 8 0 3 j = if j = a.toNat then b else if ρ 3 j = b then -1 else ρ 3 j := fun j hj => by
          rw [up_nr (by decide)]
          by_cases e : j = a.toNat
          · rw [if_pos e, e, up_at]
          · rw [if_neg e, up_nj e, t2 j hj]
            by_cases e2 : ρ 3 j = b
            · rw [if_pos ⟨hj, e2⟩, if_pos e2]
            · rw [if_neg (fun g => e2 g.2), if_neg e2]
        refine b4_lot_77 _ _ ⟨by omega, by omega⟩ ⟨rfl, ?_, D, P, XI_lot hx ⟨q.1, q.2.1⟩ (by omega) k1 k2 k3, ?_, MSol0 (by rw [k2]; rfl)⟩
        · rw [up_nj (by decide), up_nr (by decide), t1 0 (by decide), up_at]; rfl
        · refine ⟨?_, ?_, ?_, ?_, ?_, ?_, fun j hj => ?_, fun p i hp hi => ?_, ?_, ?_, ?_, ?_⟩
          · rw [v0 1 (by decide) (by decide)]; exact a1
          · rw [v0 2 (by decide) (by decide)]; exact a2
          · rw [v0 5 (by decide) (by decide), k2, if_neg (by decide)]; exact a3
          · rw [v0 6 (by decide) (by decide), k2, if_neg (by decide)]; exact a4
          · rw [vr 1 (by decide) (by decide), k1 1 (by decide) (by decide)]; exact a5
          · rw [vr 2 (by decide) (by decide), vr 10 (by decide) (by decide), k1 2 (by decide) (by decide), k1 3 (by decide) (by decide)]; exact a6
          · rw [v3 j hj]
            have := a7 j hj
            split
            · omega
            · split <;> omega
          · rw [v3 i hi, k3 p hp]
            unfold lotR
            have o := a8 p i hp hi
            have c3 := a7 i hi
            by_cases ei : i = a.toNat <;> by_cases ep : p = b.toNat
            · rw [if_pos ei, if_pos ep]; omega
            · rw [if_pos ei, if_neg ep]
              by_cases e2 : σ 4 p = a
              · rw [if_pos e2]; omega
              · rw [if_neg e2]; omega
            · rw [if_neg ei, if_pos ep]
              by_cases e2 : ρ 3 i = b
              · rw [if_pos e2]; omega
              · rw [if_neg e2]; omega
            · rw [if_neg ei, if_neg ep]
              by_cases e2 : σ 4 p = a <;> by_cases e3 : ρ 3 i = b
              · rw [if_pos e2, if_pos e3]; omega
              · rw [if_pos e2, if_neg e3]; omega
              · rw [if_neg e2, if_pos e3]; omega
              · rw [if_neg e2, if_neg e3]; exact o
          · rw [vr 4 (by decide) (by decide)]; exact a9
          · unfold RG at a10 ⊢; rw [v0 14 (by decide) (by decide), vr 7 (by decide) (by decide)]; exact a10
          · rw [up_at, k2, if_pos rfl]
          · rw [v0 9 (by decide) (by decide)]; exact a12
      | succ n ih =>
        intro i hi τ t1 t2
        have i4 : i < 4 := by omega
        have ei : (i : Int).toNat = i := Int.toNat_natCast i
        have c3 := a7 i i4
        have t3 : τ 3 i = ρ 3 i := by rw [t2 i i4, if_neg (fun g => by omega)]
        refine b4_lot_40 _ _ _ ⟨by omega, by omega⟩ (fun g => absurd g (by omega)) (fun _ => ?_)
        have fin : ∀ s : Int, s = (if ρ 3 i = b then -1 else ρ 3 i) → Wp d Y4_lot SM 70 [some (vr 0), some (vi a), some (vi b), some (vi (i : Int))] [vi s, vi (i : Int), vr 3] τ (qv fun ρ' => ρ' 0 0 = ((0 : Nat) : Int) ∧ RelE ρ' σ') (fun _ _ _ _ => False) := by
          rintro s rfl
          refine b4_lot_70 _ _ _ _ _ ⟨by omega, by omega⟩ ?_
          rw [ei]
          refine ih (i + 1) (by omega) _ (fun r hr => by rw [up_ne hr]; exact t1 r hr) (fun j hj => ?_)
          by_cases e : j = i
          · subst e
            rw [up_at]
            by_cases e2 : ρ 3 j = b
            · rw [if_pos e2, if_pos ⟨by omega, e2⟩]
            · rw [if_neg e2, if_neg (fun g => e2 g.2)]
          · rw [up_nj e, t2 j hj]
            by_cases e2 : j < i ∧ ρ 3 j = b
            · rw [if_pos e2, if_pos ⟨by omega, e2.2⟩]
            · rw [if_neg e2, if_neg (fun g => e2 ⟨by omega, g.2⟩)]
        refine b4_lot_45 _ _ _ ⟨by omega, by omega⟩ (by rw [ei, t3]; exact ⟨by omega, by omega⟩) hb (fun g => ?_) (fun g => ?_)
        · rw [ei, t3] at g
          refine b4_lot_64 _ _ _ _ ⟨by omega, by omega⟩ ?_
          rw [ei, t3]
          exact fin _ (by rw [if_neg g])
        · rw [ei, t3] at g
          exact b4_lot_60 _ _ _ _ (fin _ (by rw [if_pos g]))
    exact lp 4 0 rfl _ (fun _ _ => rfl) (fun j hj => by rw [if_neg (fun g => by omega), up_nr (by decide)])
theorem ms_rel {ρ' : HP} {c : Int} (h : Rel ρ σ D P) (hs : sameX σ σ') (s1 : ∀ r, r ≠ 4 → r ≠ 5 → r ≠ 6 → ρ' r = ρ r) (s2 : ∀ l, l < 16 → ρ' 4 l = cF σ l) : Rel (up ρ' 0 0 c) σ' D P :=
  h.keep hs (fun r a b e f => by rw [up_ne a]; exact s1 r b e f) (fun j hj => by rw [up_nj hj, s1 0 (by decide) (by decide) (by decide)]) (Or.inl fun l hl => by rw [up_nr (by decide)]; exact s2 l hl)
theorem no_some (h1 : noW σ D) (h2 : someW σ D) : False := by
  obtain ⟨p, hp, hq⟩ := h2
  have := h1 p hp
  omega
theorem mok_share {a : Int} (h : Rel ρ σ D P) (ha : in32 a) (hr : rShare σ D P a k z σ') : Ok (d + 3) Y4_share SM [vr 0, vi a] ρ (qi fun z' ρ' => ρ' 0 0 = k ∧ (k = 0 → z' = z) ∧ RelE ρ' σ') := by
  refine Ok.ofWp (by decide) (Nat.le_of_ble_eq_true rfl) ?_
  obtain ⟨hx, hm, hS⟩ := id h
  have P4 := hx.2.1
  obtain ⟨hs, hr⟩ := hr
  refine b4_share_0 (d := d + 2) _ (mok_shareAll hx hm) (fun z0 ρ1 hz => ?_)
  obtain ⟨s1, s2, s3, hz⟩ := hz
  have e2 : ρ1 0 2 = P := by rw [s1 0 (by decide) (by decide) (by decide)]; exact hm.2.1
  have iP : in32 (ρ1 0 2) := by rw [e2]; exact ⟨by omega, by omega⟩
  rcases hz with ⟨rfl, hw, s6⟩ | ⟨rfl, hw⟩
  · refine b4_share_5 _ _ ⟨by decide, by decide⟩ (fun _ => ?_) (fun g => absurd g (by decide))
    rcases hr with ⟨-, g⟩ | ⟨-, hr⟩
    · exact absurd (no_some g hw) id
    · rcases hr with ⟨rfl, g⟩ | ⟨rfl, g, rfl⟩
      · have fin : Wp (d + 2 + 1) Y4_share SM 24 [some (vr 0), some (vi a)] [vr 0] ρ1 (qi fun z' ρ' => ρ' 0 0 = ((2 : Nat) : Int) ∧ (2 = 0 → z' = z) ∧ RelE ρ' σ') (fun _ _ _ _ => False) :=
          b4_share_24 _ (b4_share_29 _ _ (by rw [up_at]; exact ⟨by decide, by decide⟩) (fun g => by rw [up_at] at g; exact absurd g (by decide)) (fun _ => b4_share_39 (b4_share_49 _ ⟨0, rfl, up_at, fun g => absurd g (by decide), D, P, ms_rel h hs s1 s2⟩)))
        exact b4_share_12 _ ha (fun _ => fin) (fun g1 => b4_share_16 _ ha iP (fun g2 => by rw [e2] at g2; exact absurd ⟨g1, g2⟩ g) (fun _ => fin))
      · refine b4_share_12 _ ha (fun g1 => absurd g.1 (by omega)) (fun g1 => b4_share_16 _ ha iP (fun _ => ?_) (fun g2 => by rw [e2] at g2; omega))
        refine b4_share_28 _ (b4_share_29 _ _ (by rw [up_at]; exact ⟨by decide, by decide⟩) (fun _ => ?_) (fun g => by rw [up_at] at g; exact absurd g (by decide)))
        refine b4_share_43 _ ⟨by omega, by omega⟩ (b4_share_49 _ ⟨_, rfl, up_at, fun _ => ?_, D, P, ms_rel h hs s1 s2⟩)
        rw [up_nr (by decide)]
        exact s6 _ (by omega)
  · refine b4_share_5 _ _ ⟨by decide, by decide⟩ (fun g => absurd rfl g) (fun _ => ?_)
    rcases hr with ⟨rfl, -⟩ | ⟨g, -⟩
    · exact b4_share_8 _ (b4_share_29 _ _ (by rw [up_at]; exact ⟨by decide, by decide⟩) (fun g => by rw [up_at] at g; exact absurd g (by decide)) (fun _ => b4_share_39 (b4_share_49 _ ⟨0, rfl, up_at, fun g => absurd g (by decide), D, P, ms_rel h hs s1 s2⟩)))
    · exact absurd (no_some hw g) id
end MF
