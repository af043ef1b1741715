/-! ===== mathematics: what the others leave possible ===== -/
theorem sm_leq {f g : Nat → Int} : ∀ n, (∀ i, i < n → f i ≤ g i) → sm n f ≤ sm n g
  | 0, _ => Int.le_refl _
  | n + 1, h => by
    have a := sm_leq n (fun i hi => h i (by omega))
    have b := h n (by omega)
    simp only [sm]
    omega
theorem sm_ad (f g : Nat → Int) : ∀ n, sm n (fun i => f i + g i) = sm n f + sm n g
  | 0 => rfl
  | n + 1 => by
    simp only [sm]
    rw [sm_ad f g n]
    omega
def Hall (c a b : Tb) : Prop := ∀ s, s < 16 → demS a s ≤ supS c b s
def cut (c : Tb) (k : Nat) : Tb := fun l => if l = k then 0 else c l
def dec1 (a : Tb) (j : Nat) (n : Int) : Tb := fun i => if i = j then a i - n else a i
section Hl
variable {c a b : Tb} {x p : Nat} {n : Int}
theorem dem_dec {s : Nat} (hx : x < 4) : demS (dec1 a x n) s = demS a s - if s.testBit x then n else 0 := by
  unfold demS dec1
  rw [sum4, sum4]
  rcases (show x = 0 ∨ x = 1 ∨ x = 2 ∨ x = 3 by omega) with rfl | rfl | rfl | rfl
  · cases g : s.testBit 0 <;> simp <;> omega
  · cases g : s.testBit 1 <;> simp <;> omega
  · cases g : s.testBit 2 <;> simp <;> omega
  · cases g : s.testBit 3 <;> simp <;> omega
theorem sup_dec {s : Nat} (hp : p < 4) : supS c (dec1 b p n) s = supS c b s - if rchB c s p = true then n else 0 := by
  unfold supS dec1
  rw [sum4, sum4]
  rcases (show p = 0 ∨ p = 1 ∨ p = 2 ∨ p = 3 by omega) with rfl | rfl | rfl | rfl
  · cases g : rchB c s 0 <;> simp <;> omega
  · cases g : rchB c s 1 <;> simp <;> omega
  · cases g : rchB c s 2 <;> simp <;> omega
  · cases g : rchB c s 3 <;> simp <;> omega
theorem rch_cut {s q : Nat} (hx : x < 4) (hp : p < 4) (hq : q < 4) (h : ¬ (s.testBit x = true ∧ q = p)) : rchB (cut c (4 * x + p)) s q = rchB c s q := by
  apply Bool.eq_iff_iff.2
  rw [rchB_iff hq, rchB_iff hq]
  constructor
  · rintro ⟨l, l1, l2, l3, l4⟩
    refine ⟨l, l1, l2, ?_, l4⟩
    unfold cut at l3
    split at l3
    · omega
    · exact l3
  · rintro ⟨l, l1, l2, l3, l4⟩
    refine ⟨l, l1, l2, ?_, l4⟩
    unfold cut
    rw [if_neg]
    · exact l3
    · intro e
      apply h
      rw [show l / 4 = x by omega] at l4
      exact ⟨l4, by omega⟩
theorem rch_or {s t q : Nat} (hq : q < 4) : rchB c (s ||| t) q = (rchB c s q || rchB c t q) := by
  apply Bool.eq_iff_iff.2
  rw [Bool.or_eq_true, rchB_iff hq, rchB_iff hq, rchB_iff hq]
  constructor
  · rintro ⟨l, l1, l2, l3, l4⟩
    rw [Nat.testBit_or, Bool.or_eq_true] at l4
    rcases l4 with l4 | l4
    · exact Or.inl ⟨l, l1, l2, l3, l4⟩
    · exact Or.inr ⟨l, l1, l2, l3, l4⟩
  · rintro (⟨l, l1, l2, l3, l4⟩ | ⟨l, l1, l2, l3, l4⟩)
    · exact ⟨l, l1, l2, l3, by rw [Nat.testBit_or, l4, Bool.true_or]⟩
    · exact ⟨l, l1, l2, l3, by rw [Nat.testBit_or, l4, Bool.or_true]⟩
theorem rch_and {s t q : Nat} (hq : q < 4) (h : rchB c (s &&& t) q = true) : rchB c s q = true ∧ rchB c t q = true := by
  rw [rchB_iff hq] at h
  obtain ⟨l, l1, l2, l3, l4⟩ := h
  rw [Nat.testBit_and, Bool.and_eq_true] at l4
  exact ⟨(rchB_iff hq).2 ⟨l, l1, l2, l3, l4.1⟩, (rchB_iff hq).2 ⟨l, l1, l2, l3, l4.2⟩⟩
theorem dem_mod (s t : Nat) : demS a (s ||| t) + demS a (s &&& t) = demS a s + demS a t := by
  unfold demS
  rw [← sm_ad, ← sm_ad]
  refine sm_ext fun e _ => ?_
  rw [Nat.testBit_or, Nat.testBit_and]
  cases s.testBit e <;> cases t.testBit e <;> simp
/-- no list (x, p) from a set with x: its party is reached no longer -/
theorem sup_lt {s : Nat} (hb : ∀ q, q < 4 → 0 ≤ b q) (hx : x < 4) (hp : p < 4) (hr : rchB (cut c (4 * x + p)) s p = false) : supS c b s ≤ supS (cut c (4 * x + p)) b s + b p := by
  have e : supS (cut c (4 * x + p)) b s + b p = sm 4 (fun q => (if rchB (cut c (4 * x + p)) s q = true then b q else 0) + if q = p then b q else 0) := by
    rw [sm_ad]
    unfold supS
    congr 1
    rw [sum4]
    rcases (show p = 0 ∨ p = 1 ∨ p = 2 ∨ p = 3 by omega) with rfl | rfl | rfl | rfl <;> simp
  rw [e]
  unfold supS
  refine sm_leq 4 fun q hq => ?_
  have := hb q hq
  by_cases g : q = p
  · subst g
    rw [hr, if_neg (show ¬ (false = true) by decide), if_pos rfl]
    split <;> omega
  · rw [rch_cut hx hp hq (fun h => g h.2), if_neg g]
    omega
def Low (c a b : Tb) (x p : Nat) (n : Int) : Prop := 0 ≤ n ∧ ∀ s, s < 16 → s.testBit x = true → rchB (cut c (4 * x + p)) s p = false → demS a s - n ≤ supS (cut c (4 * x + p)) b s
theorem low_0 (ha : ∀ e, e < 4 → 0 ≤ a e) (hb : ∀ q, q < 4 → 0 ≤ b q) (hx : x < 4) (hp : p < 4) (hH : Hall c a b) : Low c a b x p (a x) ∧ Low c a b x p (b p) := by
  refine ⟨⟨ha x hx, fun s hs hsx hr => ?_⟩, ⟨hb p hp, fun s hs hsx hr => ?_⟩⟩
  · -- without x
    have p16 : 15 - 2 ^ x < 16 := by
      have : 0 < 2 ^ x := Nat.two_pow_pos x
      omega
    have tb : ∀ e, e < 4 → (s &&& (15 - 2 ^ x)).testBit e = (s.testBit e && decide (e ≠ x)) := by
      intro e he
      rw [Nat.testBit_and]
      congr 1
      rcases (show x = 0 ∨ x = 1 ∨ x = 2 ∨ x = 3 by omega) with rfl | rfl | rfl | rfl <;> rcases (show e = 0 ∨ e = 1 ∨ e = 2 ∨ e = 3 by omega) with rfl | rfl | rfl | rfl <;> decide
    have h1 := hH (s &&& (15 - 2 ^ x)) (Nat.lt_of_le_of_lt Nat.and_le_right p16)
    have h2 : demS a (s &&& (15 - 2 ^ x)) = demS a s - a x := by
      unfold demS
      rw [sum4, sum4, tb 0 (by omega), tb 1 (by omega), tb 2 (by omega), tb 3 (by omega)]
      rcases (show x = 0 ∨ x = 1 ∨ x = 2 ∨ x = 3 by omega) with rfl | rfl | rfl | rfl <;> simp [hsx] <;> omega
    have h3 : supS c b (s &&& (15 - 2 ^ x)) ≤ supS (cut c (4 * x + p)) b s := by
      refine sm_leq 4 fun q hq => ?_
      have bq := hb q hq
      by_cases g : rchB c (s &&& (15 - 2 ^ x)) q = true
      · have g2 : rchB (cut c (4 * x + p)) (s &&& (15 - 2 ^ x)) q = true := by
          rw [rch_cut hx hp hq]
          · exact g
          · intro h
            have := h.1
            rw [tb x hx] at this
            simp at this
        rw [if_pos g, if_pos (rch_and hq g2).1]
        exact Int.le_refl _
      · rw [if_neg g]; split <;> omega
    omega
  · have h1 := hH s hs
    have h2 := sup_lt (c := c) (b := b) (s := s) hb hx hp hr
    omega
/-- a set that has too much with n forbids no n - 1 -/
theorem low_next (hb : ∀ q, q < 4 → 0 ≤ b q) (hx : x < 4) (hp : p < 4) (hc : 0 < c (4 * x + p)) (hH : Hall c a b) (hL : Low c a b x p n) {s : Nat} (hs : s < 16) (hbad : badS (cut c (4 * x + p)) (dec1 a x n) (dec1 b p n) s) : Low c a b x p (n - 1) := by
  unfold badS at hbad
  rw [dem_dec hx, sup_dec hp] at hbad
  -- the set is one without x that reaches p
  have hsx : s.testBit x = false := by
    cases q : s.testBit x with
    | false => rfl
    | true =>
      exfalso
      cases r : rchB (cut c (4 * x + p)) s p with
      | true =>
        rw [q, r, if_pos rfl] at hbad
        have h1 := hH s hs
        have h2 : supS (cut c (4 * x + p)) b s = supS c b s := by
          refine sm_ext fun y hy => ?_
          by_cases g : y = p
          · subst g
            rw [r]
            have : rchB c s y = true := (rchB_iff hy).2 ⟨4 * x + y, by omega, by omega, hc, by rw [show (4 * x + y) / 4 = x by omega]; exact q⟩
            rw [this]
          · rw [rch_cut hx hp hy (fun h => g h.2)]
        omega
      | false =>
        rw [q, r, if_pos rfl, if_neg (by decide)] at hbad
        have := hL.2 s hs q r
        omega
  have hcut : ∀ y, y < 4 → rchB (cut c (4 * x + p)) s y = rchB c s y := fun y hy => rch_cut hx hp hy (fun h => by rw [hsx] at h; exact absurd h.1 (by decide))
  have hsup : supS (cut c (4 * x + p)) b s = supS c b s := sm_ext fun y hy => by rw [hcut y hy]
  rw [hsx, if_neg (show ¬ (false = true) by decide), hsup, hcut p hp] at hbad
  have hsp : rchB c s p = true := by
    cases r : rchB c s p with
    | true => rfl
    | false =>
      exfalso
      rw [r, if_neg (by decide)] at hbad
      have := hH s hs
      omega
  rw [hsp, if_pos rfl] at hbad
  have hs0 := hH s hs
  refine ⟨by omega, fun t ht htx htr => ?_⟩
  -- the two together
  have h1 := hH (s ||| t) (Nat.or_lt_two_pow (n := 4) hs ht)
  have h2 := hH (s &&& t) (Nat.lt_of_le_of_lt Nat.and_le_left hs)
  have h3 := dem_mod (a := a) s t
  have h4 : supS c b (s ||| t) + supS c b (s &&& t) ≤ supS c b s + supS (cut c (4 * x + p)) b t := by
    unfold supS
    rw [← sm_ad, ← sm_ad]
    refine sm_leq 4 fun q hq => ?_
    have bq := hb q hq
    rw [rch_or hq]
    have iI : rchB c (s &&& t) q = true → rchB c s q = true ∧ rchB (cut c (4 * x + p)) t q = true := by
      intro g
      refine ⟨(rch_and hq g).1, ?_⟩
      have g2 : rchB (cut c (4 * x + p)) (s &&& t) q = true := by
        rw [rch_cut hx hp hq]
        · exact g
        · intro h
          have := h.1
          rw [Nat.testBit_and, hsx] at this
          simp at this
      exact (rch_and hq g2).2
    have iU : rchB c t q = true → rchB c s q = true ∨ rchB (cut c (4 * x + p)) t q = true := by
      intro g
      by_cases e : q = p
      · subst e; exact Or.inl hsp
      · right; rw [rch_cut hx hp hq (fun h => e h.2)]; exact g
    cases r1 : rchB c s q <;> cases r2 : rchB (cut c (4 * x + p)) t q <;> cases r3 : rchB c t q <;> cases r4 : rchB c (s &&& t) q <;> simp [r1, r2, r3, r4] at iI iU ⊢ <;> omega
  omega
theorem sm_bd0 {s : Nat} (hb : ∀ q, q < 4 → 0 ≤ b q) : 0 ≤ supS c b s := by
  have := sm_leq (f := fun _ => 0) (g := fun q => if rchB c s q = true then b q else 0) 4 (fun q hq => by
    have := hb q hq
    split <;> omega)
  rw [sum4] at this
  unfold supS
  omega
theorem hall_of (hn : ∀ s, 1 ≤ s → s < 16 → ¬ badS c a b s) : Hall c a b := by
  intro s hs
  by_cases e : s = 0
  · subst e
    unfold demS supS
    rw [sum4, sum4]
    simp [rchB]
  · have := hn s (by omega) hs
    unfold badS at this
    omega
/-- the sets of the districts that there are suffice -/
theorem hall_D {D : Nat} (hD : D ≤ 4) (ha : ∀ e, e < 4 → D ≤ e → a e = 0) (hb : ∀ q, q < 4 → 0 ≤ b q) (hn : ∀ s, 1 ≤ s → s < 2 ^ D → ¬ badS c a b s) : Hall c a b := by
  have key : ∀ s, s < 16 → demS a s ≤ supS c b s := by
    intro s hs
    have hm : s % 2 ^ D < 2 ^ D := Nat.mod_lt _ (Nat.two_pow_pos D)
    have tb : ∀ e, (s % 2 ^ D).testBit e = (decide (e < D) && s.testBit e) := fun e => Nat.testBit_mod_two_pow s D e
    have h2 : demS a (s % 2 ^ D) = demS a s := sm_ext fun e he => by
      rw [tb e]
      by_cases q : e < D
      · simp [q]
      · have := ha e he (by omega)
        simp [q, this]
    have h3 : supS c b (s % 2 ^ D) ≤ supS c b s := by
      refine sm_leq 4 fun q hq => ?_
      have bq := hb q hq
      by_cases g : rchB c (s % 2 ^ D) q = true
      · have g2 : rchB c s q = true := by
          rw [rchB_iff hq] at g ⊢
          obtain ⟨l, l1, l2, l3, l4⟩ := g
          rw [tb, Bool.and_eq_true] at l4
          exact ⟨l, l1, l2, l3, l4.2⟩
        rw [if_pos g, if_pos g2]; exact Int.le_refl _
      · rw [if_neg g]; split <;> omega
    by_cases e : s % 2 ^ D = 0
    · have : demS a (s % 2 ^ D) = 0 := by rw [e]; unfold demS; rw [sum4]; simp
      have h0 : 0 ≤ supS c b s := (sm_bd0 hb)
      omega
    · have := hn (s % 2 ^ D) (by omega) hm
      unfold badS at this
      omega
  exact key
end Hl
