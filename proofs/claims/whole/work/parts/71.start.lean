/-! ===== the law's start ===== -/
/-- at the start class and model were told the same: nothing -/
theorem rel_0 {τ : HP} (h : QM τ) : Rel τ σ0 0 0 := by
  obtain ⟨h1, h2, hg⟩ := h
  have e0 : ∀ j, j ≠ 14 → τ 0 j = 0 := fun j hj => h2 j hj
  have er : ∀ r, r ≠ 0 → r ≠ 7 → r ≠ 3 → ∀ j, τ r j = 0 := fun r a b c j => by
    rw [h1 r a b]
    unfold ρm
    split
    · exact absurd rfl c
    · rfl
  have e3 : ∀ j, j < 4 → τ 3 j = -1 := fun j hj => by
    rw [h1 3 (by decide) (by decide)]
    match j, hj with
    | 0, _ => rfl
    | 1, _ => rfl
    | 2, _ => rfl
    | 3, _ => rfl
  have s4 : ∀ j, j < 4 → σ0 4 j = 4 + (j : Int) := fun j hj => by
    match j, hj with
    | 0, _ => rfl
    | 1, _ => rfl
    | 2, _ => rfl
    | 3, _ => rfl
  have sz : ∀ r, r ≠ 4 → ∀ j, σ0 r j = 0 := fun r a j => by
    unfold σ0
    split
    · exact absurd rfl a
    · rfl
  have s0 := sz 0 (by decide)
  have s1 := sz 1 (by decide)
  have s2 := sz 2 (by decide)
  have s3 := sz 3 (by decide)
  refine ⟨⟨⟨by decide, s0 0, by rw [s0]; decide, Or.inl (s0 3), fun e he => by rw [s1]; decide, by decide, fun l hl => by rw [s2]; decide, fun p hp => by rw [s4 p hp]; omega⟩, by decide, s0 1, fun e he _ => s1 e, fun e he => absurd he (by omega), fun l hl _ => ⟨s2 l, s3 l⟩, fun l hl => by rw [s3]; decide, ⟨fun p hp => Or.inl (s4 p hp), fun p q hp hq e => by rw [s4 p hp, s4 q hq] at e; omega⟩, Or.inl (s0 11), Or.inl (s0 12), fun e => absurd e (by rw [s0]; decide)⟩, ⟨e0 1 (by decide), e0 2 (by decide), by rw [e0 5 (by decide), s0], by rw [e0 6 (by decide), s0], fun e he => by rw [er 1 (by decide) (by decide) (by decide), s1], fun l hl => ⟨by rw [er 2 (by decide) (by decide) (by decide), s2], by rw [er 10 (by decide) (by decide) (by decide), s3]⟩, fun i hi => by rw [e3 i hi]; decide, fun p i hp hi => by rw [e3 i hi, s4 p hp]; omega, fun l hl _ => er 4 (by decide) (by decide) (by decide) l, hg, by rw [e0 8 (by decide), s0], Or.inl (e0 9 (by decide))⟩, fun e => absurd e (by rw [s0]; decide)⟩
section Start
variable {p : Program} {l : Launch} {e : Env} {s : State} {m : MethodId} {below : List Frame} {meth : Method} {c : Code} {b L : Nat} {xs : Nat → Int32}
theorem ngX_tbl : ∀ w ∈ ngX, w ∈ lw_tbl := by decide +kernel
theorem cast_tbl : ∀ q ∈ x5, Cond.castable q.1 q.1 ∈ lw_tbl := by decide +kernel
theorem nw_tbl : nw0 ∈ lw_tbl ∧ nw2 ∈ lw_tbl := ⟨by decide +kernel, by decide +kernel⟩
theorem arr_K {args : Array Value} {ty : FieldType} (hw : (Cond.arrayClass ty).before args s = true) : ∃ cA : ClassId, ArrOfT s cA ty ∧ s.vm.findClass ("[" ++ ty.toString) = some cA := by
  obtain ⟨cA, kA, comp, h1, h2, h3⟩ := Cond.arrayClass_spec hw
  exact ⟨cA, fun n z => ⟨fun k h => (by cases h), kA, h2, comp, h3⟩, h1⟩
theorem start_LC (hlt : l.stackTraces = false) (C0 : lw_At p s m meth c b L xs) : ∃ (D : va_G) (cI cJ : ClassId), LC p l s m meth c b L xs D cI cJ := by
  obtain ⟨hx, hb, hr, hml, hown, hts, hX, hbl, hlocks, hgv⟩ := id C0
  have hflat := flat_of_before _ hgv
  have hw : ∀ w ∈ WA, w.before #[Value.ref b] s = true := fun w h => hts w (List.mem_filter.mp h).1
  obtain ⟨c0, iS0, hK0⟩ := u_known (C := RX0) (T := TX0) (N := 1) (n := 1) hw in0 (hts (.instantiable RX0 1) (by decide +kernel))
  obtain ⟨c1, iS1, hK1⟩ := u_known (C := RX1) (T := TX1) (N := 2) (n := 2) hw in1 (hts (.instantiable RX1 2) (by decide +kernel))
  obtain ⟨c2, iS2, hK2⟩ := u_known (C := RX2) (T := TX2) (N := 4) (n := 4) hw in2 (hts (.instantiable RX2 4) (by decide +kernel))
  obtain ⟨c3, iS3, hK3⟩ := u_known (C := RX3) (T := TX3) (N := 20) (n := 20) hw in3 (hts (.instantiable RX3 20) (by decide +kernel))
  obtain ⟨c4, iS4, hK4⟩ := u_known (C := RX4) (T := TX4) (N := 25) (n := 25) hw in4 (hts (.instantiable RX4 25) (by decide +kernel))
  obtain ⟨cI, hI1, hI2⟩ := arr_K (hw _ wA_I)
  obtain ⟨cJ, hJ1, hJ2⟩ := arr_K (hw _ wA_J)
  refine ⟨(fun k => match k with
    | 0 => c0
    | 1 => c1
    | 2 => c2
    | 3 => c3
    | _ => c4, fun k => match k with
    | 0 => iS0
    | 1 => iS1
    | 2 => iS2
    | 3 => iS3
    | _ => iS4), cI, cJ, C0, hlt, ⟨⟨?_, ?_⟩, va_Nw.of rfl (hts _ nw_tbl.1), va_Nw.of rfl (hts _ nw_tbl.2)⟩, ⟨?_, ?_, ?_⟩, ⟨fun q hq => va_Nw.of rfl (hts _ (cast_tbl q hq)), ?_⟩⟩
  · intro k q hq
    match k, hq with
    | 0, hq => cases hq; exact hK0
    | 1, hq => cases hq; exact hK1
    | 2, hq => cases hq; exact hK2
    | 3, hq => cases hq; exact hK3
    | 4, hq => cases hq; exact hK4
    | k + 5, hq => simp [CL] at hq
  · intro k q hq
    match k, hq with
    | 0, hq => cases hq; exact ⟨hI1, hI2⟩
    | 1, hq => cases hq; exact ⟨hJ1, hJ2⟩
    | k + 2, hq => simp at hq
  · intro w hw9
    rcases ngX_kind w hw9 with ⟨C, T, rfl⟩ | ⟨x, rfl⟩
    · exact va_Nw.of rfl (hts _ (ngX_tbl _ hw9))
    · exact va_Nw.of rfl (hts _ (ngX_tbl _ hw9))
  · exact vx_Zqof (hts _ (by decide +kernel)) (hts _ (by decide +kernel)) (hflat _ (by decide +kernel)) (fun a ha => Nat.not_le.mpr ha)
  · exact vx_Zqof (hts _ (by decide +kernel)) (hts _ (by decide +kernel)) (hflat _ (by decide +kernel)) (fun a ha => Nat.not_le.mpr ha)
  · have hnc : ∀ p ∈ x5, ∀ q ∈ x5, p ≠ q → (Cond.not (.castable p.1 q.1)).before #[Value.ref b] s = true := by
      intro p hp q hq h
      refine hflat _ ?_
      revert p q
      decide +kernel
    exact fun p hp q hq h => va_Nc.of (hnc p hp q hq h)
end Start
