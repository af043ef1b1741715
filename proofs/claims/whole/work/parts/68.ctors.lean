/-! ===== the small classes' constructors ===== -/
def SF : SH := [.inr (0, [some 1]), .inl (.inl 4)]
def SR : SH := [.inr (2, [some 1, some 2, none, none]), .inl (.inl 4), .inl (.inl 4)]
def SN : SH := [.inr (1, [some 1, some 2]), .inl (.inr 8), .inl (.inr 8)]
set_option maxRecDepth 100000 in
set_option maxHeartbeats 4000000 in
theorem in_filler {l : Launch} {D : va_G} {cI cJ : ClassId} (h0 : Nat) : InOk (yX0_init, cX0_init, 1, none) { frames := 2, cells := 1, slots := 4, locals := 100 } 0 [.null] SF 1 4 (fun σ => σ = σz) l D cI cJ h0 := by
  intro sz
  refine Met.ofW (cc := cX0_init) (maxL := 1) (ret := none) (by decide) rfl ?_
  intro p e s m args below meth c s₁ B hml hv
  obtain ⟨rfl, hsz, hP, hKK⟩ := hv
  subst hsz
  have hlocks := B.notSynchronized
  have hx := B.exec
  have hb := B.bytes
  have hr := B.returns
  have hts : ∀ w ∈ WA, w.before _ s = true := fun w hw => atoms_spec (ws := wsY (yX0_init, cX0_init, 1, none)) B.pre w (List.mem_cons_of_mem _ hw)
  have hown : s.vm.findClass RX0 = some m.cls := findClass_of_methodNamed B.named
  have hin : meth.name = "<init>" := (name_of_methodNamed B.named B.method).1
  have hD : va_D (va_A [(h0, .inr (0, [.null]))] s.heap.size) [(h0, .inr (0, [.null]))] := one_D.self
  generalize hAe : va_A [(h0, .inr (0, [.null]))] s.heap.size = A at hD ⊢
  have hA : ∀ q : Nat, s.heap.size ≤ q → A q := fun q h => by rw [← hAe]; exact Or.inr h
  have hS : va_S A s.heap s.heap [] := va_S.rf
  have hl := lv_entry ([.ref h0]) (n := 1) (Nat.le_of_ble_eq_true rfl)
  rw [lg_entry_eq]
  generalize (lg_sl ([.ref h0]) ++ List.replicate (1 - (lg_sl ([.ref h0])).length) Slot.unset).toArray = ls at hl ⊢
  have hl : lv_has ls 1 [(0, .ref h0)] := hl
  refine lv_aload_n hx hb (show decode cX0_init 0 = .ok (.aload_n 0, 1) by decide +kernel) rfl (lv_at hl 0 rfl) ?_
  refine W.objInit hx hb hown (hts (.methodLink RX0 3 objectInit) (by decide +kernel)) (hts _ wOI.1) (hts _ wOI.2) rfl (by rw [hml]; exact hl.1) rfl (show decode cX0_init 1 = .ok (.invokespecial 3, 3) by decide +kernel) (Nat.le_of_ble_eq_true rfl) (Nat.le_of_ble_eq_true rfl) ?_
  refine W.eq (g2 := F0 m 4 ls []) rfl ?_
  refine lv_aload_n hx hb (show decode cX0_init 4 = .ok (.aload_n 0, 1) by decide +kernel) rfl (lv_at hl 0 rfl) ?_
  refine lv_iconst (v := Int32.ofInt 4) hx hb (show decode cX0_init 5 = .ok (.iconst 4, 1) by decide +kernel) rfl ?_
  refine nw_I (N := 4) hx hb hts hKK hP hD hS hA (by decide +kernel) (by decide +kernel) (by decide) (Nat.le_of_ble_eq_true rfl) (Nat.le_of_ble_eq_true rfl) (show decode cX0_init 6 = .ok (.newarray .int, 2) by decide +kernel) (fun q0 H hP hD hS => ?_)
  have hP : va_P D CL [(h0, .inr (0, [.null])), (q0, zI cI 4)] H := hP
  have hD : va_D A [(h0, .inr (0, [.null])), (q0, zI cI 4)] := hD
  refine va_putF (D := D) (ci := 0) (v := .ref q0) (ty := .array .int) (C := RX0) (T := TX0) (N := 1) hx hb hts in0 tyX0 tyX0_ok nmX0 hown hKK.1 hP hD hS 0 rfl rfl 0 (by decide) (hts (.fieldLink RX0 9 "TwoWaySeats$Filler" "room" "[I") (by decide +kernel)) (fun _ h9 => h9) rfl hin rfl (by decide +kernel) rfl rfl (Nat.le_of_ble_eq_true rfl) (show decode cX0_init 8 = .ok (.putfield 9, 3) by decide +kernel) (fun H locs hP hD hS => ?_)
  have hP : va_P D CL [(h0, .inr (0, [.ref q0])), (q0, zI cI 4)] H := hP
  have hD : va_D A [(h0, .inr (0, [.ref q0])), (q0, zI cI 4)] := hD
  have hE : [(h0, .inr (0, [.ref q0])), (q0, zI cI 4)] = cw (fun r => match r with | 0 => h0 | _ => q0) cI cJ SF σz := rfl
  rw [hE] at hP hD
  refine W.widen (k := 1) (n := 4) (Nat.le_of_ble_eq_true rfl) (Nat.le_of_ble_eq_true rfl) ?_
  exact W.vret hx hb hr (fun t ht hW => ⟨rfl, (fun r => match r with | 0 => h0 | _ => q0), σz, rfl, rfl, by rw [ht]; exact hP, hD, hS.F ht⟩) hS.2.2 (show decode cX0_init 11 = .ok (.return_, 1) by decide +kernel)
set_option maxRecDepth 100000 in
set_option maxHeartbeats 4000000 in
theorem in_ring {l : Launch} {D : va_G} {cI cJ : ClassId} (h0 : Nat) : InOk (yX2_init, cX2_init, 1, none) { frames := 2, cells := 2, slots := 8, locals := 100 } 2 [.null, .null, .int (Int32.ofInt 0), .int (Int32.ofInt 0)] SR 2 8 (fun σ => σ = σz) l D cI cJ h0 := by
  intro sz
  refine Met.ofW (cc := cX2_init) (maxL := 1) (ret := none) (by decide) rfl ?_
  intro p e s m args below meth c s₁ B hml hv
  obtain ⟨rfl, hsz, hP, hKK⟩ := hv
  subst hsz
  have hlocks := B.notSynchronized
  have hx := B.exec
  have hb := B.bytes
  have hr := B.returns
  have hts : ∀ w ∈ WA, w.before _ s = true := fun w hw => atoms_spec (ws := wsY (yX2_init, cX2_init, 1, none)) B.pre w (List.mem_cons_of_mem _ hw)
  have hown : s.vm.findClass RX2 = some m.cls := findClass_of_methodNamed B.named
  have hin : meth.name = "<init>" := (name_of_methodNamed B.named B.method).1
  have hD : va_D (va_A [(h0, .inr (2, [.null, .null, .int (Int32.ofInt 0), .int (Int32.ofInt 0)]))] s.heap.size) [(h0, .inr (2, [.null, .null, .int (Int32.ofInt 0), .int (Int32.ofInt 0)]))] := one_D.self
  generalize hAe : va_A [(h0, .inr (2, [.null, .null, .int (Int32.ofInt 0), .int (Int32.ofInt 0)]))] s.heap.size = A at hD ⊢
  have hA : ∀ q : Nat, s.heap.size ≤ q → A q := fun q h => by rw [← hAe]; exact Or.inr h
  have hS : va_S A s.heap s.heap [] := va_S.rf
  have hl := lv_entry ([.ref h0]) (n := 1) (Nat.le_of_ble_eq_true rfl)
  rw [lg_entry_eq]
  generalize (lg_sl ([.ref h0]) ++ List.replicate (1 - (lg_sl ([.ref h0])).length) Slot.unset).toArray = ls at hl ⊢
  have hl : lv_has ls 1 [(0, .ref h0)] := hl
  refine lv_aload_n hx hb (show decode cX2_init 0 = .ok (.aload_n 0, 1) by decide +kernel) rfl (lv_at hl 0 rfl) ?_
  refine W.objInit hx hb hown (hts (.methodLink RX2 3 objectInit) (by decide +kernel)) (hts _ wOI.1) (hts _ wOI.2) rfl (by rw [hml]; exact hl.1) rfl (show decode cX2_init 1 = .ok (.invokespecial 3, 3) by decide +kernel) (Nat.le_of_ble_eq_true rfl) (Nat.le_of_ble_eq_true rfl) ?_
  refine W.eq (g2 := F0 m 4 ls []) rfl ?_
  refine lv_aload_n hx hb (show decode cX2_init 4 = .ok (.aload_n 0, 1) by decide +kernel) rfl (lv_at hl 0 rfl) ?_
  refine lv_iconst (v := Int32.ofInt 4) hx hb (show decode cX2_init 5 = .ok (.iconst 4, 1) by decide +kernel) rfl ?_
  refine nw_I (N := 4) hx hb hts hKK hP hD hS hA (by decide +kernel) (by decide +kernel) (by decide) (Nat.le_of_ble_eq_true rfl) (Nat.le_of_ble_eq_true rfl) (show decode cX2_init 6 = .ok (.newarray .int, 2) by decide +kernel) (fun q0 H hP hD hS => ?_)
  have hP : va_P D CL [(h0, .inr (2, [.null, .null, .int (Int32.ofInt 0), .int (Int32.ofInt 0)])), (q0, zI cI 4)] H := hP
  have hD : va_D A [(h0, .inr (2, [.null, .null, .int (Int32.ofInt 0), .int (Int32.ofInt 0)])), (q0, zI cI 4)] := hD
  refine va_putF (D := D) (ci := 2) (v := .ref q0) (ty := .array .int) (C := RX2) (T := TX2) (N := 4) hx hb hts in2 tyX2 tyX2_ok nmX2 hown hKK.1 hP hD hS 0 rfl rfl 0 (by decide) (hts (.fieldLink RX2 9 "TwoWaySeats$Ring" "ringDistricts" "[I") (by decide +kernel)) (fun _ h9 => h9) rfl hin rfl (by decide +kernel) rfl rfl (Nat.le_of_ble_eq_true rfl) (show decode cX2_init 8 = .ok (.putfield 9, 3) by decide +kernel) (fun H locs hP hD hS => ?_)
  have hP : va_P D CL [(h0, .inr (2, [.ref q0, .null, .int (Int32.ofInt 0), .int (Int32.ofInt 0)])), (q0, zI cI 4)] H := hP
  have hD : va_D A [(h0, .inr (2, [.ref q0, .null, .int (Int32.ofInt 0), .int (Int32.ofInt 0)])), (q0, zI cI 4)] := hD
  refine lv_aload_n hx hb (show decode cX2_init 11 = .ok (.aload_n 0, 1) by decide +kernel) rfl (lv_at hl 0 rfl) ?_
  refine lv_iconst (v := Int32.ofInt 4) hx hb (show decode cX2_init 12 = .ok (.iconst 4, 1) by decide +kernel) rfl ?_
  refine nw_I (N := 4) hx hb hts hKK hP hD hS hA (by decide +kernel) (by decide +kernel) (by decide) (Nat.le_of_ble_eq_true rfl) (Nat.le_of_ble_eq_true rfl) (show decode cX2_init 13 = .ok (.newarray .int, 2) by decide +kernel) (fun q1 H hP hD hS => ?_)
  have hP : va_P D CL [(h0, .inr (2, [.ref q0, .null, .int (Int32.ofInt 0), .int (Int32.ofInt 0)])), (q0, zI cI 4), (q1, zI cI 4)] H := hP
  have hD : va_D A [(h0, .inr (2, [.ref q0, .null, .int (Int32.ofInt 0), .int (Int32.ofInt 0)])), (q0, zI cI 4), (q1, zI cI 4)] := hD
  refine va_putF (D := D) (ci := 2) (v := .ref q1) (ty := .array .int) (C := RX2) (T := TX2) (N := 4) hx hb hts in2 tyX2 tyX2_ok nmX2 hown hKK.1 hP hD hS 0 rfl rfl 1 (by decide) (hts (.fieldLink RX2 15 "TwoWaySeats$Ring" "ringParties" "[I") (by decide +kernel)) (fun _ h9 => h9) rfl hin rfl (by decide +kernel) rfl rfl (Nat.le_of_ble_eq_true rfl) (show decode cX2_init 15 = .ok (.putfield 15, 3) by decide +kernel) (fun H locs hP hD hS => ?_)
  have hP : va_P D CL [(h0, .inr (2, [.ref q0, .ref q1, .int (Int32.ofInt 0), .int (Int32.ofInt 0)])), (q0, zI cI 4), (q1, zI cI 4)] H := hP
  have hD : va_D A [(h0, .inr (2, [.ref q0, .ref q1, .int (Int32.ofInt 0), .int (Int32.ofInt 0)])), (q0, zI cI 4), (q1, zI cI 4)] := hD
  have hE : [(h0, .inr (2, [.ref q0, .ref q1, .int (Int32.ofInt 0), .int (Int32.ofInt 0)])), (q0, zI cI 4), (q1, zI cI 4)] = cw (fun r => match r with | 0 => h0 | 1 => q0 | _ => q1) cI cJ SR σz := rfl
  rw [hE] at hP hD
  refine W.widen (k := 2) (n := 8) (Nat.le_of_ble_eq_true rfl) (Nat.le_of_ble_eq_true rfl) ?_
  exact W.vret hx hb hr (fun t ht hW => ⟨rfl, (fun r => match r with | 0 => h0 | 1 => q0 | _ => q1), σz, rfl, rfl, by rw [ht]; exact hP, hD, hS.F ht⟩) hS.2.2 (show decode cX2_init 18 = .ok (.return_, 1) by decide +kernel)
set_option maxRecDepth 100000 in
set_option maxHeartbeats 4000000 in
theorem in_numbers {l : Launch} {D : va_G} {cI cJ : ClassId} (h0 : Nat) : InOk (yX1_init, cX1_init, 1, none) { frames := 2, cells := 2, slots := 16, locals := 100 } 1 [.null, .null] SN 2 16 (fun σ => σ = σz) l D cI cJ h0 := by
  intro sz
  refine Met.ofW (cc := cX1_init) (maxL := 1) (ret := none) (by decide) rfl ?_
  intro p e s m args below meth c s₁ B hml hv
  obtain ⟨rfl, hsz, hP, hKK⟩ := hv
  subst hsz
  have hlocks := B.notSynchronized
  have hx := B.exec
  have hb := B.bytes
  have hr := B.returns
  have hts : ∀ w ∈ WA, w.before _ s = true := fun w hw => atoms_spec (ws := wsY (yX1_init, cX1_init, 1, none)) B.pre w (List.mem_cons_of_mem _ hw)
  have hown : s.vm.findClass RX1 = some m.cls := findClass_of_methodNamed B.named
  have hin : meth.name = "<init>" := (name_of_methodNamed B.named B.method).1
  have hD : va_D (va_A [(h0, .inr (1, [.null, .null]))] s.heap.size) [(h0, .inr (1, [.null, .null]))] := one_D.self
  generalize hAe : va_A [(h0, .inr (1, [.null, .null]))] s.heap.size = A at hD ⊢
  have hA : ∀ q : Nat, s.heap.size ≤ q → A q := fun q h => by rw [← hAe]; exact Or.inr h
  have hS : va_S A s.heap s.heap [] := va_S.rf
  have hl := lv_entry ([.ref h0]) (n := 1) (Nat.le_of_ble_eq_true rfl)
  rw [lg_entry_eq]
  generalize (lg_sl ([.ref h0]) ++ List.replicate (1 - (lg_sl ([.ref h0])).length) Slot.unset).toArray = ls at hl ⊢
  have hl : lv_has ls 1 [(0, .ref h0)] := hl
  refine lv_aload_n hx hb (show decode cX1_init 0 = .ok (.aload_n 0, 1) by decide +kernel) rfl (lv_at hl 0 rfl) ?_
  refine W.objInit hx hb hown (hts (.methodLink RX1 3 objectInit) (by decide +kernel)) (hts _ wOI.1) (hts _ wOI.2) rfl (by rw [hml]; exact hl.1) rfl (show decode cX1_init 1 = .ok (.invokespecial 3, 3) by decide +kernel) (Nat.le_of_ble_eq_true rfl) (Nat.le_of_ble_eq_true rfl) ?_
  refine W.eq (g2 := F0 m 4 ls []) rfl ?_
  refine lv_aload_n hx hb (show decode cX1_init 4 = .ok (.aload_n 0, 1) by decide +kernel) rfl (lv_at hl 0 rfl) ?_
  refine lv_bipush (v := Int32.ofInt 8) hx hb (show decode cX1_init 5 = .ok (.bipush 8, 2) by decide +kernel) (by decide) ?_
  refine nw_J (N := 8) hx hb hts hKK hP hD hS hA (by decide +kernel) (by decide +kernel) (by decide) (Nat.le_of_ble_eq_true rfl) (Nat.le_of_ble_eq_true rfl) (show decode cX1_init 7 = .ok (.newarray .long, 2) by decide +kernel) (fun q0 H hP hD hS => ?_)
  have hP : va_P D CL [(h0, .inr (1, [.null, .null])), (q0, zJ cJ 8)] H := hP
  have hD : va_D A [(h0, .inr (1, [.null, .null])), (q0, zJ cJ 8)] := hD
  refine va_putF (D := D) (ci := 1) (v := .ref q0) (ty := .array .long) (C := RX1) (T := TX1) (N := 2) hx hb hts in1 tyX1 tyX1_ok nmX1 hown hKK.1 hP hD hS 0 rfl rfl 0 (by decide) (hts (.fieldLink RX1 11 "TwoWaySeats$Numbers" "above" "[J") (by decide +kernel)) (fun _ h9 => h9) rfl hin rfl (by decide +kernel) rfl rfl (Nat.le_of_ble_eq_true rfl) (show decode cX1_init 9 = .ok (.putfield 11, 3) by decide +kernel) (fun H locs hP hD hS => ?_)
  have hP : va_P D CL [(h0, .inr (1, [.ref q0, .null])), (q0, zJ cJ 8)] H := hP
  have hD : va_D A [(h0, .inr (1, [.ref q0, .null])), (q0, zJ cJ 8)] := hD
  refine lv_aload_n hx hb (show decode cX1_init 12 = .ok (.aload_n 0, 1) by decide +kernel) rfl (lv_at hl 0 rfl) ?_
  refine lv_bipush (v := Int32.ofInt 8) hx hb (show decode cX1_init 13 = .ok (.bipush 8, 2) by decide +kernel) (by decide) ?_
  refine nw_J (N := 8) hx hb hts hKK hP hD hS hA (by decide +kernel) (by decide +kernel) (by decide) (Nat.le_of_ble_eq_true rfl) (Nat.le_of_ble_eq_true rfl) (show decode cX1_init 15 = .ok (.newarray .long, 2) by decide +kernel) (fun q1 H hP hD hS => ?_)
  have hP : va_P D CL [(h0, .inr (1, [.ref q0, .null])), (q0, zJ cJ 8), (q1, zJ cJ 8)] H := hP
  have hD : va_D A [(h0, .inr (1, [.ref q0, .null])), (q0, zJ cJ 8), (q1, zJ cJ 8)] := hD
  refine va_putF (D := D) (ci := 1) (v := .ref q1) (ty := .array .long) (C := RX1) (T := TX1) (N := 2) hx hb hts in1 tyX1 tyX1_ok nmX1 hown hKK.1 hP hD hS 0 rfl rfl 1 (by decide) (hts (.fieldLink RX1 15 "TwoWaySeats$Numbers" "below" "[J") (by decide +kernel)) (fun _ h9 => h9) rfl hin rfl (by decide +kernel) rfl rfl (Nat.le_of_ble_eq_true rfl) (show decode cX1_init 17 = .ok (.putfield 15, 3) by decide +kernel) (fun H locs hP hD hS => ?_)
  have hP : va_P D CL [(h0, .inr (1, [.ref q0, .ref q1])), (q0, zJ cJ 8), (q1, zJ cJ 8)] H := hP
  have hD : va_D A [(h0, .inr (1, [.ref q0, .ref q1])), (q0, zJ cJ 8), (q1, zJ cJ 8)] := hD
  have hE : [(h0, .inr (1, [.ref q0, .ref q1])), (q0, zJ cJ 8), (q1, zJ cJ 8)] = cw (fun r => match r with | 0 => h0 | 1 => q0 | _ => q1) cI cJ SN σz := rfl
  rw [hE] at hP hD
  refine W.widen (k := 2) (n := 16) (Nat.le_of_ble_eq_true rfl) (Nat.le_of_ble_eq_true rfl) ?_
  exact W.vret hx hb hr (fun t ht hW => ⟨rfl, (fun r => match r with | 0 => h0 | 1 => q0 | _ => q1), σz, rfl, rfl, by rw [ht]; exact hP, hD, hS.F ht⟩) hS.2.2 (show decode cX1_init 20 = .ok (.return_, 1) by decide +kernel)
