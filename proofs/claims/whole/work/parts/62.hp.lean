/-! ===== the law's helpers ===== -/
def Gi (z : Int) (y : Int64) : Prop := y = (Int32.ofInt z).toInt64
def Gz (z : Int) (y : Int64) : Prop := y = if Int32.ofInt z = 0 then 0 else 1
def Gl (z : Int) (y : Int64) : Prop := y = Int64.ofInt z
def Gv (_ : Int) (_ : Int64) : Prop := True
def rmh : Room := { frames := 27, cells := 1, slots := 6, locals := 2700 }
def Pch (D : va_G) (ad : Nat → Nat) (ao : Nat) (cI cJ : ClassId) (σ : HP) (o : Nat → Int64) (sz : Nat) : State → Prop := fun U => U.heap.size = sz ∧ va_P D CL (wXO ad ao cI cJ σ o) U.heap ∧ KK D cI cJ U ∧ va_D (fun _ => True) (wXO ad ao cI cJ σ o) ∧ KX (va_A (wXO ad ao cI cJ σ o) sz) U ∧ NX U
def Qch (D : va_G) (ad : Nat → Nat) (ao : Nat) (cI cJ : ClassId) (A : Nat → Prop) (r : Nat → Int → HP → Prop) (G : Int → Int64 → Prop) : Array Value → State → Outcome → State → Prop := fun _ st oc t => ∃ (k : Nat) (z : Int) (σ' : HP) (o' : Nat → Int64), k ≤ 3 ∧ r k z σ' ∧ (k = 0 → G z (o' 0)) ∧ oc = .returned (some (.int (Int32.ofInt k))) ∧ va_P D CL (wXO ad ao cI cJ σ' o') t.heap ∧ va_F A st t
/-- a helper of the law: it answers which exception came, 0 for none; the answer lies in out -/
def HOk (y : MethodName) (cc : ByteArray) (maxL : Nat) (hh : List (Nat × Nat × Nat × Nat)) (l : Launch) (D : va_G) (ad : Nat → Nat) (ao : Nat) (cI cJ : ClassId) (As : List Value) (σ : HP) (o : Nat → Int64) (r : Nat → Int → HP → Prop) (G : Int → Int64 → Prop) : Prop :=
  ∀ sz : Nat, Met l y (.codeWith y cc maxL (some .int) hh :: WA) rmh (va_Pc As (Pch D ad ao cI cJ σ o sz)) (Qch D ad ao cI cJ (va_A (wXO ad ao cI cJ σ o) sz) r G) 1 6 (va_A (wXO ad ao cI cJ σ o) sz)
section Helpers
variable {p : Program} {l : Launch} {e : Env} {R : Room} {s : State} {m : MethodId} {args : Array Value} {below : List Frame} {meth : Method} {c : Code} {H H1 : Heap} {locs : List Loc} {cells slots : Nat} {Fin : State → Prop} {D : va_G} {ad : Nat → Nat} {ao : Nat} {cI cJ : ClassId} {A : Nat → Prop} {H0 : Heap} {ls : Array Slot} {cc : ByteArray} {maxL pc Dn Pn : Nat} {σ σ' : HP} {o o' : Nat → Int64} {r : Nat → Int → HP → Prop} {G : Int → Int64 → Prop}
theorem hx_B {y : MethodName} {ws : List Cond} {rm : Room} {ret : Option FieldType} {s₁ : State} (B : BodyLoose p l y (headSpec ws rm) cc maxL ret e s m args below meth c s₁) : p.tables.exec = Jvm.exec ∧ c.code = cc ∧ meth.sig.returnType = ret ∧ meth.locks = false ∧ ∀ w ∈ ws, w.before args s = true := ⟨B.exec, B.bytes, B.returns, B.notSynchronized, atoms_spec (ws := ws) B.pre⟩
theorem hx_A {sz : Nat} : ∀ q, va_A (cw ad cI cJ SX σ) sz q → va_A (wXO ad ao cI cJ σ o) sz q := by
  rintro q (⟨k, e, h⟩ | h)
  · exact Or.inl ⟨k, e, by unfold wXO; rw [List.getElem?_append_left (List.getElem?_eq_some_iff.mp h).1]; exact h⟩
  · exact Or.inr h
theorem hx_U (h : KX (va_A (wXO ad ao cI cJ σ o) s.heap.size) s) : vx_Zq Bundle.tN "UNASSIGNED_STACK" Bundle.steD (va_A (cw ad cI cJ SX σ) s.heap.size) s s.heap ∧ vx_Zq Bundle.tN "SUPPRESSED_SENTINEL" Bundle.listD (va_A (cw ad cI cJ SX σ) s.heap.size) s s.heap := (KX.narrow hx_A h).2
theorem hx_join (hP : va_P D CL (wXO ad ao cI cJ σ o) H) (hD0 : va_D A (wXO ad ao cI cJ σ o)) (hP1 : va_P D CL (cw ad cI cJ SX σ') H1) (hk : ∀ q : Nat, q < H.size → ¬ va_A (cw ad cI cJ SX σ) H.size q → H1[q]? = H[q]?) : va_P D CL (wXO ad ao cI cJ σ' o) H1 :=
  hP1.app (va_P_other (va_P_app hP).2 (va_D_app hD0).2.2 hk)
theorem wXO_at : (wXO ad ao cI cJ σ o)[18]? = some (ao, .inl (cJ, 1, .inr (.inl o))) := by
  unfold wXO
  rw [List.getElem?_append_right (by rw [cw_len]; exact Nat.le_refl 18), cw_len]
  rfl
theorem wXO_set {o2 : Nat → Int64} : (wXO ad ao cI cJ σ o).set 18 (ao, .inl (cJ, 1, .inr (.inl o2))) = wXO ad ao cI cJ σ o2 := by
  unfold wXO
  rw [List.set_append_right _ _ (by rw [cw_len]; exact Nat.le_refl 18), cw_len]
  rfl
theorem hx_last {x : Int64} {rest : List Value} {sz : Nat} (hx : p.tables.exec = Jvm.exec) (hb : c.code = cc) (hK : KK D cI cJ s) (hD0 : va_D (fun _ => True) (wXO ad ao cI cJ σ o)) (hP : va_P D CL (wXO ad ao cI cJ σ' o) H) (hS : va_S (va_A (wXO ad ao cI cJ σ o) sz) H0 H locs) (hdg : decode cc pc = .ok (.lastore, 1))
    (kk : ∀ (H2 : Heap) (locs2 : List Loc) (o2 : Nat → Int64), o2 0 = x → va_P D CL (wXO ad ao cI cJ σ' o2) H2 → va_S (va_A (wXO ad ao cI cJ σ o) sz) H0 H2 locs2 → W p l e R s m args below meth c H2 locs2 cells slots Fin (F0 m (pc + 1) ls rest)) : W p l e R s m args below meth c H locs cells slots Fin (F0 m pc ls (.long x :: .int 0 :: .ref ao :: rest)) := by
  refine va_last hx hb hK.1 hP (va_D_addr wXO_fst hD0.self) hS 18 1 (f := o) wXO_at rfl (by rw [vp_in_iff]; decide) hdg (fun H2 locs2 hP2 hD2 hS2 => kk H2 locs2 (vp_updL o 0 x) (by simp [vp_updL]) ?_ hS2)
  rw [wXO_set] at hP2
  exact hP2
theorem hx_end {k : Nat} {z kI : Int} (hx : p.tables.exec = Jvm.exec) (hb : c.code = cc) (hr : meth.sig.returnType = some .int) (hlocks : meth.locks = false) (hP : va_P D CL (wXO ad ao cI cJ σ' o') H) (hS : va_S A s.heap H locs) (hq : r k z σ') (hG : k = 0 → G z (o' 0)) (d0 : decode cc pc = .ok (.iconst kI, 1)) (hk : kI = k) (hk3 : k ≤ 3) (d1 : decode cc (pc + 1) = .ok (.ireturn, 1)) : W p l e R s m args below meth c H locs (0 + 1) (0 + 6) (MQ below (Qch D ad ao cI cJ A r G) args s 1 6 A) (F0 m pc ls []) := by
  refine lv_iconst (v := Int32.ofInt k) hx hb d0 (by rw [hk]) ?_
  exact W.iret hx hb hr (fun t ht hW => ⟨k, z, σ', o', hk3, hq, hG, rfl, by rw [ht]; exact hP, hS.F ht⟩) hS.2.2 d1 hlocks
set_option maxRecDepth 100000 in
set_option maxHeartbeats 4000000 in
theorem hp_district {n : Int} (hlt : l.stackTraces = false) (h9 : XI σ Dn Pn) (hn9 : in32 n) : HOk yL_district cL_district 4 [(0, 9, 12, 13), (0, 9, 15, 15)] l D ad ao cI cJ [.ref (ad 0), .int (Int32.ofInt n), .ref ao] σ o (fun k z σ' => rDistrict σ Dn n k z σ') Gi := by
  intro sz
  refine va_MetW (cc := cL_district) (maxL := 4) (ret := some .int) (by decide) rfl ?_
  intro p e s m args below meth c s₁ B hml hv
  obtain ⟨rfl, hsz, hP, hK, hD0, hKX, hNX⟩ := hv
  subst hsz
  obtain ⟨hx, hb, hr, hlocks, hts0⟩ := hx_B B
  have hts : ∀ w ∈ WA, w.before _ s = true := fun w hw => hts0 w (List.mem_cons_of_mem _ hw)
  have hown : s.vm.findClass RL = some m.cls := findClass_of_methodNamed B.named
  have tb := vx_table (x := yL_district) B (hts0 _ List.mem_cons_self)
  have hl := lv_entry [.ref (ad 0), .int (Int32.ofInt n), .ref ao] (n := 4) (Nat.le_of_ble_eq_true rfl)
  rw [lg_entry_eq]
  generalize (lg_sl ([.ref (ad 0), .int (Int32.ofInt n), .ref ao]) ++ List.replicate (4 - (lg_sl ([.ref (ad 0), .int (Int32.ofInt n), .ref ao])).length) Slot.unset).toArray = ls at hl ⊢
  have hl : lv_has ls 4 [(0, .ref (ad 0)), (1, .int (Int32.ofInt n)), (2, .ref ao)] := hl
  refine lv_aload_n hx hb (show decode cL_district 0 = .ok (.aload_n 2, 1) by decide +kernel) rfl (lv_at hl 2 rfl) ?_
  refine lv_iconst (v := 0) hx hb (show decode cL_district 1 = .ok (.iconst 0, 1) by decide +kernel) (by decide) ?_
  refine lv_aload_n hx hb (show decode cL_district 2 = .ok (.aload_n 0, 1) by decide +kernel) rfl (lv_at hl 0 rfl) ?_
  refine lv_iload_n hx hb (show decode cL_district 3 = .ok (.iload_n 1, 1) by decide +kernel) rfl (lv_at hl 1 rfl) ?_
  refine hx_call [vi n] [.int 0, .ref ao] (ix := 7) (n := 1) (maxL := 4) (A1 := va_A (cw ad cI cJ SX σ) s.heap.size) (A0 := va_A (wXO ad ao cI cJ σ o) s.heap.size) (H0 := s.heap) hlt hx hb hml hown hts hK hKX.1 (hx_U hKX).1 (hx_U hKX).2 (va_P_app hP).1 ((va_D_app hD0).1.self) va_S.rf hx_A hl.1 (okx_district h9 hn9) (by decide +kernel) rfl (show decode cL_district 4 = .ok (.invokevirtual 7, 3) by decide +kernel) (Nat.le_of_ble_eq_true rfl) ⟨Nat.le_of_ble_eq_true rfl, Nat.le_of_ble_eq_true rfl, Nat.le_refl _, Nat.le_refl _⟩ ?_ ?_
  · intro v σ' H1 locs1 hq hP1 hz hk hS1
    obtain ⟨z, rfl, hq⟩ := hq
    have hPj := hx_join hP hD0 hP1 hk
    refine lv_i2l hx hb (show decode cL_district 7 = .ok (.i2l, 1) by decide +kernel) rfl ?_
    refine hx_last hx hb hK hD0 hPj hS1 (show decode cL_district 8 = .ok (.lastore, 1) by decide +kernel) (fun H2 locs2 o2 ho2 hP2 hS2 => ?_)
    refine lv_goto (tgt := 18) hx hb (show decode cL_district 9 = .ok (.goto 9, 3) by decide +kernel) (by decide) ?_
    exact hx_end (k := 0) (z := z) hx hb hr hlocks hP2 hS2 hq (fun _ => ho2) (show decode cL_district 18 = .ok (.iconst 0, 1) by decide +kernel) rfl (by decide) (show decode cL_district (18 + 1) = .ok (.ireturn, 1) by decide +kernel)
  · intro E ik ic σ' H1 locs1 ce q9 hq hP1 hz hk hS1 hc1 hc2 hc3
    have hPj := hx_join hP hD0 hP1 hk
    obtain ⟨n9, hL, hq⟩ := hq
    match n9, hL, hq with
    | 0, hL, hq =>
      obtain rfl : eIA.1 = E := congrArg Prod.fst (Option.some.inj hL)
      refine vx_catch (name := eIA.1) hown [] ⟨0, 9, 12, 13⟩ [⟨0, 9, 15, 15⟩] (by rw [tb]; rfl) (fun z hz => absurd hz List.not_mem_nil) (by decide) (by decide) (hts _ (by decide +kernel)) (va_Nw.use rfl (hNX.1 eIA (by decide +kernel))) hc1 hc2 hc3 ?_
      refine lv_astore_n hx hb (show decode cL_district 12 = .ok (.astore_n 3, 1) by decide +kernel) rfl hl (by decide) rfl (fun ls2 hl2 => ?_)
      exact hx_end (k := 1) (z := 0) hx hb hr hlocks hPj hS1 hq (fun h => absurd h (by decide)) (show decode cL_district 13 = .ok (.iconst 1, 1) by decide +kernel) rfl (by decide) (show decode cL_district (13 + 1) = .ok (.ireturn, 1) by decide +kernel)
    | 1, hL, hq =>
      obtain rfl : eUO.1 = E := congrArg Prod.fst (Option.some.inj hL)
      refine vx_catch (name := eUO.1) hown [⟨0, 9, 12, 13⟩] ⟨0, 9, 15, 15⟩ [] (by rw [tb]; rfl) (fun z hz => by obtain rfl := List.mem_singleton.mp hz; exact Or.inr ⟨by decide, eIA.1, hts _ (by decide +kernel), hNX.2 eUO (by decide +kernel) eIA (by decide +kernel) (by decide +kernel)⟩) (by decide) (by decide) (hts _ (by decide +kernel)) (va_Nw.use rfl (hNX.1 eUO (by decide +kernel))) hc1 hc2 hc3 ?_
      refine lv_astore_n hx hb (show decode cL_district 15 = .ok (.astore_n 3, 1) by decide +kernel) rfl hl (by decide) rfl (fun ls2 hl2 => ?_)
      exact hx_end (k := 2) (z := 0) hx hb hr hlocks hPj hS1 hq (fun h => absurd h (by decide)) (show decode cL_district 16 = .ok (.iconst 2, 1) by decide +kernel) rfl (by decide) (show decode cL_district (16 + 1) = .ok (.ireturn, 1) by decide +kernel)
    | n9 + 2, hL, _ => exact absurd hL (by simp)
set_option maxRecDepth 100000 in
set_option maxHeartbeats 4000000 in
theorem hp_party  (hlt : l.stackTraces = false) (h9 : XI σ Dn Pn) : HOk yL_party cL_party 3 [(0, 8, 11, 15)] l D ad ao cI cJ [.ref (ad 0), .ref ao] σ o (fun k z σ' => rParty σ Pn k z σ') Gi := by
  intro sz
  refine va_MetW (cc := cL_party) (maxL := 3) (ret := some .int) (by decide) rfl ?_
  intro p e s m args below meth c s₁ B hml hv
  obtain ⟨rfl, hsz, hP, hK, hD0, hKX, hNX⟩ := hv
  subst hsz
  obtain ⟨hx, hb, hr, hlocks, hts0⟩ := hx_B B
  have hts : ∀ w ∈ WA, w.before _ s = true := fun w hw => hts0 w (List.mem_cons_of_mem _ hw)
  have hown : s.vm.findClass RL = some m.cls := findClass_of_methodNamed B.named
  have tb := vx_table (x := yL_district) B (hts0 _ List.mem_cons_self)
  have hl := lv_entry [.ref (ad 0), .ref ao] (n := 3) (Nat.le_of_ble_eq_true rfl)
  rw [lg_entry_eq]
  generalize (lg_sl ([.ref (ad 0), .ref ao]) ++ List.replicate (3 - (lg_sl ([.ref (ad 0), .ref ao])).length) Slot.unset).toArray = ls at hl ⊢
  have hl : lv_has ls 3 [(0, .ref (ad 0)), (1, .ref ao)] := hl
  refine lv_aload_n hx hb (show decode cL_party 0 = .ok (.aload_n 1, 1) by decide +kernel) rfl (lv_at hl 1 rfl) ?_
  refine lv_iconst (v := 0) hx hb (show decode cL_party 1 = .ok (.iconst 0, 1) by decide +kernel) (by decide) ?_
  refine lv_aload_n hx hb (show decode cL_party 2 = .ok (.aload_n 0, 1) by decide +kernel) rfl (lv_at hl 0 rfl) ?_
  refine hx_call [] [.int 0, .ref ao] (ix := 17) (n := 0) (maxL := 3) (A1 := va_A (cw ad cI cJ SX σ) s.heap.size) (A0 := va_A (wXO ad ao cI cJ σ o) s.heap.size) (H0 := s.heap) hlt hx hb hml hown hts hK hKX.1 (hx_U hKX).1 (hx_U hKX).2 (va_P_app hP).1 ((va_D_app hD0).1.self) va_S.rf hx_A hl.1 (okx_party h9) (by decide +kernel) rfl (show decode cL_party 3 = .ok (.invokevirtual 17, 3) by decide +kernel) (Nat.le_of_ble_eq_true rfl) ⟨Nat.le_of_ble_eq_true rfl, Nat.le_of_ble_eq_true rfl, Nat.le_refl _, Nat.le_refl _⟩ ?_ ?_
  · intro v σ' H1 locs1 hq hP1 hz hk hS1
    obtain ⟨z, rfl, hq⟩ := hq
    have hPj := hx_join hP hD0 hP1 hk
    refine lv_i2l hx hb (show decode cL_party 6 = .ok (.i2l, 1) by decide +kernel) rfl ?_
    refine hx_last hx hb hK hD0 hPj hS1 (show decode cL_party 7 = .ok (.lastore, 1) by decide +kernel) (fun H2 locs2 o2 ho2 hP2 hS2 => ?_)
    refine lv_goto (tgt := 14) hx hb (show decode cL_party 8 = .ok (.goto 6, 3) by decide +kernel) (by decide) ?_
    exact hx_end (k := 0) (z := z) hx hb hr hlocks hP2 hS2 hq (fun _ => ho2) (show decode cL_party 14 = .ok (.iconst 0, 1) by decide +kernel) rfl (by decide) (show decode cL_party (14 + 1) = .ok (.ireturn, 1) by decide +kernel)
  · intro E ik ic σ' H1 locs1 ce q9 hq hP1 hz hk hS1 hc1 hc2 hc3
    have hPj := hx_join hP hD0 hP1 hk
    obtain ⟨n9, hL, hq⟩ := hq
    match n9, hL, hq with
    | 0, hL, hq =>
      obtain rfl : eUO.1 = E := congrArg Prod.fst (Option.some.inj hL)
      refine vx_catch (name := eUO.1) hown [] ⟨0, 8, 11, 15⟩ [] (by rw [tb]; rfl) (fun z hz => absurd hz List.not_mem_nil) (by decide) (by decide) (hts _ (by decide +kernel)) (va_Nw.use rfl (hNX.1 eUO (by decide +kernel))) hc1 hc2 hc3 ?_
      refine lv_astore_n hx hb (show decode cL_party 11 = .ok (.astore_n 2, 1) by decide +kernel) rfl hl (by decide) rfl (fun ls2 hl2 => ?_)
      exact hx_end (k := 1) (z := 0) hx hb hr hlocks hPj hS1 hq (fun h => absurd h (by decide)) (show decode cL_party 12 = .ok (.iconst 1, 1) by decide +kernel) rfl (by decide) (show decode cL_party (12 + 1) = .ok (.ireturn, 1) by decide +kernel)
    | n9 + 1, hL, _ => exact absurd hL (by simp)
set_option maxRecDepth 100000 in
set_option maxHeartbeats 4000000 in
theorem hp_votes {a b n : Int} (hlt : l.stackTraces = false) (h9 : XI σ Dn Pn) (ha9 : in32 a) (hb9 : in32 b) (hn9 : in32 n) : HOk yL_votes cL_votes 5 [(0, 7, 10, 25), (0, 7, 14, 13)] l D ad ao cI cJ [.ref (ad 0), .int (Int32.ofInt a), .int (Int32.ofInt b), .int (Int32.ofInt n)] σ o (fun k _ σ' => rVotes σ Dn Pn a b n k σ') Gv := by
  intro sz
  refine va_MetW (cc := cL_votes) (maxL := 5) (ret := some .int) (by decide) rfl ?_
  intro p e s m args below meth c s₁ B hml hv
  obtain ⟨rfl, hsz, hP, hK, hD0, hKX, hNX⟩ := hv
  subst hsz
  obtain ⟨hx, hb, hr, hlocks, hts0⟩ := hx_B B
  have hts : ∀ w ∈ WA, w.before _ s = true := fun w hw => hts0 w (List.mem_cons_of_mem _ hw)
  have hown : s.vm.findClass RL = some m.cls := findClass_of_methodNamed B.named
  have tb := vx_table (x := yL_district) B (hts0 _ List.mem_cons_self)
  have hl := lv_entry [.ref (ad 0), .int (Int32.ofInt a), .int (Int32.ofInt b), .int (Int32.ofInt n)] (n := 5) (Nat.le_of_ble_eq_true rfl)
  rw [lg_entry_eq]
  generalize (lg_sl ([.ref (ad 0), .int (Int32.ofInt a), .int (Int32.ofInt b), .int (Int32.ofInt n)]) ++ List.replicate (5 - (lg_sl ([.ref (ad 0), .int (Int32.ofInt a), .int (Int32.ofInt b), .int (Int32.ofInt n)])).length) Slot.unset).toArray = ls at hl ⊢
  have hl : lv_has ls 5 [(0, .ref (ad 0)), (1, .int (Int32.ofInt a)), (2, .int (Int32.ofInt b)), (3, .int (Int32.ofInt n))] := hl
  refine lv_aload_n hx hb (show decode cL_votes 0 = .ok (.aload_n 0, 1) by decide +kernel) rfl (lv_at hl 0 rfl) ?_
  refine lv_iload_n hx hb (show decode cL_votes 1 = .ok (.iload_n 1, 1) by decide +kernel) rfl (lv_at hl 1 rfl) ?_
  refine lv_iload_n hx hb (show decode cL_votes 2 = .ok (.iload_n 2, 1) by decide +kernel) rfl (lv_at hl 2 rfl) ?_
  refine lv_iload_n hx hb (show decode cL_votes 3 = .ok (.iload_n 3, 1) by decide +kernel) rfl (lv_at hl 3 rfl) ?_
  refine hx_call [vi a, vi b, vi n] [] (ix := 21) (n := 3) (maxL := 5) (A1 := va_A (cw ad cI cJ SX σ) s.heap.size) (A0 := va_A (wXO ad ao cI cJ σ o) s.heap.size) (H0 := s.heap) hlt hx hb hml hown hts hK hKX.1 (hx_U hKX).1 (hx_U hKX).2 (va_P_app hP).1 ((va_D_app hD0).1.self) va_S.rf hx_A hl.1 (okx_votes h9 ha9 hb9 hn9) (by decide +kernel) rfl (show decode cL_votes 4 = .ok (.invokevirtual 21, 3) by decide +kernel) (Nat.le_of_ble_eq_true rfl) ⟨Nat.le_of_ble_eq_true rfl, Nat.le_of_ble_eq_true rfl, Nat.le_refl _, Nat.le_refl _⟩ ?_ ?_
  · intro v σ' H1 locs1 hq hP1 hz hk hS1
    obtain ⟨rfl, hq⟩ := hq
    have hPj := hx_join hP hD0 hP1 hk
    refine lv_goto (tgt := 18) hx hb (show decode cL_votes 7 = .ok (.goto 11, 3) by decide +kernel) (by decide) ?_
    exact hx_end (k := 0) (z := 0) hx hb hr hlocks hPj hS1 hq (fun _ => trivial) (show decode cL_votes 18 = .ok (.iconst 0, 1) by decide +kernel) rfl (by decide) (show decode cL_votes (18 + 1) = .ok (.ireturn, 1) by decide +kernel)
  · intro E ik ic σ' H1 locs1 ce q9 hq hP1 hz hk hS1 hc1 hc2 hc3
    have hPj := hx_join hP hD0 hP1 hk
    obtain ⟨n9, hL, hq⟩ := hq
    match n9, hL, hq with
    | 0, hL, hq =>
      obtain rfl : eIB.1 = E := congrArg Prod.fst (Option.some.inj hL)
      refine vx_catch (name := eIB.1) hown [] ⟨0, 7, 10, 25⟩ [⟨0, 7, 14, 13⟩] (by rw [tb]; rfl) (fun z hz => absurd hz List.not_mem_nil) (by decide) (by decide) (hts _ (by decide +kernel)) (va_Nw.use rfl (hNX.1 eIB (by decide +kernel))) hc1 hc2 hc3 ?_
      refine lv_astore hx hb (show decode cL_votes 10 = .ok (.astore 4, 2) by decide +kernel) hl (by decide) rfl (fun ls2 hl2 => ?_)
      exact hx_end (k := 1) (z := 0) hx hb hr hlocks hPj hS1 hq (fun h => absurd h (by decide)) (show decode cL_votes 12 = .ok (.iconst 1, 1) by decide +kernel) rfl (by decide) (show decode cL_votes (12 + 1) = .ok (.ireturn, 1) by decide +kernel)
    | 1, hL, hq =>
      obtain rfl : eIA.1 = E := congrArg Prod.fst (Option.some.inj hL)
      refine vx_catch (name := eIA.1) hown [⟨0, 7, 10, 25⟩] ⟨0, 7, 14, 13⟩ [] (by rw [tb]; rfl) (fun z hz => by obtain rfl := List.mem_singleton.mp hz; exact Or.inr ⟨by decide, eIB.1, hts _ (by decide +kernel), hNX.2 eIA (by decide +kernel) eIB (by decide +kernel) (by decide +kernel)⟩) (by decide) (by decide) (hts _ (by decide +kernel)) (va_Nw.use rfl (hNX.1 eIA (by decide +kernel))) hc1 hc2 hc3 ?_
      refine lv_astore hx hb (show decode cL_votes 14 = .ok (.astore 4, 2) by decide +kernel) hl (by decide) rfl (fun ls2 hl2 => ?_)
      exact hx_end (k := 2) (z := 0) hx hb hr hlocks hPj hS1 hq (fun h => absurd h (by decide)) (show decode cL_votes 16 = .ok (.iconst 2, 1) by decide +kernel) rfl (by decide) (show decode cL_votes (16 + 1) = .ok (.ireturn, 1) by decide +kernel)
    | n9 + 2, hL, _ => exact absurd hL (by simp)
set_option maxRecDepth 100000 in
set_option maxHeartbeats 4000000 in
theorem hp_threshold {n : Int} (hlt : l.stackTraces = false) (hn9 : in32 n) : HOk yL_threshold cL_threshold 3 [(0, 5, 8, 13)] l D ad ao cI cJ [.ref (ad 0), .int (Int32.ofInt n)] σ o (fun k _ σ' => rThreshold σ n k σ') Gv := by
  intro sz
  refine va_MetW (cc := cL_threshold) (maxL := 3) (ret := some .int) (by decide) rfl ?_
  intro p e s m args below meth c s₁ B hml hv
  obtain ⟨rfl, hsz, hP, hK, hD0, hKX, hNX⟩ := hv
  subst hsz
  obtain ⟨hx, hb, hr, hlocks, hts0⟩ := hx_B B
  have hts : ∀ w ∈ WA, w.before _ s = true := fun w hw => hts0 w (List.mem_cons_of_mem _ hw)
  have hown : s.vm.findClass RL = some m.cls := findClass_of_methodNamed B.named
  have tb := vx_table (x := yL_district) B (hts0 _ List.mem_cons_self)
  have hl := lv_entry [.ref (ad 0), .int (Int32.ofInt n)] (n := 3) (Nat.le_of_ble_eq_true rfl)
  rw [lg_entry_eq]
  generalize (lg_sl ([.ref (ad 0), .int (Int32.ofInt n)]) ++ List.replicate (3 - (lg_sl ([.ref (ad 0), .int (Int32.ofInt n)])).length) Slot.unset).toArray = ls at hl ⊢
  have hl : lv_has ls 3 [(0, .ref (ad 0)), (1, .int (Int32.ofInt n))] := hl
  refine lv_aload_n hx hb (show decode cL_threshold 0 = .ok (.aload_n 0, 1) by decide +kernel) rfl (lv_at hl 0 rfl) ?_
  refine lv_iload_n hx hb (show decode cL_threshold 1 = .ok (.iload_n 1, 1) by decide +kernel) rfl (lv_at hl 1 rfl) ?_
  refine hx_call [vi n] [] (ix := 27) (n := 1) (maxL := 3) (A1 := va_A (cw ad cI cJ SX σ) s.heap.size) (A0 := va_A (wXO ad ao cI cJ σ o) s.heap.size) (H0 := s.heap) hlt hx hb hml hown hts hK hKX.1 (hx_U hKX).1 (hx_U hKX).2 (va_P_app hP).1 ((va_D_app hD0).1.self) va_S.rf hx_A hl.1 (okx_threshold hn9) (by decide +kernel) rfl (show decode cL_threshold 2 = .ok (.invokevirtual 27, 3) by decide +kernel) (Nat.le_of_ble_eq_true rfl) ⟨Nat.le_of_ble_eq_true rfl, Nat.le_of_ble_eq_true rfl, Nat.le_refl _, Nat.le_refl _⟩ ?_ ?_
  · intro v σ' H1 locs1 hq hP1 hz hk hS1
    obtain ⟨rfl, hq⟩ := hq
    have hPj := hx_join hP hD0 hP1 hk
    refine lv_goto (tgt := 11) hx hb (show decode cL_threshold 5 = .ok (.goto 6, 3) by decide +kernel) (by decide) ?_
    exact hx_end (k := 0) (z := 0) hx hb hr hlocks hPj hS1 hq (fun _ => trivial) (show decode cL_threshold 11 = .ok (.iconst 0, 1) by decide +kernel) rfl (by decide) (show decode cL_threshold (11 + 1) = .ok (.ireturn, 1) by decide +kernel)
  · intro E ik ic σ' H1 locs1 ce q9 hq hP1 hz hk hS1 hc1 hc2 hc3
    have hPj := hx_join hP hD0 hP1 hk
    obtain ⟨n9, hL, hq⟩ := hq
    match n9, hL, hq with
    | 0, hL, hq =>
      obtain rfl : eIA.1 = E := congrArg Prod.fst (Option.some.inj hL)
      refine vx_catch (name := eIA.1) hown [] ⟨0, 5, 8, 13⟩ [] (by rw [tb]; rfl) (fun z hz => absurd hz List.not_mem_nil) (by decide) (by decide) (hts _ (by decide +kernel)) (va_Nw.use rfl (hNX.1 eIA (by decide +kernel))) hc1 hc2 hc3 ?_
      refine lv_astore_n hx hb (show decode cL_threshold 8 = .ok (.astore_n 2, 1) by decide +kernel) rfl hl (by decide) rfl (fun ls2 hl2 => ?_)
      exact hx_end (k := 1) (z := 0) hx hb hr hlocks hPj hS1 hq (fun h => absurd h (by decide)) (show decode cL_threshold 9 = .ok (.iconst 1, 1) by decide +kernel) rfl (by decide) (show decode cL_threshold (9 + 1) = .ok (.ireturn, 1) by decide +kernel)
    | n9 + 1, hL, _ => exact absurd hL (by simp)
set_option maxRecDepth 100000 in
set_option maxHeartbeats 4000000 in
theorem hp_lot {a b : Int} (hlt : l.stackTraces = false) (h9 : XI σ Dn Pn) (ha9 : in32 a) (hb9 : in32 b) : HOk yL_lot cL_lot 4 [(0, 6, 9, 25)] l D ad ao cI cJ [.ref (ad 0), .int (Int32.ofInt a), .int (Int32.ofInt b)] σ o (fun k _ σ' => rLot σ Pn a b k σ') Gv := by
  intro sz
  refine va_MetW (cc := cL_lot) (maxL := 4) (ret := some .int) (by decide) rfl ?_
  intro p e s m args below meth c s₁ B hml hv
  obtain ⟨rfl, hsz, hP, hK, hD0, hKX, hNX⟩ := hv
  subst hsz
  obtain ⟨hx, hb, hr, hlocks, hts0⟩ := hx_B B
  have hts : ∀ w ∈ WA, w.before _ s = true := fun w hw => hts0 w (List.mem_cons_of_mem _ hw)
  have hown : s.vm.findClass RL = some m.cls := findClass_of_methodNamed B.named
  have tb := vx_table (x := yL_district) B (hts0 _ List.mem_cons_self)
  have hl := lv_entry [.ref (ad 0), .int (Int32.ofInt a), .int (Int32.ofInt b)] (n := 4) (Nat.le_of_ble_eq_true rfl)
  rw [lg_entry_eq]
  generalize (lg_sl ([.ref (ad 0), .int (Int32.ofInt a), .int (Int32.ofInt b)]) ++ List.replicate (4 - (lg_sl ([.ref (ad 0), .int (Int32.ofInt a), .int (Int32.ofInt b)])).length) Slot.unset).toArray = ls at hl ⊢
  have hl : lv_has ls 4 [(0, .ref (ad 0)), (1, .int (Int32.ofInt a)), (2, .int (Int32.ofInt b))] := hl
  refine lv_aload_n hx hb (show decode cL_lot 0 = .ok (.aload_n 0, 1) by decide +kernel) rfl (lv_at hl 0 rfl) ?_
  refine lv_iload_n hx hb (show decode cL_lot 1 = .ok (.iload_n 1, 1) by decide +kernel) rfl (lv_at hl 1 rfl) ?_
  refine lv_iload_n hx hb (show decode cL_lot 2 = .ok (.iload_n 2, 1) by decide +kernel) rfl (lv_at hl 2 rfl) ?_
  refine hx_call [vi a, vi b] [] (ix := 31) (n := 2) (maxL := 4) (A1 := va_A (cw ad cI cJ SX σ) s.heap.size) (A0 := va_A (wXO ad ao cI cJ σ o) s.heap.size) (H0 := s.heap) hlt hx hb hml hown hts hK hKX.1 (hx_U hKX).1 (hx_U hKX).2 (va_P_app hP).1 ((va_D_app hD0).1.self) va_S.rf hx_A hl.1 (okx_lot h9 ha9 hb9) (by decide +kernel) rfl (show decode cL_lot 3 = .ok (.invokevirtual 31, 3) by decide +kernel) (Nat.le_of_ble_eq_true rfl) ⟨Nat.le_of_ble_eq_true rfl, Nat.le_of_ble_eq_true rfl, Nat.le_refl _, Nat.le_refl _⟩ ?_ ?_
  · intro v σ' H1 locs1 hq hP1 hz hk hS1
    obtain ⟨rfl, hq⟩ := hq
    have hPj := hx_join hP hD0 hP1 hk
    refine lv_goto (tgt := 12) hx hb (show decode cL_lot 6 = .ok (.goto 6, 3) by decide +kernel) (by decide) ?_
    exact hx_end (k := 0) (z := 0) hx hb hr hlocks hPj hS1 hq (fun _ => trivial) (show decode cL_lot 12 = .ok (.iconst 0, 1) by decide +kernel) rfl (by decide) (show decode cL_lot (12 + 1) = .ok (.ireturn, 1) by decide +kernel)
  · intro E ik ic σ' H1 locs1 ce q9 hq hP1 hz hk hS1 hc1 hc2 hc3
    have hPj := hx_join hP hD0 hP1 hk
    obtain ⟨n9, hL, hq⟩ := hq
    match n9, hL, hq with
    | 0, hL, hq =>
      obtain rfl : eIB.1 = E := congrArg Prod.fst (Option.some.inj hL)
      refine vx_catch (name := eIB.1) hown [] ⟨0, 6, 9, 25⟩ [] (by rw [tb]; rfl) (fun z hz => absurd hz List.not_mem_nil) (by decide) (by decide) (hts _ (by decide +kernel)) (va_Nw.use rfl (hNX.1 eIB (by decide +kernel))) hc1 hc2 hc3 ?_
      refine lv_astore_n hx hb (show decode cL_lot 9 = .ok (.astore_n 3, 1) by decide +kernel) rfl hl (by decide) rfl (fun ls2 hl2 => ?_)
      exact hx_end (k := 1) (z := 0) hx hb hr hlocks hPj hS1 hq (fun h => absurd h (by decide)) (show decode cL_lot 10 = .ok (.iconst 1, 1) by decide +kernel) rfl (by decide) (show decode cL_lot (10 + 1) = .ok (.ireturn, 1) by decide +kernel)
    | n9 + 1, hL, _ => exact absurd hL (by simp)
set_option maxRecDepth 100000 in
set_option maxHeartbeats 4000000 in
theorem hp_share {a : Int} (hlt : l.stackTraces = false) (h9 : XI σ Dn Pn) (ha9 : in32 a) : HOk yL_share cL_share 4 [(0, 9, 12, 38), (0, 9, 15, 25)] l D ad ao cI cJ [.ref (ad 0), .int (Int32.ofInt a), .ref ao] σ o (fun k z σ' => rShare σ Dn Pn a k z σ') Gi := by
  intro sz
  refine va_MetW (cc := cL_share) (maxL := 4) (ret := some .int) (by decide) rfl ?_
  intro p e s m args below meth c s₁ B hml hv
  obtain ⟨rfl, hsz, hP, hK, hD0, hKX, hNX⟩ := hv
  subst hsz
  obtain ⟨hx, hb, hr, hlocks, hts0⟩ := hx_B B
  have hts : ∀ w ∈ WA, w.before _ s = true := fun w hw => hts0 w (List.mem_cons_of_mem _ hw)
  have hown : s.vm.findClass RL = some m.cls := findClass_of_methodNamed B.named
  have tb := vx_table (x := yL_district) B (hts0 _ List.mem_cons_self)
  have hl := lv_entry [.ref (ad 0), .int (Int32.ofInt a), .ref ao] (n := 4) (Nat.le_of_ble_eq_true rfl)
  rw [lg_entry_eq]
  generalize (lg_sl ([.ref (ad 0), .int (Int32.ofInt a), .ref ao]) ++ List.replicate (4 - (lg_sl ([.ref (ad 0), .int (Int32.ofInt a), .ref ao])).length) Slot.unset).toArray = ls at hl ⊢
  have hl : lv_has ls 4 [(0, .ref (ad 0)), (1, .int (Int32.ofInt a)), (2, .ref ao)] := hl
  refine lv_aload_n hx hb (show decode cL_share 0 = .ok (.aload_n 2, 1) by decide +kernel) rfl (lv_at hl 2 rfl) ?_
  refine lv_iconst (v := 0) hx hb (show decode cL_share 1 = .ok (.iconst 0, 1) by decide +kernel) (by decide) ?_
  refine lv_aload_n hx hb (show decode cL_share 2 = .ok (.aload_n 0, 1) by decide +kernel) rfl (lv_at hl 0 rfl) ?_
  refine lv_iload_n hx hb (show decode cL_share 3 = .ok (.iload_n 1, 1) by decide +kernel) rfl (lv_at hl 1 rfl) ?_
  refine hx_call [vi a] [.int 0, .ref ao] (ix := 35) (n := 1) (maxL := 4) (A1 := va_A (cw ad cI cJ SX σ) s.heap.size) (A0 := va_A (wXO ad ao cI cJ σ o) s.heap.size) (H0 := s.heap) hlt hx hb hml hown hts hK hKX.1 (hx_U hKX).1 (hx_U hKX).2 (va_P_app hP).1 ((va_D_app hD0).1.self) va_S.rf hx_A hl.1 (okx_share h9 ha9) (by decide +kernel) rfl (show decode cL_share 4 = .ok (.invokevirtual 35, 3) by decide +kernel) (Nat.le_of_ble_eq_true rfl) ⟨Nat.le_of_ble_eq_true rfl, Nat.le_of_ble_eq_true rfl, Nat.le_refl _, Nat.le_refl _⟩ ?_ ?_
  · intro v σ' H1 locs1 hq hP1 hz hk hS1
    obtain ⟨z, rfl, hq⟩ := hq
    have hPj := hx_join hP hD0 hP1 hk
    refine lv_i2l hx hb (show decode cL_share 7 = .ok (.i2l, 1) by decide +kernel) rfl ?_
    refine hx_last hx hb hK hD0 hPj hS1 (show decode cL_share 8 = .ok (.lastore, 1) by decide +kernel) (fun H2 locs2 o2 ho2 hP2 hS2 => ?_)
    refine lv_goto (tgt := 18) hx hb (show decode cL_share 9 = .ok (.goto 9, 3) by decide +kernel) (by decide) ?_
    exact hx_end (k := 0) (z := z) hx hb hr hlocks hP2 hS2 hq (fun _ => ho2) (show decode cL_share 18 = .ok (.iconst 0, 1) by decide +kernel) rfl (by decide) (show decode cL_share (18 + 1) = .ok (.ireturn, 1) by decide +kernel)
  · intro E ik ic σ' H1 locs1 ce q9 hq hP1 hz hk hS1 hc1 hc2 hc3
    have hPj := hx_join hP hD0 hP1 hk
    obtain ⟨n9, hL, hq⟩ := hq
    match n9, hL, hq with
    | 0, hL, hq =>
      obtain rfl : eIS.1 = E := congrArg Prod.fst (Option.some.inj hL)
      refine vx_catch (name := eIS.1) hown [] ⟨0, 9, 12, 38⟩ [⟨0, 9, 15, 25⟩] (by rw [tb]; rfl) (fun z hz => absurd hz List.not_mem_nil) (by decide) (by decide) (hts _ (by decide +kernel)) (va_Nw.use rfl (hNX.1 eIS (by decide +kernel))) hc1 hc2 hc3 ?_
      refine lv_astore_n hx hb (show decode cL_share 12 = .ok (.astore_n 3, 1) by decide +kernel) rfl hl (by decide) rfl (fun ls2 hl2 => ?_)
      exact hx_end (k := 1) (z := 0) hx hb hr hlocks hPj hS1 hq (fun h => absurd h (by decide)) (show decode cL_share 13 = .ok (.iconst 1, 1) by decide +kernel) rfl (by decide) (show decode cL_share (13 + 1) = .ok (.ireturn, 1) by decide +kernel)
    | 1, hL, hq =>
      obtain rfl : eIB.1 = E := congrArg Prod.fst (Option.some.inj hL)
      refine vx_catch (name := eIB.1) hown [⟨0, 9, 12, 38⟩] ⟨0, 9, 15, 25⟩ [] (by rw [tb]; rfl) (fun z hz => by obtain rfl := List.mem_singleton.mp hz; exact Or.inr ⟨by decide, eIS.1, hts _ (by decide +kernel), hNX.2 eIB (by decide +kernel) eIS (by decide +kernel) (by decide +kernel)⟩) (by decide) (by decide) (hts _ (by decide +kernel)) (va_Nw.use rfl (hNX.1 eIB (by decide +kernel))) hc1 hc2 hc3 ?_
      refine lv_astore_n hx hb (show decode cL_share 15 = .ok (.astore_n 3, 1) by decide +kernel) rfl hl (by decide) rfl (fun ls2 hl2 => ?_)
      exact hx_end (k := 2) (z := 0) hx hb hr hlocks hPj hS1 hq (fun h => absurd h (by decide)) (show decode cL_share 16 = .ok (.iconst 2, 1) by decide +kernel) rfl (by decide) (show decode cL_share (16 + 1) = .ok (.ireturn, 1) by decide +kernel)
    | n9 + 2, hL, _ => exact absurd hL (by simp)
set_option maxRecDepth 100000 in
set_option maxHeartbeats 4000000 in
theorem hp_tied {a : Int} (hlt : l.stackTraces = false) (h9 : XI σ Dn Pn) (ha9 : in32 a) : HOk yL_tied cL_tied 4 [(0, 16, 19, 38), (0, 16, 22, 25)] l D ad ao cI cJ [.ref (ad 0), .int (Int32.ofInt a), .ref ao] σ o (fun k z σ' => rTied σ Dn Pn a k z σ') Gz := by
  intro sz
  refine va_MetW (cc := cL_tied) (maxL := 4) (ret := some .int) (by decide) rfl ?_
  intro p e s m args below meth c s₁ B hml hv
  obtain ⟨rfl, hsz, hP, hK, hD0, hKX, hNX⟩ := hv
  subst hsz
  obtain ⟨hx, hb, hr, hlocks, hts0⟩ := hx_B B
  have hts : ∀ w ∈ WA, w.before _ s = true := fun w hw => hts0 w (List.mem_cons_of_mem _ hw)
  have hown : s.vm.findClass RL = some m.cls := findClass_of_methodNamed B.named
  have tb := vx_table (x := yL_district) B (hts0 _ List.mem_cons_self)
  have hl := lv_entry [.ref (ad 0), .int (Int32.ofInt a), .ref ao] (n := 4) (Nat.le_of_ble_eq_true rfl)
  rw [lg_entry_eq]
  generalize (lg_sl ([.ref (ad 0), .int (Int32.ofInt a), .ref ao]) ++ List.replicate (4 - (lg_sl ([.ref (ad 0), .int (Int32.ofInt a), .ref ao])).length) Slot.unset).toArray = ls at hl ⊢
  have hl : lv_has ls 4 [(0, .ref (ad 0)), (1, .int (Int32.ofInt a)), (2, .ref ao)] := hl
  refine lv_aload_n hx hb (show decode cL_tied 0 = .ok (.aload_n 2, 1) by decide +kernel) rfl (lv_at hl 2 rfl) ?_
  refine lv_iconst (v := 0) hx hb (show decode cL_tied 1 = .ok (.iconst 0, 1) by decide +kernel) (by decide) ?_
  refine lv_aload_n hx hb (show decode cL_tied 2 = .ok (.aload_n 0, 1) by decide +kernel) rfl (lv_at hl 0 rfl) ?_
  refine lv_iload_n hx hb (show decode cL_tied 3 = .ok (.iload_n 1, 1) by decide +kernel) rfl (lv_at hl 1 rfl) ?_
  refine hx_call [vi a] [.int 0, .ref ao] (ix := 40) (n := 1) (maxL := 4) (A1 := va_A (cw ad cI cJ SX σ) s.heap.size) (A0 := va_A (wXO ad ao cI cJ σ o) s.heap.size) (H0 := s.heap) hlt hx hb hml hown hts hK hKX.1 (hx_U hKX).1 (hx_U hKX).2 (va_P_app hP).1 ((va_D_app hD0).1.self) va_S.rf hx_A hl.1 (okx_tied h9 ha9) (by decide +kernel) rfl (show decode cL_tied 4 = .ok (.invokevirtual 40, 3) by decide +kernel) (Nat.le_of_ble_eq_true rfl) ⟨Nat.le_of_ble_eq_true rfl, Nat.le_of_ble_eq_true rfl, Nat.le_refl _, Nat.le_refl _⟩ ?_ ?_
  · intro v σ' H1 locs1 hq hP1 hz hk hS1
    obtain ⟨z, rfl, hq⟩ := hq
    have hPj := hx_join hP hD0 hP1 hk
    refine lv_if_eq (tgt := 14) hx hb (show decode cL_tied 7 = .ok (.ifCond .eq 7, 3) by decide +kernel) (by decide) (fun hc => ?_) (fun hc => ?_)
    · refine lv_lconst (v := 0) hx hb (show decode cL_tied 14 = .ok (.lconst 0, 1) by decide +kernel) rfl ?_
      refine hx_last hx hb hK hD0 hPj hS1 (show decode cL_tied 15 = .ok (.lastore, 1) by decide +kernel) (fun H2 locs2 o2 ho2 hP2 hS2 => ?_)
      refine lv_goto (tgt := 25) hx hb (show decode cL_tied 16 = .ok (.goto 9, 3) by decide +kernel) (by decide) ?_
      exact hx_end (k := 0) (z := z) hx hb hr hlocks hP2 hS2 hq (fun _ => by show _ = if _ then _ else _; rw [if_pos hc]; exact ho2) (show decode cL_tied 25 = .ok (.iconst 0, 1) by decide +kernel) rfl (by decide) (show decode cL_tied (25 + 1) = .ok (.ireturn, 1) by decide +kernel)
    · refine lv_lconst (v := 1) hx hb (show decode cL_tied 10 = .ok (.lconst 1, 1) by decide +kernel) rfl ?_
      refine lv_goto (tgt := 15) hx hb (show decode cL_tied 11 = .ok (.goto 4, 3) by decide +kernel) (by decide) ?_
      refine hx_last hx hb hK hD0 hPj hS1 (show decode cL_tied 15 = .ok (.lastore, 1) by decide +kernel) (fun H2 locs2 o2 ho2 hP2 hS2 => ?_)
      refine lv_goto (tgt := 25) hx hb (show decode cL_tied 16 = .ok (.goto 9, 3) by decide +kernel) (by decide) ?_
      exact hx_end (k := 0) (z := z) hx hb hr hlocks hP2 hS2 hq (fun _ => by show _ = if _ then _ else _; rw [if_neg hc]; exact ho2) (show decode cL_tied 25 = .ok (.iconst 0, 1) by decide +kernel) rfl (by decide) (show decode cL_tied (25 + 1) = .ok (.ireturn, 1) by decide +kernel)
  · intro E ik ic σ' H1 locs1 ce q9 hq hP1 hz hk hS1 hc1 hc2 hc3
    have hPj := hx_join hP hD0 hP1 hk
    obtain ⟨n9, hL, hq⟩ := hq
    match n9, hL, hq with
    | 0, hL, hq =>
      obtain rfl : eIS.1 = E := congrArg Prod.fst (Option.some.inj hL)
      refine vx_catch (name := eIS.1) hown [] ⟨0, 16, 19, 38⟩ [⟨0, 16, 22, 25⟩] (by rw [tb]; rfl) (fun z hz => absurd hz List.not_mem_nil) (by decide) (by decide) (hts _ (by decide +kernel)) (va_Nw.use rfl (hNX.1 eIS (by decide +kernel))) hc1 hc2 hc3 ?_
      refine lv_astore_n hx hb (show decode cL_tied 19 = .ok (.astore_n 3, 1) by decide +kernel) rfl hl (by decide) rfl (fun ls2 hl2 => ?_)
      exact hx_end (k := 1) (z := 0) hx hb hr hlocks hPj hS1 hq (fun h => absurd h (by decide)) (show decode cL_tied 20 = .ok (.iconst 1, 1) by decide +kernel) rfl (by decide) (show decode cL_tied (20 + 1) = .ok (.ireturn, 1) by decide +kernel)
    | 1, hL, hq =>
      obtain rfl : eIB.1 = E := congrArg Prod.fst (Option.some.inj hL)
      refine vx_catch (name := eIB.1) hown [⟨0, 16, 19, 38⟩] ⟨0, 16, 22, 25⟩ [] (by rw [tb]; rfl) (fun z hz => by obtain rfl := List.mem_singleton.mp hz; exact Or.inr ⟨by decide, eIS.1, hts _ (by decide +kernel), hNX.2 eIB (by decide +kernel) eIS (by decide +kernel) (by decide +kernel)⟩) (by decide) (by decide) (hts _ (by decide +kernel)) (va_Nw.use rfl (hNX.1 eIB (by decide +kernel))) hc1 hc2 hc3 ?_
      refine lv_astore_n hx hb (show decode cL_tied 22 = .ok (.astore_n 3, 1) by decide +kernel) rfl hl (by decide) rfl (fun ls2 hl2 => ?_)
      exact hx_end (k := 2) (z := 0) hx hb hr hlocks hPj hS1 hq (fun h => absurd h (by decide)) (show decode cL_tied 23 = .ok (.iconst 2, 1) by decide +kernel) rfl (by decide) (show decode cL_tied (23 + 1) = .ok (.ireturn, 1) by decide +kernel)
    | n9 + 2, hL, _ => exact absurd hL (by simp)
set_option maxRecDepth 100000 in
set_option maxHeartbeats 4000000 in
theorem hp_solve  (hlt : l.stackTraces = false) (h9 : XI σ Dn Pn) : HOk yL_solve cL_solve 3 [(0, 15, 18, 38)] l D ad ao cI cJ [.ref (ad 0), .ref ao] σ o (fun k z σ' => rSolve σ Dn Pn k z σ') Gz := by
  intro sz
  refine va_MetW (cc := cL_solve) (maxL := 3) (ret := some .int) (by decide) rfl ?_
  intro p e s m args below meth c s₁ B hml hv
  obtain ⟨rfl, hsz, hP, hK, hD0, hKX, hNX⟩ := hv
  subst hsz
  obtain ⟨hx, hb, hr, hlocks, hts0⟩ := hx_B B
  have hts : ∀ w ∈ WA, w.before _ s = true := fun w hw => hts0 w (List.mem_cons_of_mem _ hw)
  have hown : s.vm.findClass RL = some m.cls := findClass_of_methodNamed B.named
  have tb := vx_table (x := yL_district) B (hts0 _ List.mem_cons_self)
  have hl := lv_entry [.ref (ad 0), .ref ao] (n := 3) (Nat.le_of_ble_eq_true rfl)
  rw [lg_entry_eq]
  generalize (lg_sl ([.ref (ad 0), .ref ao]) ++ List.replicate (3 - (lg_sl ([.ref (ad 0), .ref ao])).length) Slot.unset).toArray = ls at hl ⊢
  have hl : lv_has ls 3 [(0, .ref (ad 0)), (1, .ref ao)] := hl
  refine lv_aload_n hx hb (show decode cL_solve 0 = .ok (.aload_n 1, 1) by decide +kernel) rfl (lv_at hl 1 rfl) ?_
  refine lv_iconst (v := 0) hx hb (show decode cL_solve 1 = .ok (.iconst 0, 1) by decide +kernel) (by decide) ?_
  refine lv_aload_n hx hb (show decode cL_solve 2 = .ok (.aload_n 0, 1) by decide +kernel) rfl (lv_at hl 0 rfl) ?_
  refine hx_call [] [.int 0, .ref ao] (ix := 44) (n := 0) (maxL := 3) (A1 := va_A (cw ad cI cJ SX σ) s.heap.size) (A0 := va_A (wXO ad ao cI cJ σ o) s.heap.size) (H0 := s.heap) hlt hx hb hml hown hts hK hKX.1 (hx_U hKX).1 (hx_U hKX).2 (va_P_app hP).1 ((va_D_app hD0).1.self) va_S.rf hx_A hl.1 (okx_solve h9) (by decide +kernel) rfl (show decode cL_solve 3 = .ok (.invokevirtual 44, 3) by decide +kernel) (Nat.le_of_ble_eq_true rfl) ⟨Nat.le_of_ble_eq_true rfl, Nat.le_of_ble_eq_true rfl, Nat.le_refl _, Nat.le_refl _⟩ ?_ ?_
  · intro v σ' H1 locs1 hq hP1 hz hk hS1
    obtain ⟨z, rfl, hq⟩ := hq
    have hPj := hx_join hP hD0 hP1 hk
    refine lv_if_eq (tgt := 13) hx hb (show decode cL_solve 6 = .ok (.ifCond .eq 7, 3) by decide +kernel) (by decide) (fun hc => ?_) (fun hc => ?_)
    · refine lv_lconst (v := 0) hx hb (show decode cL_solve 13 = .ok (.lconst 0, 1) by decide +kernel) rfl ?_
      refine hx_last hx hb hK hD0 hPj hS1 (show decode cL_solve 14 = .ok (.lastore, 1) by decide +kernel) (fun H2 locs2 o2 ho2 hP2 hS2 => ?_)
      refine lv_goto (tgt := 21) hx hb (show decode cL_solve 15 = .ok (.goto 6, 3) by decide +kernel) (by decide) ?_
      exact hx_end (k := 0) (z := z) hx hb hr hlocks hP2 hS2 hq (fun _ => by show _ = if _ then _ else _; rw [if_pos hc]; exact ho2) (show decode cL_solve 21 = .ok (.iconst 0, 1) by decide +kernel) rfl (by decide) (show decode cL_solve (21 + 1) = .ok (.ireturn, 1) by decide +kernel)
    · refine lv_lconst (v := 1) hx hb (show decode cL_solve 9 = .ok (.lconst 1, 1) by decide +kernel) rfl ?_
      refine lv_goto (tgt := 14) hx hb (show decode cL_solve 10 = .ok (.goto 4, 3) by decide +kernel) (by decide) ?_
      refine hx_last hx hb hK hD0 hPj hS1 (show decode cL_solve 14 = .ok (.lastore, 1) by decide +kernel) (fun H2 locs2 o2 ho2 hP2 hS2 => ?_)
      refine lv_goto (tgt := 21) hx hb (show decode cL_solve 15 = .ok (.goto 6, 3) by decide +kernel) (by decide) ?_
      exact hx_end (k := 0) (z := z) hx hb hr hlocks hP2 hS2 hq (fun _ => by show _ = if _ then _ else _; rw [if_neg hc]; exact ho2) (show decode cL_solve 21 = .ok (.iconst 0, 1) by decide +kernel) rfl (by decide) (show decode cL_solve (21 + 1) = .ok (.ireturn, 1) by decide +kernel)
  · intro E ik ic σ' H1 locs1 ce q9 hq hP1 hz hk hS1 hc1 hc2 hc3
    have hPj := hx_join hP hD0 hP1 hk
    obtain ⟨n9, hL, hq⟩ := hq
    match n9, hL, hq with
    | 0, hL, hq =>
      obtain rfl : eIS.1 = E := congrArg Prod.fst (Option.some.inj hL)
      refine vx_catch (name := eIS.1) hown [] ⟨0, 15, 18, 38⟩ [] (by rw [tb]; rfl) (fun z hz => absurd hz List.not_mem_nil) (by decide) (by decide) (hts _ (by decide +kernel)) (va_Nw.use rfl (hNX.1 eIS (by decide +kernel))) hc1 hc2 hc3 ?_
      refine lv_astore_n hx hb (show decode cL_solve 18 = .ok (.astore_n 2, 1) by decide +kernel) rfl hl (by decide) rfl (fun ls2 hl2 => ?_)
      exact hx_end (k := 1) (z := 0) hx hb hr hlocks hPj hS1 hq (fun h => absurd h (by decide)) (show decode cL_solve 19 = .ok (.iconst 1, 1) by decide +kernel) rfl (by decide) (show decode cL_solve (19 + 1) = .ok (.ireturn, 1) by decide +kernel)
    | n9 + 1, hL, _ => exact absurd hL (by simp)
set_option maxRecDepth 100000 in
set_option maxHeartbeats 4000000 in
theorem hp_seats {a b w : Int} (hlt : l.stackTraces = false) (h9 : XI σ Dn Pn) (ha9 : in32 a) (hb9 : in32 b) (hw9 : w = 0 ∨ w = 1) : HOk yL_seats cL_seats 6 [(0, 12, 15, 38), (0, 12, 19, 25)] l D ad ao cI cJ [.ref (ad 0), .int (Int32.ofInt a), .int (Int32.ofInt b), .int (Int32.ofInt w), .ref ao] σ o (fun k z σ' => rSeats σ Dn Pn a b w k z σ') Gi := by
  intro sz
  refine va_MetW (cc := cL_seats) (maxL := 6) (ret := some .int) (by decide) rfl ?_
  intro p e s m args below meth c s₁ B hml hv
  obtain ⟨rfl, hsz, hP, hK, hD0, hKX, hNX⟩ := hv
  subst hsz
  obtain ⟨hx, hb, hr, hlocks, hts0⟩ := hx_B B
  have hts : ∀ w ∈ WA, w.before _ s = true := fun w hw => hts0 w (List.mem_cons_of_mem _ hw)
  have hown : s.vm.findClass RL = some m.cls := findClass_of_methodNamed B.named
  have tb := vx_table (x := yL_district) B (hts0 _ List.mem_cons_self)
  have hl := lv_entry [.ref (ad 0), .int (Int32.ofInt a), .int (Int32.ofInt b), .int (Int32.ofInt w), .ref ao] (n := 6) (Nat.le_of_ble_eq_true rfl)
  rw [lg_entry_eq]
  generalize (lg_sl ([.ref (ad 0), .int (Int32.ofInt a), .int (Int32.ofInt b), .int (Int32.ofInt w), .ref ao]) ++ List.replicate (6 - (lg_sl ([.ref (ad 0), .int (Int32.ofInt a), .int (Int32.ofInt b), .int (Int32.ofInt w), .ref ao])).length) Slot.unset).toArray = ls at hl ⊢
  have hl : lv_has ls 6 [(0, .ref (ad 0)), (1, .int (Int32.ofInt a)), (2, .int (Int32.ofInt b)), (3, .int (Int32.ofInt w)), (4, .ref ao)] := hl
  refine lv_aload hx hb (show decode cL_seats 0 = .ok (.aload 4, 2) by decide +kernel) (lv_at hl 4 rfl) ?_
  refine lv_iconst (v := 0) hx hb (show decode cL_seats 2 = .ok (.iconst 0, 1) by decide +kernel) (by decide) ?_
  refine lv_aload_n hx hb (show decode cL_seats 3 = .ok (.aload_n 0, 1) by decide +kernel) rfl (lv_at hl 0 rfl) ?_
  refine lv_iload_n hx hb (show decode cL_seats 4 = .ok (.iload_n 1, 1) by decide +kernel) rfl (lv_at hl 1 rfl) ?_
  refine lv_iload_n hx hb (show decode cL_seats 5 = .ok (.iload_n 2, 1) by decide +kernel) rfl (lv_at hl 2 rfl) ?_
  refine lv_iload_n hx hb (show decode cL_seats 6 = .ok (.iload_n 3, 1) by decide +kernel) rfl (lv_at hl 3 rfl) ?_
  refine hx_call [vi a, vi b, vi w] [.int 0, .ref ao] (ix := 48) (n := 3) (maxL := 6) (A1 := va_A (cw ad cI cJ SX σ) s.heap.size) (A0 := va_A (wXO ad ao cI cJ σ o) s.heap.size) (H0 := s.heap) hlt hx hb hml hown hts hK hKX.1 (hx_U hKX).1 (hx_U hKX).2 (va_P_app hP).1 ((va_D_app hD0).1.self) va_S.rf hx_A hl.1 (okx_seats h9 ha9 hb9 hw9) (by decide +kernel) rfl (show decode cL_seats 7 = .ok (.invokevirtual 48, 3) by decide +kernel) (Nat.le_of_ble_eq_true rfl) ⟨Nat.le_of_ble_eq_true rfl, Nat.le_of_ble_eq_true rfl, Nat.le_refl _, Nat.le_refl _⟩ ?_ ?_
  · intro v σ' H1 locs1 hq hP1 hz hk hS1
    obtain ⟨z, rfl, hq⟩ := hq
    have hPj := hx_join hP hD0 hP1 hk
    refine lv_i2l hx hb (show decode cL_seats 10 = .ok (.i2l, 1) by decide +kernel) rfl ?_
    refine hx_last hx hb hK hD0 hPj hS1 (show decode cL_seats 11 = .ok (.lastore, 1) by decide +kernel) (fun H2 locs2 o2 ho2 hP2 hS2 => ?_)
    refine lv_goto (tgt := 23) hx hb (show decode cL_seats 12 = .ok (.goto 11, 3) by decide +kernel) (by decide) ?_
    exact hx_end (k := 0) (z := z) hx hb hr hlocks hP2 hS2 hq (fun _ => ho2) (show decode cL_seats 23 = .ok (.iconst 0, 1) by decide +kernel) rfl (by decide) (show decode cL_seats (23 + 1) = .ok (.ireturn, 1) by decide +kernel)
  · intro E ik ic σ' H1 locs1 ce q9 hq hP1 hz hk hS1 hc1 hc2 hc3
    have hPj := hx_join hP hD0 hP1 hk
    obtain ⟨n9, hL, hq⟩ := hq
    match n9, hL, hq with
    | 0, hL, hq =>
      obtain rfl : eIS.1 = E := congrArg Prod.fst (Option.some.inj hL)
      refine vx_catch (name := eIS.1) hown [] ⟨0, 12, 15, 38⟩ [⟨0, 12, 19, 25⟩] (by rw [tb]; rfl) (fun z hz => absurd hz List.not_mem_nil) (by decide) (by decide) (hts _ (by decide +kernel)) (va_Nw.use rfl (hNX.1 eIS (by decide +kernel))) hc1 hc2 hc3 ?_
      refine lv_astore hx hb (show decode cL_seats 15 = .ok (.astore 5, 2) by decide +kernel) hl (by decide) rfl (fun ls2 hl2 => ?_)
      exact hx_end (k := 1) (z := 0) hx hb hr hlocks hPj hS1 hq (fun h => absurd h (by decide)) (show decode cL_seats 17 = .ok (.iconst 1, 1) by decide +kernel) rfl (by decide) (show decode cL_seats (17 + 1) = .ok (.ireturn, 1) by decide +kernel)
    | 1, hL, hq =>
      obtain rfl : eIB.1 = E := congrArg Prod.fst (Option.some.inj hL)
      refine vx_catch (name := eIB.1) hown [⟨0, 12, 15, 38⟩] ⟨0, 12, 19, 25⟩ [] (by rw [tb]; rfl) (fun z hz => by obtain rfl := List.mem_singleton.mp hz; exact Or.inr ⟨by decide, eIS.1, hts _ (by decide +kernel), hNX.2 eIB (by decide +kernel) eIS (by decide +kernel) (by decide +kernel)⟩) (by decide) (by decide) (hts _ (by decide +kernel)) (va_Nw.use rfl (hNX.1 eIB (by decide +kernel))) hc1 hc2 hc3 ?_
      refine lv_astore hx hb (show decode cL_seats 19 = .ok (.astore 5, 2) by decide +kernel) hl (by decide) rfl (fun ls2 hl2 => ?_)
      exact hx_end (k := 2) (z := 0) hx hb hr hlocks hPj hS1 hq (fun h => absurd h (by decide)) (show decode cL_seats 21 = .ok (.iconst 2, 1) by decide +kernel) rfl (by decide) (show decode cL_seats (21 + 1) = .ok (.ireturn, 1) by decide +kernel)
    | n9 + 2, hL, _ => exact absurd hL (by simp)
set_option maxRecDepth 100000 in
set_option maxHeartbeats 4000000 in
theorem hp_unique  (hlt : l.stackTraces = false) (h9 : XI σ Dn Pn) : HOk yL_unique cL_unique 3 [(0, 15, 18, 38)] l D ad ao cI cJ [.ref (ad 0), .ref ao] σ o (fun k z σ' => rUnique σ k z σ') Gz := by
  intro sz
  refine va_MetW (cc := cL_unique) (maxL := 3) (ret := some .int) (by decide) rfl ?_
  intro p e s m args below meth c s₁ B hml hv
  obtain ⟨rfl, hsz, hP, hK, hD0, hKX, hNX⟩ := hv
  subst hsz
  obtain ⟨hx, hb, hr, hlocks, hts0⟩ := hx_B B
  have hts : ∀ w ∈ WA, w.before _ s = true := fun w hw => hts0 w (List.mem_cons_of_mem _ hw)
  have hown : s.vm.findClass RL = some m.cls := findClass_of_methodNamed B.named
  have tb := vx_table (x := yL_district) B (hts0 _ List.mem_cons_self)
  have hl := lv_entry [.ref (ad 0), .ref ao] (n := 3) (Nat.le_of_ble_eq_true rfl)
  rw [lg_entry_eq]
  generalize (lg_sl ([.ref (ad 0), .ref ao]) ++ List.replicate (3 - (lg_sl ([.ref (ad 0), .ref ao])).length) Slot.unset).toArray = ls at hl ⊢
  have hl : lv_has ls 3 [(0, .ref (ad 0)), (1, .ref ao)] := hl
  refine lv_aload_n hx hb (show decode cL_unique 0 = .ok (.aload_n 1, 1) by decide +kernel) rfl (lv_at hl 1 rfl) ?_
  refine lv_iconst (v := 0) hx hb (show decode cL_unique 1 = .ok (.iconst 0, 1) by decide +kernel) (by decide) ?_
  refine lv_aload_n hx hb (show decode cL_unique 2 = .ok (.aload_n 0, 1) by decide +kernel) rfl (lv_at hl 0 rfl) ?_
  refine hx_call [] [.int 0, .ref ao] (ix := 52) (n := 0) (maxL := 3) (A1 := va_A (cw ad cI cJ SX σ) s.heap.size) (A0 := va_A (wXO ad ao cI cJ σ o) s.heap.size) (H0 := s.heap) hlt hx hb hml hown hts hK hKX.1 (hx_U hKX).1 (hx_U hKX).2 (va_P_app hP).1 ((va_D_app hD0).1.self) va_S.rf hx_A hl.1 (okx_unique h9) (by decide +kernel) rfl (show decode cL_unique 3 = .ok (.invokevirtual 52, 3) by decide +kernel) (Nat.le_of_ble_eq_true rfl) ⟨Nat.le_of_ble_eq_true rfl, Nat.le_of_ble_eq_true rfl, Nat.le_refl _, Nat.le_refl _⟩ ?_ ?_
  · intro v σ' H1 locs1 hq hP1 hz hk hS1
    obtain ⟨z, rfl, hq⟩ := hq
    have hPj := hx_join hP hD0 hP1 hk
    refine lv_if_eq (tgt := 13) hx hb (show decode cL_unique 6 = .ok (.ifCond .eq 7, 3) by decide +kernel) (by decide) (fun hc => ?_) (fun hc => ?_)
    · refine lv_lconst (v := 0) hx hb (show decode cL_unique 13 = .ok (.lconst 0, 1) by decide +kernel) rfl ?_
      refine hx_last hx hb hK hD0 hPj hS1 (show decode cL_unique 14 = .ok (.lastore, 1) by decide +kernel) (fun H2 locs2 o2 ho2 hP2 hS2 => ?_)
      refine lv_goto (tgt := 21) hx hb (show decode cL_unique 15 = .ok (.goto 6, 3) by decide +kernel) (by decide) ?_
      exact hx_end (k := 0) (z := z) hx hb hr hlocks hP2 hS2 hq (fun _ => by show _ = if _ then _ else _; rw [if_pos hc]; exact ho2) (show decode cL_unique 21 = .ok (.iconst 0, 1) by decide +kernel) rfl (by decide) (show decode cL_unique (21 + 1) = .ok (.ireturn, 1) by decide +kernel)
    · refine lv_lconst (v := 1) hx hb (show decode cL_unique 9 = .ok (.lconst 1, 1) by decide +kernel) rfl ?_
      refine lv_goto (tgt := 14) hx hb (show decode cL_unique 10 = .ok (.goto 4, 3) by decide +kernel) (by decide) ?_
      refine hx_last hx hb hK hD0 hPj hS1 (show decode cL_unique 14 = .ok (.lastore, 1) by decide +kernel) (fun H2 locs2 o2 ho2 hP2 hS2 => ?_)
      refine lv_goto (tgt := 21) hx hb (show decode cL_unique 15 = .ok (.goto 6, 3) by decide +kernel) (by decide) ?_
      exact hx_end (k := 0) (z := z) hx hb hr hlocks hP2 hS2 hq (fun _ => by show _ = if _ then _ else _; rw [if_neg hc]; exact ho2) (show decode cL_unique 21 = .ok (.iconst 0, 1) by decide +kernel) rfl (by decide) (show decode cL_unique (21 + 1) = .ok (.ireturn, 1) by decide +kernel)
  · intro E ik ic σ' H1 locs1 ce q9 hq hP1 hz hk hS1 hc1 hc2 hc3
    have hPj := hx_join hP hD0 hP1 hk
    obtain ⟨n9, hL, hq⟩ := hq
    match n9, hL, hq with
    | 0, hL, hq =>
      obtain rfl : eIS.1 = E := congrArg Prod.fst (Option.some.inj hL)
      refine vx_catch (name := eIS.1) hown [] ⟨0, 15, 18, 38⟩ [] (by rw [tb]; rfl) (fun z hz => absurd hz List.not_mem_nil) (by decide) (by decide) (hts _ (by decide +kernel)) (va_Nw.use rfl (hNX.1 eIS (by decide +kernel))) hc1 hc2 hc3 ?_
      refine lv_astore_n hx hb (show decode cL_unique 18 = .ok (.astore_n 2, 1) by decide +kernel) rfl hl (by decide) rfl (fun ls2 hl2 => ?_)
      exact hx_end (k := 1) (z := 0) hx hb hr hlocks hPj hS1 hq (fun h => absurd h (by decide)) (show decode cL_unique 19 = .ok (.iconst 1, 1) by decide +kernel) rfl (by decide) (show decode cL_unique (19 + 1) = .ok (.ireturn, 1) by decide +kernel)
    | n9 + 1, hL, _ => exact absurd hL (by simp)
set_option maxRecDepth 100000 in
set_option maxHeartbeats 4000000 in
theorem hp_number {b a w : Int} (hlt : l.stackTraces = false) (h9 : XI σ Dn Pn) (hb9 : b = 0 ∨ b = 1) (ha9 : in32 a) (hw9 : w = 0 ∨ w = 1) : HOk yL_number cL_number 6 [(0, 11, 14, 38), (0, 11, 18, 25), (0, 11, 22, 59)] l D ad ao cI cJ [.ref (ad 0), .int (Int32.ofInt b), .int (Int32.ofInt a), .int (Int32.ofInt w), .ref ao] σ o (fun k z σ' => rNumber σ b a w k z σ') Gl := by
  intro sz
  refine va_MetW (cc := cL_number) (maxL := 6) (ret := some .int) (by decide) rfl ?_
  intro p e s m args below meth c s₁ B hml hv
  obtain ⟨rfl, hsz, hP, hK, hD0, hKX, hNX⟩ := hv
  subst hsz
  obtain ⟨hx, hb, hr, hlocks, hts0⟩ := hx_B B
  have hts : ∀ w ∈ WA, w.before _ s = true := fun w hw => hts0 w (List.mem_cons_of_mem _ hw)
  have hown : s.vm.findClass RL = some m.cls := findClass_of_methodNamed B.named
  have tb := vx_table (x := yL_district) B (hts0 _ List.mem_cons_self)
  have hl := lv_entry [.ref (ad 0), .int (Int32.ofInt b), .int (Int32.ofInt a), .int (Int32.ofInt w), .ref ao] (n := 6) (Nat.le_of_ble_eq_true rfl)
  rw [lg_entry_eq]
  generalize (lg_sl ([.ref (ad 0), .int (Int32.ofInt b), .int (Int32.ofInt a), .int (Int32.ofInt w), .ref ao]) ++ List.replicate (6 - (lg_sl ([.ref (ad 0), .int (Int32.ofInt b), .int (Int32.ofInt a), .int (Int32.ofInt w), .ref ao])).length) Slot.unset).toArray = ls at hl ⊢
  have hl : lv_has ls 6 [(0, .ref (ad 0)), (1, .int (Int32.ofInt b)), (2, .int (Int32.ofInt a)), (3, .int (Int32.ofInt w)), (4, .ref ao)] := hl
  refine lv_aload hx hb (show decode cL_number 0 = .ok (.aload 4, 2) by decide +kernel) (lv_at hl 4 rfl) ?_
  refine lv_iconst (v := 0) hx hb (show decode cL_number 2 = .ok (.iconst 0, 1) by decide +kernel) (by decide) ?_
  refine lv_aload_n hx hb (show decode cL_number 3 = .ok (.aload_n 0, 1) by decide +kernel) rfl (lv_at hl 0 rfl) ?_
  refine lv_iload_n hx hb (show decode cL_number 4 = .ok (.iload_n 1, 1) by decide +kernel) rfl (lv_at hl 1 rfl) ?_
  refine lv_iload_n hx hb (show decode cL_number 5 = .ok (.iload_n 2, 1) by decide +kernel) rfl (lv_at hl 2 rfl) ?_
  refine lv_iload_n hx hb (show decode cL_number 6 = .ok (.iload_n 3, 1) by decide +kernel) rfl (lv_at hl 3 rfl) ?_
  refine hx_call [vi b, vi a, vi w] [.int 0, .ref ao] (ix := 55) (n := 3) (maxL := 6) (A1 := va_A (cw ad cI cJ SX σ) s.heap.size) (A0 := va_A (wXO ad ao cI cJ σ o) s.heap.size) (H0 := s.heap) hlt hx hb hml hown hts hK hKX.1 (hx_U hKX).1 (hx_U hKX).2 (va_P_app hP).1 ((va_D_app hD0).1.self) va_S.rf hx_A hl.1 (okx_number h9 hb9 ha9 hw9) (by decide +kernel) rfl (show decode cL_number 7 = .ok (.invokevirtual 55, 3) by decide +kernel) (Nat.le_of_ble_eq_true rfl) ⟨Nat.le_of_ble_eq_true rfl, Nat.le_of_ble_eq_true rfl, Nat.le_refl _, Nat.le_refl _⟩ ?_ ?_
  · intro v σ' H1 locs1 hq hP1 hz hk hS1
    obtain ⟨z, rfl, hq⟩ := hq
    have hPj := hx_join hP hD0 hP1 hk
    refine hx_last hx hb hK hD0 hPj hS1 (show decode cL_number 10 = .ok (.lastore, 1) by decide +kernel) (fun H2 locs2 o2 ho2 hP2 hS2 => ?_)
    refine lv_goto (tgt := 26) hx hb (show decode cL_number 11 = .ok (.goto 15, 3) by decide +kernel) (by decide) ?_
    exact hx_end (k := 0) (z := z) hx hb hr hlocks hP2 hS2 hq (fun _ => ho2) (show decode cL_number 26 = .ok (.iconst 0, 1) by decide +kernel) rfl (by decide) (show decode cL_number (26 + 1) = .ok (.ireturn, 1) by decide +kernel)
  · intro E ik ic σ' H1 locs1 ce q9 hq hP1 hz hk hS1 hc1 hc2 hc3
    have hPj := hx_join hP hD0 hP1 hk
    obtain ⟨n9, hL, hq⟩ := hq
    match n9, hL, hq with
    | 0, hL, hq =>
      obtain rfl : eIS.1 = E := congrArg Prod.fst (Option.some.inj hL)
      refine vx_catch (name := eIS.1) hown [] ⟨0, 11, 14, 38⟩ [⟨0, 11, 18, 25⟩, ⟨0, 11, 22, 59⟩] (by rw [tb]; rfl) (fun z hz => absurd hz List.not_mem_nil) (by decide) (by decide) (hts _ (by decide +kernel)) (va_Nw.use rfl (hNX.1 eIS (by decide +kernel))) hc1 hc2 hc3 ?_
      refine lv_astore hx hb (show decode cL_number 14 = .ok (.astore 5, 2) by decide +kernel) hl (by decide) rfl (fun ls2 hl2 => ?_)
      exact hx_end (k := 1) (z := 0) hx hb hr hlocks hPj hS1 hq (fun h => absurd h (by decide)) (show decode cL_number 16 = .ok (.iconst 1, 1) by decide +kernel) rfl (by decide) (show decode cL_number (16 + 1) = .ok (.ireturn, 1) by decide +kernel)
    | 1, hL, hq =>
      obtain rfl : eIB.1 = E := congrArg Prod.fst (Option.some.inj hL)
      refine vx_catch (name := eIB.1) hown [⟨0, 11, 14, 38⟩] ⟨0, 11, 18, 25⟩ [⟨0, 11, 22, 59⟩] (by rw [tb]; rfl) (fun z hz => by obtain rfl := List.mem_singleton.mp hz; exact Or.inr ⟨by decide, eIS.1, hts _ (by decide +kernel), hNX.2 eIB (by decide +kernel) eIS (by decide +kernel) (by decide +kernel)⟩) (by decide) (by decide) (hts _ (by decide +kernel)) (va_Nw.use rfl (hNX.1 eIB (by decide +kernel))) hc1 hc2 hc3 ?_
      refine lv_astore hx hb (show decode cL_number 18 = .ok (.astore 5, 2) by decide +kernel) hl (by decide) rfl (fun ls2 hl2 => ?_)
      exact hx_end (k := 2) (z := 0) hx hb hr hlocks hPj hS1 hq (fun h => absurd h (by decide)) (show decode cL_number 20 = .ok (.iconst 2, 1) by decide +kernel) rfl (by decide) (show decode cL_number (20 + 1) = .ok (.ireturn, 1) by decide +kernel)
    | 2, hL, hq =>
      obtain rfl : eNE.1 = E := congrArg Prod.fst (Option.some.inj hL)
      refine vx_catch (name := eNE.1) hown [⟨0, 11, 14, 38⟩, ⟨0, 11, 18, 25⟩] ⟨0, 11, 22, 59⟩ [] (by rw [tb]; rfl) (fun z hz => by rcases List.mem_cons.mp hz with rfl | hz; exact Or.inr ⟨by decide, eIS.1, hts _ (by decide +kernel), hNX.2 eNE (by decide +kernel) eIS (by decide +kernel) (by decide +kernel)⟩; obtain rfl := List.mem_singleton.mp hz; exact Or.inr ⟨by decide, eIB.1, hts _ (by decide +kernel), hNX.2 eNE (by decide +kernel) eIB (by decide +kernel) (by decide +kernel)⟩) (by decide) (by decide) (hts _ (by decide +kernel)) (va_Nw.use rfl (hNX.1 eNE (by decide +kernel))) hc1 hc2 hc3 ?_
      refine lv_astore hx hb (show decode cL_number 22 = .ok (.astore 5, 2) by decide +kernel) hl (by decide) rfl (fun ls2 hl2 => ?_)
      exact hx_end (k := 3) (z := 0) hx hb hr hlocks hPj hS1 hq (fun h => absurd h (by decide)) (show decode cL_number 24 = .ok (.iconst 3, 1) by decide +kernel) rfl (by decide) (show decode cL_number (24 + 1) = .ok (.ireturn, 1) by decide +kernel)
    | n9 + 3, hL, _ => exact absurd hL (by simp)
set_option maxRecDepth 100000 in
set_option maxHeartbeats 4000000 in
theorem hp_blocks {b a : Int} (hlt : l.stackTraces = false) (h9 : XI σ Dn Pn) (hb9 : b = 0 ∨ b = 1) (ha9 : in32 a) : HOk yL_blocks cL_blocks 5 [(0, 17, 20, 38), (0, 17, 24, 25)] l D ad ao cI cJ [.ref (ad 0), .int (Int32.ofInt b), .int (Int32.ofInt a), .ref ao] σ o (fun k z σ' => rBlocks σ Dn b a k z σ') Gz := by
  intro sz
  refine va_MetW (cc := cL_blocks) (maxL := 5) (ret := some .int) (by decide) rfl ?_
  intro p e s m args below meth c s₁ B hml hv
  obtain ⟨rfl, hsz, hP, hK, hD0, hKX, hNX⟩ := hv
  subst hsz
  obtain ⟨hx, hb, hr, hlocks, hts0⟩ := hx_B B
  have hts : ∀ w ∈ WA, w.before _ s = true := fun w hw => hts0 w (List.mem_cons_of_mem _ hw)
  have hown : s.vm.findClass RL = some m.cls := findClass_of_methodNamed B.named
  have tb := vx_table (x := yL_district) B (hts0 _ List.mem_cons_self)
  have hl := lv_entry [.ref (ad 0), .int (Int32.ofInt b), .int (Int32.ofInt a), .ref ao] (n := 5) (Nat.le_of_ble_eq_true rfl)
  rw [lg_entry_eq]
  generalize (lg_sl ([.ref (ad 0), .int (Int32.ofInt b), .int (Int32.ofInt a), .ref ao]) ++ List.replicate (5 - (lg_sl ([.ref (ad 0), .int (Int32.ofInt b), .int (Int32.ofInt a), .ref ao])).length) Slot.unset).toArray = ls at hl ⊢
  have hl : lv_has ls 5 [(0, .ref (ad 0)), (1, .int (Int32.ofInt b)), (2, .int (Int32.ofInt a)), (3, .ref ao)] := hl
  refine lv_aload_n hx hb (show decode cL_blocks 0 = .ok (.aload_n 3, 1) by decide +kernel) rfl (lv_at hl 3 rfl) ?_
  refine lv_iconst (v := 0) hx hb (show decode cL_blocks 1 = .ok (.iconst 0, 1) by decide +kernel) (by decide) ?_
  refine lv_aload_n hx hb (show decode cL_blocks 2 = .ok (.aload_n 0, 1) by decide +kernel) rfl (lv_at hl 0 rfl) ?_
  refine lv_iload_n hx hb (show decode cL_blocks 3 = .ok (.iload_n 1, 1) by decide +kernel) rfl (lv_at hl 1 rfl) ?_
  refine lv_iload_n hx hb (show decode cL_blocks 4 = .ok (.iload_n 2, 1) by decide +kernel) rfl (lv_at hl 2 rfl) ?_
  refine hx_call [vi b, vi a] [.int 0, .ref ao] (ix := 61) (n := 2) (maxL := 5) (A1 := va_A (cw ad cI cJ SX σ) s.heap.size) (A0 := va_A (wXO ad ao cI cJ σ o) s.heap.size) (H0 := s.heap) hlt hx hb hml hown hts hK hKX.1 (hx_U hKX).1 (hx_U hKX).2 (va_P_app hP).1 ((va_D_app hD0).1.self) va_S.rf hx_A hl.1 (okx_blocks h9 hb9 ha9) (by decide +kernel) rfl (show decode cL_blocks 5 = .ok (.invokevirtual 61, 3) by decide +kernel) (Nat.le_of_ble_eq_true rfl) ⟨Nat.le_of_ble_eq_true rfl, Nat.le_of_ble_eq_true rfl, Nat.le_refl _, Nat.le_refl _⟩ ?_ ?_
  · intro v σ' H1 locs1 hq hP1 hz hk hS1
    obtain ⟨z, rfl, hq⟩ := hq
    have hPj := hx_join hP hD0 hP1 hk
    refine lv_if_eq (tgt := 15) hx hb (show decode cL_blocks 8 = .ok (.ifCond .eq 7, 3) by decide +kernel) (by decide) (fun hc => ?_) (fun hc => ?_)
    · refine lv_lconst (v := 0) hx hb (show decode cL_blocks 15 = .ok (.lconst 0, 1) by decide +kernel) rfl ?_
      refine hx_last hx hb hK hD0 hPj hS1 (show decode cL_blocks 16 = .ok (.lastore, 1) by decide +kernel) (fun H2 locs2 o2 ho2 hP2 hS2 => ?_)
      refine lv_goto (tgt := 28) hx hb (show decode cL_blocks 17 = .ok (.goto 11, 3) by decide +kernel) (by decide) ?_
      exact hx_end (k := 0) (z := z) hx hb hr hlocks hP2 hS2 hq (fun _ => by show _ = if _ then _ else _; rw [if_pos hc]; exact ho2) (show decode cL_blocks 28 = .ok (.iconst 0, 1) by decide +kernel) rfl (by decide) (show decode cL_blocks (28 + 1) = .ok (.ireturn, 1) by decide +kernel)
    · refine lv_lconst (v := 1) hx hb (show decode cL_blocks 11 = .ok (.lconst 1, 1) by decide +kernel) rfl ?_
      refine lv_goto (tgt := 16) hx hb (show decode cL_blocks 12 = .ok (.goto 4, 3) by decide +kernel) (by decide) ?_
      refine hx_last hx hb hK hD0 hPj hS1 (show decode cL_blocks 16 = .ok (.lastore, 1) by decide +kernel) (fun H2 locs2 o2 ho2 hP2 hS2 => ?_)
      refine lv_goto (tgt := 28) hx hb (show decode cL_blocks 17 = .ok (.goto 11, 3) by decide +kernel) (by decide) ?_
      exact hx_end (k := 0) (z := z) hx hb hr hlocks hP2 hS2 hq (fun _ => by show _ = if _ then _ else _; rw [if_neg hc]; exact ho2) (show decode cL_blocks 28 = .ok (.iconst 0, 1) by decide +kernel) rfl (by decide) (show decode cL_blocks (28 + 1) = .ok (.ireturn, 1) by decide +kernel)
  · intro E ik ic σ' H1 locs1 ce q9 hq hP1 hz hk hS1 hc1 hc2 hc3
    have hPj := hx_join hP hD0 hP1 hk
    obtain ⟨n9, hL, hq⟩ := hq
    match n9, hL, hq with
    | 0, hL, hq =>
      obtain rfl : eIS.1 = E := congrArg Prod.fst (Option.some.inj hL)
      refine vx_catch (name := eIS.1) hown [] ⟨0, 17, 20, 38⟩ [⟨0, 17, 24, 25⟩] (by rw [tb]; rfl) (fun z hz => absurd hz List.not_mem_nil) (by decide) (by decide) (hts _ (by decide +kernel)) (va_Nw.use rfl (hNX.1 eIS (by decide +kernel))) hc1 hc2 hc3 ?_
      refine lv_astore hx hb (show decode cL_blocks 20 = .ok (.astore 4, 2) by decide +kernel) hl (by decide) rfl (fun ls2 hl2 => ?_)
      exact hx_end (k := 1) (z := 0) hx hb hr hlocks hPj hS1 hq (fun h => absurd h (by decide)) (show decode cL_blocks 22 = .ok (.iconst 1, 1) by decide +kernel) rfl (by decide) (show decode cL_blocks (22 + 1) = .ok (.ireturn, 1) by decide +kernel)
    | 1, hL, hq =>
      obtain rfl : eIB.1 = E := congrArg Prod.fst (Option.some.inj hL)
      refine vx_catch (name := eIB.1) hown [⟨0, 17, 20, 38⟩] ⟨0, 17, 24, 25⟩ [] (by rw [tb]; rfl) (fun z hz => by obtain rfl := List.mem_singleton.mp hz; exact Or.inr ⟨by decide, eIS.1, hts _ (by decide +kernel), hNX.2 eIB (by decide +kernel) eIS (by decide +kernel) (by decide +kernel)⟩) (by decide) (by decide) (hts _ (by decide +kernel)) (va_Nw.use rfl (hNX.1 eIB (by decide +kernel))) hc1 hc2 hc3 ?_
      refine lv_astore hx hb (show decode cL_blocks 24 = .ok (.astore 4, 2) by decide +kernel) hl (by decide) rfl (fun ls2 hl2 => ?_)
      exact hx_end (k := 2) (z := 0) hx hb hr hlocks hPj hS1 hq (fun h => absurd h (by decide)) (show decode cL_blocks 26 = .ok (.iconst 2, 1) by decide +kernel) rfl (by decide) (show decode cL_blocks (26 + 1) = .ok (.ireturn, 1) by decide +kernel)
    | n9 + 2, hL, _ => exact absurd hL (by simp)
set_option maxRecDepth 100000 in
set_option maxHeartbeats 4000000 in
theorem hp_propose {a b n : Int} (hlt : l.stackTraces = false) (h9 : XI σ Dn Pn) (ha9 : in32 a) (hb9 : in32 b) (hn9 : in32 n) : HOk yL_propose cL_propose 5 [(0, 7, 10, 25), (0, 7, 14, 13)] l D ad ao cI cJ [.ref (ad 0), .int (Int32.ofInt a), .int (Int32.ofInt b), .int (Int32.ofInt n)] σ o (fun k _ σ' => rPropose σ Dn Pn a b n k σ') Gv := by
  intro sz
  refine va_MetW (cc := cL_propose) (maxL := 5) (ret := some .int) (by decide) rfl ?_
  intro p e s m args below meth c s₁ B hml hv
  obtain ⟨rfl, hsz, hP, hK, hD0, hKX, hNX⟩ := hv
  subst hsz
  obtain ⟨hx, hb, hr, hlocks, hts0⟩ := hx_B B
  have hts : ∀ w ∈ WA, w.before _ s = true := fun w hw => hts0 w (List.mem_cons_of_mem _ hw)
  have hown : s.vm.findClass RL = some m.cls := findClass_of_methodNamed B.named
  have tb := vx_table (x := yL_district) B (hts0 _ List.mem_cons_self)
  have hl := lv_entry [.ref (ad 0), .int (Int32.ofInt a), .int (Int32.ofInt b), .int (Int32.ofInt n)] (n := 5) (Nat.le_of_ble_eq_true rfl)
  rw [lg_entry_eq]
  generalize (lg_sl ([.ref (ad 0), .int (Int32.ofInt a), .int (Int32.ofInt b), .int (Int32.ofInt n)]) ++ List.replicate (5 - (lg_sl ([.ref (ad 0), .int (Int32.ofInt a), .int (Int32.ofInt b), .int (Int32.ofInt n)])).length) Slot.unset).toArray = ls at hl ⊢
  have hl : lv_has ls 5 [(0, .ref (ad 0)), (1, .int (Int32.ofInt a)), (2, .int (Int32.ofInt b)), (3, .int (Int32.ofInt n))] := hl
  refine lv_aload_n hx hb (show decode cL_propose 0 = .ok (.aload_n 0, 1) by decide +kernel) rfl (lv_at hl 0 rfl) ?_
  refine lv_iload_n hx hb (show decode cL_propose 1 = .ok (.iload_n 1, 1) by decide +kernel) rfl (lv_at hl 1 rfl) ?_
  refine lv_iload_n hx hb (show decode cL_propose 2 = .ok (.iload_n 2, 1) by decide +kernel) rfl (lv_at hl 2 rfl) ?_
  refine lv_iload_n hx hb (show decode cL_propose 3 = .ok (.iload_n 3, 1) by decide +kernel) rfl (lv_at hl 3 rfl) ?_
  refine hx_call [vi a, vi b, vi n] [] (ix := 65) (n := 3) (maxL := 5) (A1 := va_A (cw ad cI cJ SX σ) s.heap.size) (A0 := va_A (wXO ad ao cI cJ σ o) s.heap.size) (H0 := s.heap) hlt hx hb hml hown hts hK hKX.1 (hx_U hKX).1 (hx_U hKX).2 (va_P_app hP).1 ((va_D_app hD0).1.self) va_S.rf hx_A hl.1 (okx_propose h9 ha9 hb9 hn9) (by decide +kernel) rfl (show decode cL_propose 4 = .ok (.invokevirtual 65, 3) by decide +kernel) (Nat.le_of_ble_eq_true rfl) ⟨Nat.le_of_ble_eq_true rfl, Nat.le_of_ble_eq_true rfl, Nat.le_refl _, Nat.le_refl _⟩ ?_ ?_
  · intro v σ' H1 locs1 hq hP1 hz hk hS1
    obtain ⟨rfl, hq⟩ := hq
    have hPj := hx_join hP hD0 hP1 hk
    refine lv_goto (tgt := 18) hx hb (show decode cL_propose 7 = .ok (.goto 11, 3) by decide +kernel) (by decide) ?_
    exact hx_end (k := 0) (z := 0) hx hb hr hlocks hPj hS1 hq (fun _ => trivial) (show decode cL_propose 18 = .ok (.iconst 0, 1) by decide +kernel) rfl (by decide) (show decode cL_propose (18 + 1) = .ok (.ireturn, 1) by decide +kernel)
  · intro E ik ic σ' H1 locs1 ce q9 hq hP1 hz hk hS1 hc1 hc2 hc3
    have hPj := hx_join hP hD0 hP1 hk
    obtain ⟨n9, hL, hq⟩ := hq
    match n9, hL, hq with
    | 0, hL, hq =>
      obtain rfl : eIB.1 = E := congrArg Prod.fst (Option.some.inj hL)
      refine vx_catch (name := eIB.1) hown [] ⟨0, 7, 10, 25⟩ [⟨0, 7, 14, 13⟩] (by rw [tb]; rfl) (fun z hz => absurd hz List.not_mem_nil) (by decide) (by decide) (hts _ (by decide +kernel)) (va_Nw.use rfl (hNX.1 eIB (by decide +kernel))) hc1 hc2 hc3 ?_
      refine lv_astore hx hb (show decode cL_propose 10 = .ok (.astore 4, 2) by decide +kernel) hl (by decide) rfl (fun ls2 hl2 => ?_)
      exact hx_end (k := 1) (z := 0) hx hb hr hlocks hPj hS1 hq (fun h => absurd h (by decide)) (show decode cL_propose 12 = .ok (.iconst 1, 1) by decide +kernel) rfl (by decide) (show decode cL_propose (12 + 1) = .ok (.ireturn, 1) by decide +kernel)
    | 1, hL, hq =>
      obtain rfl : eIA.1 = E := congrArg Prod.fst (Option.some.inj hL)
      refine vx_catch (name := eIA.1) hown [⟨0, 7, 10, 25⟩] ⟨0, 7, 14, 13⟩ [] (by rw [tb]; rfl) (fun z hz => by obtain rfl := List.mem_singleton.mp hz; exact Or.inr ⟨by decide, eIB.1, hts _ (by decide +kernel), hNX.2 eIA (by decide +kernel) eIB (by decide +kernel) (by decide +kernel)⟩) (by decide) (by decide) (hts _ (by decide +kernel)) (va_Nw.use rfl (hNX.1 eIA (by decide +kernel))) hc1 hc2 hc3 ?_
      refine lv_astore hx hb (show decode cL_propose 14 = .ok (.astore 4, 2) by decide +kernel) hl (by decide) rfl (fun ls2 hl2 => ?_)
      exact hx_end (k := 2) (z := 0) hx hb hr hlocks hPj hS1 hq (fun h => absurd h (by decide)) (show decode cL_propose 16 = .ok (.iconst 2, 1) by decide +kernel) rfl (by decide) (show decode cL_propose (16 + 1) = .ok (.ireturn, 1) by decide +kernel)
    | n9 + 2, hL, _ => exact absurd hL (by simp)
set_option maxRecDepth 100000 in
set_option maxHeartbeats 4000000 in
theorem hp_judge  (hlt : l.stackTraces = false) (h9 : XI σ Dn Pn) : HOk yL_judge cL_judge 3 [(0, 8, 11, 38)] l D ad ao cI cJ [.ref (ad 0), .ref ao] σ o (fun k z σ' => rJudge σ Dn k z σ') Gi := by
  intro sz
  refine va_MetW (cc := cL_judge) (maxL := 3) (ret := some .int) (by decide) rfl ?_
  intro p e s m args below meth c s₁ B hml hv
  obtain ⟨rfl, hsz, hP, hK, hD0, hKX, hNX⟩ := hv
  subst hsz
  obtain ⟨hx, hb, hr, hlocks, hts0⟩ := hx_B B
  have hts : ∀ w ∈ WA, w.before _ s = true := fun w hw => hts0 w (List.mem_cons_of_mem _ hw)
  have hown : s.vm.findClass RL = some m.cls := findClass_of_methodNamed B.named
  have tb := vx_table (x := yL_district) B (hts0 _ List.mem_cons_self)
  have hl := lv_entry [.ref (ad 0), .ref ao] (n := 3) (Nat.le_of_ble_eq_true rfl)
  rw [lg_entry_eq]
  generalize (lg_sl ([.ref (ad 0), .ref ao]) ++ List.replicate (3 - (lg_sl ([.ref (ad 0), .ref ao])).length) Slot.unset).toArray = ls at hl ⊢
  have hl : lv_has ls 3 [(0, .ref (ad 0)), (1, .ref ao)] := hl
  refine lv_aload_n hx hb (show decode cL_judge 0 = .ok (.aload_n 1, 1) by decide +kernel) rfl (lv_at hl 1 rfl) ?_
  refine lv_iconst (v := 0) hx hb (show decode cL_judge 1 = .ok (.iconst 0, 1) by decide +kernel) (by decide) ?_
  refine lv_aload_n hx hb (show decode cL_judge 2 = .ok (.aload_n 0, 1) by decide +kernel) rfl (lv_at hl 0 rfl) ?_
  refine hx_call [] [.int 0, .ref ao] (ix := 68) (n := 0) (maxL := 3) (A1 := va_A (cw ad cI cJ SX σ) s.heap.size) (A0 := va_A (wXO ad ao cI cJ σ o) s.heap.size) (H0 := s.heap) hlt hx hb hml hown hts hK hKX.1 (hx_U hKX).1 (hx_U hKX).2 (va_P_app hP).1 ((va_D_app hD0).1.self) va_S.rf hx_A hl.1 (okx_judge h9) (by decide +kernel) rfl (show decode cL_judge 3 = .ok (.invokevirtual 68, 3) by decide +kernel) (Nat.le_of_ble_eq_true rfl) ⟨Nat.le_of_ble_eq_true rfl, Nat.le_of_ble_eq_true rfl, Nat.le_refl _, Nat.le_refl _⟩ ?_ ?_
  · intro v σ' H1 locs1 hq hP1 hz hk hS1
    obtain ⟨z, rfl, hq⟩ := hq
    have hPj := hx_join hP hD0 hP1 hk
    refine lv_i2l hx hb (show decode cL_judge 6 = .ok (.i2l, 1) by decide +kernel) rfl ?_
    refine hx_last hx hb hK hD0 hPj hS1 (show decode cL_judge 7 = .ok (.lastore, 1) by decide +kernel) (fun H2 locs2 o2 ho2 hP2 hS2 => ?_)
    refine lv_goto (tgt := 14) hx hb (show decode cL_judge 8 = .ok (.goto 6, 3) by decide +kernel) (by decide) ?_
    exact hx_end (k := 0) (z := z) hx hb hr hlocks hP2 hS2 hq (fun _ => ho2) (show decode cL_judge 14 = .ok (.iconst 0, 1) by decide +kernel) rfl (by decide) (show decode cL_judge (14 + 1) = .ok (.ireturn, 1) by decide +kernel)
  · intro E ik ic σ' H1 locs1 ce q9 hq hP1 hz hk hS1 hc1 hc2 hc3
    have hPj := hx_join hP hD0 hP1 hk
    obtain ⟨n9, hL, hq⟩ := hq
    match n9, hL, hq with
    | 0, hL, hq =>
      obtain rfl : eIS.1 = E := congrArg Prod.fst (Option.some.inj hL)
      refine vx_catch (name := eIS.1) hown [] ⟨0, 8, 11, 38⟩ [] (by rw [tb]; rfl) (fun z hz => absurd hz List.not_mem_nil) (by decide) (by decide) (hts _ (by decide +kernel)) (va_Nw.use rfl (hNX.1 eIS (by decide +kernel))) hc1 hc2 hc3 ?_
      refine lv_astore_n hx hb (show decode cL_judge 11 = .ok (.astore_n 2, 1) by decide +kernel) rfl hl (by decide) rfl (fun ls2 hl2 => ?_)
      exact hx_end (k := 1) (z := 0) hx hb hr hlocks hPj hS1 hq (fun h => absurd h (by decide)) (show decode cL_judge 12 = .ok (.iconst 1, 1) by decide +kernel) rfl (by decide) (show decode cL_judge (12 + 1) = .ok (.ireturn, 1) by decide +kernel)
    | n9 + 1, hL, _ => exact absurd hL (by simp)
end Helpers
