/-! ===== constructors: what they stand on ===== -/
def zI (cI : ClassId) (n : Nat) : va_E := .inl (cI, n, .inl (fun _ => Int32.ofInt 0))
def zJ (cJ : ClassId) (n : Nat) : va_E := .inl (cJ, n, .inr (.inl (fun _ => Int64.ofInt 0)))
def σz : HP := fun _ _ => 0
/-- a constructor: from a fresh object to its world -/
def InOk (Y : YD) (rm : Room) (ci : Nat) (fs0 : List Value) (S : SH) (mc ms : Nat) (Qσ : HP → Prop) (l : Launch) (D : va_G) (cI cJ : ClassId) (h0 : Nat) : Prop := ∀ sz : Nat, Met l Y.1 (wsY Y) rm (va_Pc [.ref h0] (fun U => U.heap.size = sz ∧ va_P D CL [(h0, .inr (ci, fs0))] U.heap ∧ KK D cI cJ U))
  (fun _ st oc t => oc = .returned none ∧ ∃ (ad : Nat → Nat) (σ : HP), ad 0 = h0 ∧ Qσ σ ∧ va_P D CL (cw ad cI cJ S σ) t.heap ∧ va_D (va_A [(h0, .inr (ci, fs0))] sz) (cw ad cI cJ S σ) ∧ va_F (va_A [(h0, .inr (ci, fs0))] sz) st t) mc ms (va_A [(h0, .inr (ci, fs0))] sz)
section Ctor
variable {p : Program} {l : Launch} {e : Env} {R : Room} {s : State} {m : MethodId} {args : Array Value} {below : List Frame} {meth : Method} {c : Code} {H : Heap} {locs : List Loc} {cells slots : Nat} {Fin : State → Prop} {D : va_G} {cI cJ : ClassId} {A : Nat → Prop} {H0 : Heap} {ls : Array Slot} {cc : ByteArray} {maxL pc ix n : Nat} {ws : va_W} {rest : List Value}
theorem K_I {tys : List (ClassId × FieldType)} {cA cB : ClassId} {ty : FieldType} (hK : va_K D CL tys s) {i j : Nat} (hi : tys[i]? = some (cA, .int)) (hj : tys[j]? = some (cB, .int)) : cA = cB := by
  have h1 : s.vm.findClass ("[" ++ FieldType.int.toString) = some cA := (hK.2 i _ hi).2
  have h2 : s.vm.findClass ("[" ++ FieldType.int.toString) = some cB := (hK.2 j _ hj).2
  exact Option.some.inj (h1.symm.trans h2)
theorem K_J {tys : List (ClassId × FieldType)} {cA cB : ClassId} (hK : va_K D CL tys s) {i j : Nat} (hi : tys[i]? = some (cA, .long)) (hj : tys[j]? = some (cB, .long)) : cA = cB := by
  have h1 : s.vm.findClass ("[" ++ FieldType.long.toString) = some cA := (hK.2 i _ hi).2
  have h2 : s.vm.findClass ("[" ++ FieldType.long.toString) = some cB := (hK.2 j _ hj).2
  exact Option.some.inj (h1.symm.trans h2)
theorem wA_I : Cond.arrayClass .int ∈ WA := by decide +kernel
theorem wA_J : Cond.arrayClass .long ∈ WA := by decide +kernel
theorem nw_I {v : Int32} {N : Nat} (hx : p.tables.exec = Jvm.exec) (hb : c.code = cc) (hts : ∀ w ∈ WA, w.before args s = true) (hK : KK D cI cJ s) (hP : va_P D CL ws H) (hD : va_D A ws) (hS : va_S A H0 H locs) (hA : ∀ q, H0.size ≤ q → A q) (hn : ¬ v < 0) (hN : v.toNatClampNeg = N) (hN9 : N ≤ 1000) (hc : cells + 1 ≤ R.cells) (hs : slots + N ≤ R.slots) (hdg : decode cc pc = .ok (.newarray .int, 2))
    (kk : ∀ (q : Nat) (H1 : Heap), va_P D CL (ws ++ [(q, zI cI N)]) H1 → va_D A (ws ++ [(q, zI cI N)]) → va_S A H0 H1 locs → W p l e R s m args below meth c H1 locs (cells + 1) (slots + N) Fin (F0 m (pc + 2) ls (.ref q :: rest))) : W p l e R s m args below meth c H locs cells slots Fin (F0 m pc ls (.int v :: rest)) := by
  refine va_newa (atype := .int) (ty := .int) (a0 := (N, .inl (fun _ => Int32.ofInt 0))) hx hb (hts _ wA_I) rfl hK.1 hP hD hS hA (fun cA => rfl) hn hN (Nat.le_trans (Nat.mul_le_mul_right _ hN9) (by decide)) hc hs hdg (fun q cA H1 hK1 hP1 hD1 hS1 => ?_)
  obtain rfl := K_I (ty := .int) hK1 (i := 2) (j := 0) rfl rfl
  exact kk q H1 hP1 hD1 hS1
theorem nw_J {v : Int32} {N : Nat} (hx : p.tables.exec = Jvm.exec) (hb : c.code = cc) (hts : ∀ w ∈ WA, w.before args s = true) (hK : KK D cI cJ s) (hP : va_P D CL ws H) (hD : va_D A ws) (hS : va_S A H0 H locs) (hA : ∀ q, H0.size ≤ q → A q) (hn : ¬ v < 0) (hN : v.toNatClampNeg = N) (hN9 : N ≤ 1000) (hc : cells + 1 ≤ R.cells) (hs : slots + N ≤ R.slots) (hdg : decode cc pc = .ok (.newarray .long, 2))
    (kk : ∀ (q : Nat) (H1 : Heap), va_P D CL (ws ++ [(q, zJ cJ N)]) H1 → va_D A (ws ++ [(q, zJ cJ N)]) → va_S A H0 H1 locs → W p l e R s m args below meth c H1 locs (cells + 1) (slots + N) Fin (F0 m (pc + 2) ls (.ref q :: rest))) : W p l e R s m args below meth c H locs cells slots Fin (F0 m pc ls (.int v :: rest)) := by
  refine va_newa (atype := .long) (ty := .long) (a0 := (N, .inr (.inl (fun _ => Int64.ofInt 0)))) hx hb (hts _ wA_J) rfl hK.1 hP hD hS hA (fun cA => rfl) hn hN (Nat.le_trans (Nat.mul_le_mul_right _ hN9) (by decide)) hc hs hdg (fun q cA H1 hK1 hP1 hD1 hS1 => ?_)
  obtain rfl := K_J hK1 (i := 2) (j := 1) rfl rfl
  exact kk q H1 hP1 hD1 hS1
def siteI (own : String) (ix : Nat) (y : YD) : Bool := siteB y 0 && decide (Cond.methodLink own ix y.1 ∈ WA) && decide (Cond.instanceMethod y.1 ∈ WA) && decide (y.1.name = "<init>") && decide (y.2.2.2 = none)
theorem in_call {own : String} {Y : YD} {rm : Room} {ci mc ms : Nat} {fs0 : List Value} {S : SH} {Qσ : HP → Prop} {h0 : Nat} {w2 : va_W} (hI : InOk Y rm ci fs0 S mc ms Qσ l D cI cJ h0) (hx : p.tables.exec = Jvm.exec) (hb : c.code = cc) (hml : c.maxLocals = maxL) (hown : s.vm.findClass own = some m.cls) (hts : ∀ w ∈ WA, w.before args s = true) (hK : KK D cI cJ s)
    (hP : va_P D CL (w2 ++ [(h0, .inr (ci, fs0))]) H) (hD : va_D A (w2 ++ [(h0, .inr (ci, fs0))])) (hS : va_S A H0 H locs) (hA : ∀ q, H0.size ≤ q → A q) (hl : ls.size = maxL) (hsite : siteI own ix Y = true) (hrm : rm.cells = mc ∧ rm.slots = ms ∧ rm.frames + 1 ≤ R.frames ∧ 100 + rm.locals ≤ R.locals) (hdg : decode cc pc = .ok (.invokespecial ix, 3)) (hroom : (rest.map fun v => v.category).sum ≤ 8) (hf : cells + mc ≤ R.cells ∧ slots + ms ≤ R.slots)
    (kk : ∀ (ad : Nat → Nat) (σ : HP) (H1 : Heap) (locs1 : List Loc), ad 0 = h0 → Qσ σ → va_P D CL (w2 ++ cw ad cI cJ S σ) H1 → va_D A (w2 ++ cw ad cI cJ S σ) → va_S A H0 H1 locs1 → W p l e R s m args below meth c H1 locs1 (cells + mc) (slots + ms) Fin (F0 m (pc + 3) ls rest)) :
    W p l e R s m args below meth c H locs cells slots Fin (F0 m pc ls (.ref h0 :: rest)) := by
  simp only [siteI, siteB, Bool.and_eq_true, decide_eq_true_eq, ne_eq] at hsite
  obtain ⟨⟨⟨⟨⟨⟨⟨⟨⟨w1, w9⟩, w3⟩, w4⟩, w5⟩, w6⟩, w7⟩, w8⟩, w10⟩, w11⟩ := hsite
  obtain ⟨y, code, mx, rt⟩ := Y
  dsimp only at w1 w9 w3 w4 w5 w6 w7 w8 w10 w11
  subst w11
  have hG : GoodIn WA (wsY (y, code, mx, none)) := by
    intro w hw
    have hm : w ∈ WA := by
      rcases List.mem_cons.mp hw with rfl | h
      · exact w9
      · exact h
    exact ⟨hm, WA_good w hm⟩
  obtain ⟨hP2, hP1⟩ := va_P_app hP
  obtain ⟨hD2, hD1, hdis⟩ := va_D_app hD
  have hsub : ∀ q, va_A [(h0, .inr (ci, fs0))] H.size q → A q := by
    rintro q (⟨j, e, h⟩ | h)
    · exact hD1.2 j _ h
    · exact hA q (Nat.le_trans hS.1 h)
  have hbl : FrameBlind (va_Pc [.ref h0] (fun U => U.heap.size = H.size ∧ va_P D CL [(h0, .inr (ci, fs0))] U.heap ∧ KK D cI cJ U)) := by
    intro a U g mk q
    obtain ⟨q0, qz, qP, qK⟩ := q
    exact ⟨q0, qz, qP, qK.same rfl⟩
  have hrun := va_runI (As := []) (rest := rest) (g := F0 m pc ls (.ref h0 :: rest)) (cells := cells) (slots := slots) (locs := locs) (H := H) (below := below) (meth := meth) (p := p) (e := e) (R := R) ⟨hx, hb, hml, hown, hts⟩ (hI H.size) ⟨callB_of 0 hts hG rfl hrm.1 hrm.2.1 (hts _ w1) (hts _ w7) ⟨w3, w4, w5⟩ ⟨hrm.2.2.1, by have := hrm.2.2.2; show 8 + (mx + 11) + rm.locals ≤ R.locals; omega⟩, w10, hts _ w8⟩ ⟨hbl, fun U hU hW => ⟨rfl, by rw [hU], by rw [hU]; exact hP1, hK.warm hW⟩⟩ rfl rfl hl rfl (lv_room hroom) hdg hf
  intro T hT1 Xs
  obtain ⟨v, st₀, t, T', L1, h00, X', hL1, e1, e2, ⟨hv, ad, σ, h0a, hq, hP3, hD3, hF⟩, stp⟩ := hrun T hT1 Xs
  obtain ⟨k1, k2, k3⟩ := vx_keep h00 e1 hS (fun q _ h => hsub q h) hsub hL1 hF
  have hv2 : v = none := by injection hv
  subst hv2
  have hP4 : va_P D CL w2 T'.heap := va_P_other hP2 (fun p hp q hq e => hdis q hq p hp e.symm) k2
  have hD4 : va_D A (w2 ++ cw ad cI cJ S σ) := by
    refine hD2.app ⟨hD3.1, fun k q hk => hsub _ (hD3.2 k q hk)⟩ (fun i j p q hp hq e => ?_)
    rcases hD3.2 j q hq with ⟨k9, e9, h9⟩ | h9
    · exact hdis p (List.mem_of_getElem? hp) _ (List.mem_of_getElem? h9) e
    · have := vx_lt hP2 hp
      omega
  obtain ⟨t2, a1, b1⟩ := kk ad σ T'.heap (locs ++ L1) h0a hq (hP4.app (by rw [e1]; exact hP3)) hD4 k3 T' rfl X'
  exact ⟨t2, stp t2 a1, b1⟩
theorem in0 : ∀ w ∈ u_ws RX0 TX0 1, w ∈ WA := inWA (RX0, TX0, 1) (by simp [CL])
theorem in1 : ∀ w ∈ u_ws RX1 TX1 2, w ∈ WA := inWA (RX1, TX1, 2) (by simp [CL])
theorem in2 : ∀ w ∈ u_ws RX2 TX2 4, w ∈ WA := inWA (RX2, TX2, 4) (by simp [CL])
theorem in3 : ∀ w ∈ u_ws RX3 TX3 20, w ∈ WA := inWA (RX3, TX3, 20) (by simp [CL])
theorem in4 : ∀ w ∈ u_ws RX4 TX4 25, w ∈ WA := inWA (RX4, TX4, 25) (by simp [CL])
theorem wOI : Cond.instanceMethod objectInit ∈ WA ∧ Cond.code objectInit ⟨#[0xb1]⟩ 1 none ∈ WA := ⟨by decide +kernel, by decide +kernel⟩
theorem one_D {q : Nat × va_E} : va_D (fun _ => True) [q] := ⟨fun i j p r hp hr e => by
    have h1 := (List.getElem?_eq_some_iff.mp hp).1
    have h2 := (List.getElem?_eq_some_iff.mp hr).1
    simp at h1 h2; omega, fun _ _ _ => trivial⟩
end Ctor
