/-! ===== the law's helpers: what they stand on ===== -/
theorem fst_at {ws ws' : va_W} (h : ws'.map Prod.fst = ws.map Prod.fst) {i : Nat} {p : Nat × va_E} (hp : ws'[i]? = some p) : ∃ p0, ws[i]? = some p0 ∧ p0.1 = p.1 := by
  have h1 : (ws'.map Prod.fst)[i]? = some p.1 := by rw [List.getElem?_map, hp]; rfl
  rw [h, List.getElem?_map] at h1
  cases hw : ws[i]? with
  | none => rw [hw] at h1; cases h1
  | some q => rw [hw] at h1; exact ⟨q, rfl, Option.some.inj h1⟩
theorem va_D_addr {A : Nat → Prop} {ws ws' : va_W} (h : ws'.map Prod.fst = ws.map Prod.fst) (hD : va_D A ws) : va_D A ws' :=
  ⟨fun i j p q hp hq e => by
    obtain ⟨p0, h1, e1⟩ := fst_at h hp
    obtain ⟨q0, h2, e2⟩ := fst_at h hq
    exact hD.1 i j p0 q0 h1 h2 (by rw [e1, e2, e]), fun k q hq => by
    obtain ⟨q0, h2, e2⟩ := fst_at h hq
    rw [← e2]; exact hD.2 k q0 h2⟩
theorem va_A_addr {ws ws' : va_W} (h : ws'.map Prod.fst = ws.map Prod.fst) {sz q : Nat} (hq : va_A ws' sz q) : va_A ws sz q := by
  rcases hq with ⟨k, e, hk⟩ | hq
  · obtain ⟨p0, h1, h2⟩ := fst_at h hk
    exact Or.inl ⟨k, p0.2, by rw [h1, show p0 = (q, p0.2) from Prod.ext h2 rfl]⟩
  · exact Or.inr hq
theorem cw_fst {ad : Nat → Nat} {cI cJ : ClassId} {S : SH} {σ σ' : HP} : (cw ad cI cJ S σ').map Prod.fst = (cw ad cI cJ S σ).map Prod.fst := by
  apply List.ext_getElem?
  intro k
  simp only [cw, List.getElem?_map, List.getElem?_mapIdx, Option.map_map]
  cases S[k]? <;> rfl
/-- what another call left alone -/
theorem va_P_other {D : va_G} {w1 w2 : va_W} {H H1 : Heap} (hP2 : va_P D CL w2 H) (hdis : ∀ p ∈ w1, ∀ q ∈ w2, p.1 ≠ q.1) (hk : ∀ q : Nat, q < H.size → ¬ va_A w1 H.size q → H1[q]? = H[q]?) : va_P D CL w2 H1 :=
  hP2.kept fun k q hq => hk q.1 (vx_lt hP2 hq) (fun h => h.elim (fun ⟨k', e, h'⟩ => hdis _ (List.mem_of_getElem? h') _ (List.mem_of_getElem? hq) rfl) (fun h => absurd (vx_lt hP2 hq) (by omega)))
def outc (ao : Nat) (cJ : ClassId) (o : Nat → Int64) : Nat × va_E := (ao, .inl (cJ, 1, .inr (.inl o)))
def wXO (ad : Nat → Nat) (ao : Nat) (cI cJ : ClassId) (σ : HP) (o : Nat → Int64) : va_W := cw ad cI cJ SX σ ++ [outc ao cJ o]
theorem wXO_fst {ad : Nat → Nat} {ao : Nat} {cI cJ : ClassId} {σ σ' : HP} {o o' : Nat → Int64} : (wXO ad ao cI cJ σ' o').map Prod.fst = (wXO ad ao cI cJ σ o).map Prod.fst := by
  simp only [wXO, List.map_append, List.map_cons, List.map_nil, outc, cw_fst (σ := σ) (σ' := σ')]
theorem va_P_app {D : va_G} {w1 w2 : va_W} {H : Heap} (h : va_P D CL (w1 ++ w2) H) : va_P D CL w1 H ∧ va_P D CL w2 H := by
  constructor
  · intro k q hk
    exact h k q (by rw [List.getElem?_append_left (List.getElem?_eq_some_iff.mp hk).1]; exact hk)
  · intro k q hk
    exact h (w1.length + k) q (by rw [List.getElem?_append_right (by omega), Nat.add_sub_cancel_left]; exact hk)
theorem va_D_app {A : Nat → Prop} {w1 w2 : va_W} (h : va_D A (w1 ++ w2)) : va_D A w1 ∧ va_D A w2 ∧ ∀ p ∈ w1, ∀ q ∈ w2, p.1 ≠ q.1 := by
  have l1 : ∀ {k : Nat} {q : Nat × va_E}, w1[k]? = some q → (w1 ++ w2)[k]? = some q := fun hk => by rw [List.getElem?_append_left (List.getElem?_eq_some_iff.mp hk).1]; exact hk
  have l2 : ∀ {k : Nat} {q : Nat × va_E}, w2[k]? = some q → (w1 ++ w2)[w1.length + k]? = some q := fun hk => by rw [List.getElem?_append_right (by omega), Nat.add_sub_cancel_left]; exact hk
  refine ⟨⟨fun i j p q hp hq e => h.1 i j p q (l1 hp) (l1 hq) e, fun k q hk => h.2 k q (l1 hk)⟩, ⟨fun i j p q hp hq e => ?_, fun k q hk => h.2 _ q (l2 hk)⟩, fun p hp q hq e => ?_⟩
  · have := h.1 _ _ p q (l2 hp) (l2 hq) e; omega
  · obtain ⟨i, hi⟩ := List.getElem?_of_mem hp
    obtain ⟨j, hj⟩ := List.getElem?_of_mem hq
    have h3 := h.1 _ _ p q (l1 hi) (l2 hj) e
    have h4 := (List.getElem?_eq_some_iff.mp hi).1
    omega
theorem KX.warm {A : Nat → Prop} {s U : State} (hW : s.WarmedH U.vm) (hh : U.heap = s.heap) (h : KX A s) : KX A U := ⟨fun w hw => ngX_warm hw hW (h.1 w hw), by rw [hh]; exact vx_Zq.moved hW.alike h.2.1, by rw [hh]; exact vx_Zq.moved hW.alike h.2.2⟩
theorem KX.same {A : Nat → Prop} {s U : State} (hv : s.vm = U.vm) (hh : U.heap = s.heap) (h : KX A s) : KX A U := ⟨fun w hw => ngX_same hw hv (h.1 w hw), by rw [hh]; exact vx_Zq.moved (by rw [hv]; exact Vm.Alike.refl U.vm) h.2.1, by rw [hh]; exact vx_Zq.moved (by rw [hv]; exact Vm.Alike.refl U.vm) h.2.2⟩
theorem KX.narrow {A B : Nat → Prop} {s : State} (hAB : ∀ q, B q → A q) (h : KX A s) : KX B s := ⟨h.1, vx_Zq.narrow h.2.1 hAB, vx_Zq.narrow h.2.2 hAB⟩
/-- which of the five are caught as which -/
def NX (U : State) : Prop := (∀ q ∈ x5, va_Nw (.castable q.1 q.1) U) ∧ ∀ p ∈ x5, ∀ q ∈ x5, p ≠ q → va_Nc p.1 q.1 U
theorem NX.warm {s U : State} (hW : s.WarmedH U.vm) (h : NX s) : NX U := ⟨fun q hq => va_Nw.warmC hW (h.1 q hq), fun p hp q hq e => va_Nc.moved hW.alike (h.2 p hp q hq e)⟩
theorem NX.same {s U : State} (hv : s.vm = U.vm) (h : NX s) : NX U := ⟨fun q hq => va_Nw.same rfl hv (h.1 q hq), fun p hp q hq e => va_Nc.moved (by rw [hv]; exact Vm.Alike.refl U.vm) (h.2 p hp q hq e)⟩
section HCall
variable {p : Program} {l : Launch} {e : Env} {R : Room} {s : State} {m : MethodId} {args : Array Value} {below : List Frame} {meth : Method} {c : Code} {H : Heap} {locs : List Loc} {cells slots : Nat} {Fin : State → Prop} {D : va_G} {ad : Nat → Nat} {cI cJ : ClassId} {A0 A1 : Nat → Prop} {H0 : Heap} {lsA : Array Slot} {cc : ByteArray} {maxL d pc ix n : Nat} {Yc : YD} {σ : HP} {Q : MQt} {X : MXt}
theorem blindX {S : SH} {A : Nat → Prop} {av : List Value} : FrameBlind (va_Pc av (fun U => Pcs D ad cI cJ S σ A U ∧ KX A U)) := by
  intro a U g mk q
  obtain ⟨q0, ⟨qP, qK, qD⟩, qX⟩ := q
  exact ⟨q0, ⟨qP, qK.same rfl, qD⟩, KX.same (s := U) (U := U.calling g mk a) rfl rfl qX⟩
theorem hx_call (as : List MV) (rest : List Value) (hlt : l.stackTraces = false) (hx : p.tables.exec = Jvm.exec) (hb : c.code = cc) (hml : c.maxLocals = maxL) (hown : s.vm.findClass RL = some m.cls) (hts : ∀ w ∈ WA, w.before args s = true) (hK : KK D cI cJ s) (hN : ∀ w ∈ ngX, va_Nw w s)
    (hU : vx_Zq Bundle.tN "UNASSIGNED_STACK" Bundle.steD A1 s H) (hZ : vx_Zq Bundle.tN "SUPPRESSED_SENTINEL" Bundle.listD A1 s H)
    (hP : va_P D CL (cw ad cI cJ SX σ) H) (hD : va_D A1 (cw ad cI cJ SX σ)) (hS : va_S A0 H0 H locs) (hA : ∀ q, A1 q → A0 q) (hl : lsA.size = maxL)
    (hO : OkX d Yc SX (vr 0 :: as) σ Q X) (hsite : siteV RL ix Yc 3 n = true) (hn : as.length = n) (hdg : decode cc pc = .ok (.invokevirtual ix, 3)) (hroom : (rest.map fun v => v.category).sum ≤ 8)
    (hR : d + 7 ≤ R.frames ∧ 100 * d + 700 ≤ R.locals ∧ cells + 1 ≤ R.cells ∧ slots + 6 ≤ R.slots)
    (kk : ∀ (v : Option MV) (σ' : HP) (H1 : Heap) (locs1 : List Loc), Q v σ' → va_P D CL (cw ad cI cJ SX σ') H1 → H.size ≤ H1.size → (∀ q : Nat, q < H.size → ¬ A1 q → H1[q]? = H[q]?) → va_S A0 H0 H1 locs1 → W p l e R s m args below meth c H1 locs1 (cells + 1) (slots + 6) Fin (F0 m (pc + 3) lsA ((v.map (cv ad)).toList ++ rest)))
    (kx : ∀ (E : String) (ik ic : Nat) (σ' : HP) (H1 : Heap) (locs1 : List Loc) (ce : Cell) (q9 : Addr), X E ik ic σ' → va_P D CL (cw ad cI cJ SX σ') H1 → H.size ≤ H1.size → (∀ q : Nat, q < H.size → ¬ A1 q → H1[q]? = H[q]?) → va_S A0 H0 H1 locs1 → H1[q9]? = some ce → ce.vm = .none → s.vm.findClass E = some ce.cls → vx_W p l e R s m args below meth c H1 locs1 (cells + 1) (slots + 6) Fin (F0 m pc lsA rest) q9) :
    W p l e R s m args below meth c H locs cells slots Fin (F0 m pc lsA ((as.map (cv ad)).reverse ++ .ref (ad 0) :: rest)) := by
  simp only [siteV, siteB, Bool.and_eq_true, decide_eq_true_eq, ne_eq] at hsite
  obtain ⟨⟨⟨⟨⟨⟨⟨⟨⟨w1, w2⟩, w3⟩, w4⟩, w5⟩, w6⟩, w7⟩, w8⟩, w9⟩, w10⟩ := hsite
  have hT : GoodIn WA (wsV RL ix Yc.1.cls Yc.1 (wsY Yc)) := by
    intro w hw
    have hm : w ∈ WA := by
      rcases List.mem_append.mp hw with h | h
      · simp only [List.mem_cons, List.not_mem_nil, or_false] at h
        rcases h with rfl | rfl | rfl | rfl <;> assumption
      · rcases List.mem_cons.mp h with rfl | h
        · exact w2
        · exact h
    exact ⟨hm, WA_good w hm⟩
  obtain ⟨q, hq, hqc⟩ : ∃ q, CL[3]? = some q ∧ q.1 = Yc.1.cls := ⟨(RX3, TX3, 20), rfl, Option.some.inj (show some RX3 = some Yc.1.cls from w10)⟩
  have hrc := va_recv hK.1 hP hq (cw_get (ad := ad) (cI := cI) (cJ := cJ) (σ := σ) (show SX[0]? = some _ from rfl))
  rw [hqc] at hrc
  have hr : vx_Run p l e R s m args below meth c H locs cells slots 1 6 (F0 m pc lsA ((as.map (cv ad)).reverse ++ .ref (ad 0) :: rest)) rest (Qcs D ad cI cJ SX Q A1 (Value.ref (ad 0) :: as.map (cv ad)).toArray) (XCs D ad cI cJ SX X A1) A1 := by
    refine vx_runV (C := Yc.1.cls) (b := ad 0) (As := as.map (cv ad)) ⟨hx, hb, hml, hown, hts⟩ (hO l hlt D ad cI cJ A1) (cwV n hts hT rfl rfl rfl ⟨rfl, w3, w4, w5⟩ ⟨?_, ?_⟩) ⟨blindX, hrc, fun U hU1 hW => ⟨rfl, ⟨by rw [hU1]; exact hP, hK.warm hW, hD⟩, fun w hw => ngX_warm hw hW (hN w hw), by rw [hU1]; exact vx_Zq.moved hW.alike hU, by rw [hU1]; exact vx_Zq.moved hW.alike hZ⟩⟩ rfl (by simp [hn]) hl rfl (lv_room hroom) hdg ⟨hR.2.2.1, hR.2.2.2⟩
    · show d + 6 + 1 ≤ R.frames; omega
    · show 8 + (Yc.2.2.1 + 11) + (100 * d + 600) ≤ R.locals; omega
  intro T hT Xs
  rcases hr T hT Xs with ⟨v, st₀, t, T', L, h0, X', hL, e1, e2, ⟨v', σ', hq, hv, hP1, hD1, hF⟩, stp⟩ | ⟨q9, st₀, t, T', L, E, ce, h0, X', hL, e1, e2, ⟨ik, ic, σ', hq, hP1, hD1, hF⟩, hce, hcv, hcl, stp⟩
  · obtain ⟨k1, k2, k3⟩ := vx_keep h0 e1 hS (fun q _ h => hA q h) hA hL hF
    have hv2 : v = v'.map (cv ad) := by injection hv
    subst hv2
    obtain ⟨t2, a1, b1⟩ := kk v' σ' T'.heap (locs ++ L) hq (by rw [e1]; exact hP1) k1 k2 k3 T' rfl X'
    exact ⟨t2, stp t2 a1, b1⟩
  · obtain ⟨k1, k2, k3⟩ := vx_keep h0 e1 hS (fun q _ h => hA q h) hA hL hF
    obtain ⟨t2, a1, b1⟩ := kx E ik ic σ' T'.heap (locs ++ L) ce q9 hq (by rw [e1]; exact hP1) k1 k2 k3 (by rw [e1]; exact hce) hcv hcl T' rfl X'
    exact ⟨t2, stp.trans a1, b1⟩
end HCall
