/-! ===== the law's calls ===== -/
/-- what is known of the law's start -/
def LC (p : Program) (l : Launch) (s : State) (m : MethodId) (meth : Method) (c : Code) (b L : Nat) (xs : Nat → Int32) (D : va_G) (cI cJ : ClassId) : Prop :=
  lw_At p s m meth c b L xs ∧ l.stackTraces = false ∧ KK D cI cJ s ∧ KX (fun q => s.heap.size ≤ q) s ∧ NX s
def siteH (ix : Nat) (y : MethodName) (cc : ByteArray) (maxL : Nat) (hh : List (Nat × Nat × Nat × Nat)) (n : Nat) : Bool := decide (Cond.methodLink RL ix y ∈ WA) && decide (Cond.static y ∈ WA) && decide (Cond.initialized y.cls ∈ WA) && decide (Cond.codeWith y cc maxL (some .int) hh ∈ WA) && decide (y.cls ≠ "java/lang/invoke/MethodHandle") && decide (y.cls ≠ "java/lang/invoke/VarHandle") && decide ((parseMethodDescriptor y.desc).map (fun d => d.parameters.length) = some n) && decide (maxL ≤ 80)
section LawCalls
variable {p : Program} {l : Launch} {e : Env} {s : State} {m : MethodId} {below : List Frame} {meth : Method} {c : Code} {b L : Nat} {xs : Nat → Int32} {D : va_G} {cI cJ : ClassId} {ad1 ad2 : Nat → Nat} {ao : Nat} {σ : HP} {ρ : HP} {o : Nat → Int64} {k pc ix n : Nat} {lv : List (Nat × Value)} {rest : List Value}
theorem LC.words (C : LC p l s m meth c b L xs D cI cJ) : ∀ w ∈ WA, w.before #[Value.ref b] s = true := fun w hw => C.1.2.2.2.2.2.1 w (List.mem_filter.mp hw).1
/-- the three worlds are apart -/
def LD (s : State) (ad1 ad2 : Nat → Nat) (ao : Nat) (cI cJ : ClassId) : Prop := va_D (fun q => s.heap.size ≤ q) (wXO ad1 ao cI cJ (fun _ _ => 0) (fun _ => 0) ++ cw ad2 cI cJ SM (fun _ _ => 0))
theorem LD.at (h : LD s ad1 ad2 ao cI cJ) (σ : HP) (o : Nat → Int64) (ρ : HP) : va_D (fun q => s.heap.size ≤ q) (wXO ad1 ao cI cJ σ o ++ cw ad2 cI cJ SM ρ) := va_D_addr (by rw [List.map_append, List.map_append, wXO_fst (σ := fun _ _ => 0) (o := fun _ => 0), cw_fst (S := SM) (σ := fun _ _ => 0)]) h
/-- the law stands at pc with these worlds: it comes to its end -/
def LW (p : Program) (l : Launch) (e : Env) (s : State) (m : MethodId) (below : List Frame) (meth : Method) (c : Code) (b : Nat) (D : va_G) (cI cJ : ClassId) (ad1 ad2 : Nat → Nat) (ao : Nat) (k pc : Nat) (lv : List (Nat × Value)) (st : List Value) (σ : HP) (o : Nat → Int64) (ρ : HP) : Prop :=
  ∀ (H : Heap) (locs : List Loc) (ls : Array Slot), va_P D CL (wXO ad1 ao cI cJ σ o) H → va_P D CL (cw ad2 cI cJ SM ρ) H → va_S (fun q => s.heap.size ≤ q) s.heap H locs → lv_has ls 8 lv → W p l e room_1 s m #[Value.ref b] below meth c H locs k (6 * k) (lw_Z below #[Value.ref b] s) (F0 m pc ls st)
theorem sub_A {A : Nat → Prop} {ws : va_W} {H : Heap} {s : State} {locs : List Loc} (hA : A = fun q => s.heap.size ≤ q) (hD : va_D A ws) (hS : va_S A s.heap H locs) : ∀ q, va_A ws H.size q → A q := by
  rintro q (⟨j, e, h⟩ | h)
  · exact hD.2 j _ h
  · rw [hA]; exact Nat.le_trans hS.1 h
theorem LW.help {As : List Value} {r : Nat → Int → HP → Prop} {G : Int → Int64 → Prop} {y : MethodName} {cc : ByteArray} {maxL : Nat} {hh : List (Nat × Nat × Nat × Nat)} (C : LC p l s m meth c b L xs D cI cJ) (hL : LD s ad1 ad2 ao cI cJ) (hO : HOk y cc maxL hh l D ad1 ao cI cJ As σ o r G) (hsite : siteH ix y cc maxL hh n = true) (hn : As.length = n) (hdg : decode cL_law pc = .ok (.invokestatic ix, 3)) (hk : k ≤ 100000) (hroom : (rest.map fun v => v.category).sum ≤ 8)
    (kk : ∀ (j : Nat) (z : Int) (σ' : HP) (o' : Nat → Int64), j ≤ 3 → r j z σ' → (j = 0 → G z (o' 0)) → LW p l e s m below meth c b D cI cJ ad1 ad2 ao (k + 1) (pc + 3) lv (.int (Int32.ofInt j) :: rest) σ' o' ρ) : LW p l e s m below meth c b D cI cJ ad1 ad2 ao k pc lv (As.reverse ++ rest) σ o ρ := by
  intro H locs ls hPX hPM hS hl
  have hts := C.words
  obtain ⟨⟨hx, hb, hr, hml, hown, -, -, -, -, -⟩, hlt, hK, hKX, hNX⟩ := id C
  simp only [siteH, Bool.and_eq_true, decide_eq_true_eq, ne_eq] at hsite
  obtain ⟨⟨⟨⟨⟨⟨⟨w1, w2⟩, w3⟩, w4⟩, w5⟩, w6⟩, w7⟩, w8⟩ := hsite
  have hD := hL.at σ o ρ
  obtain ⟨hD1, hD2, hdis⟩ := va_D_app hD
  have hsub := sub_A rfl hD1 hS
  have hT : GoodIn WA (va_wsS RL ix y (.codeWith y cc maxL (some .int) hh :: WA)) := by
    intro w hw
    have hm : w ∈ WA := by
      rcases List.mem_append.mp hw with h | h
      · simp only [List.mem_cons, List.not_mem_nil, or_false] at h
        rcases h with rfl | rfl | rfl <;> assumption
      · rcases List.mem_cons.mp h with rfl | h
        · exact w4
        · exact h
    exact ⟨hm, WA_good w hm⟩
  have hbl : FrameBlind (va_Pc As (Pch D ad1 ao cI cJ σ o H.size)) := by
    intro a U g mk q
    obtain ⟨q0, qz, qP, qK, qD, qX, qN⟩ := q
    exact ⟨q0, qz, qP, qK.same rfl, qD, KX.same (s := U) (U := U.calling g mk a) rfl rfl qX, NX.same (s := U) (U := U.calling g mk a) rfl qN⟩
  have hrun : va_Run p l e room_1 s m #[Value.ref b] below meth c H locs k (6 * k) 1 6 (F0 m pc ls (As.reverse ++ rest)) rest (Qch D ad1 ao cI cJ (va_A (wXO ad1 ao cI cJ σ o) H.size) r G As.toArray) (va_A (wXO ad1 ao cI cJ σ o) H.size) := by
    refine vx_runSW (As := As) ⟨hx, hb, hml, hown, hts⟩ (hO H.size) (vx_cwSW n hts hT rfl rfl rfl ⟨w5, w6, w7⟩ ⟨?_, ?_⟩) ⟨hbl, fun U hU hW => ⟨rfl, by rw [hU], by rw [hU]; exact hPX, hK.warm hW, ⟨hD1.1, fun _ _ _ => trivial⟩, ⟨fun w hw => ngX_warm hw hW (hKX.1 w hw), ?_, ?_⟩, hNX.warm hW⟩⟩ rfl hn hl.1 rfl (lv_room hroom) hdg ⟨?_, ?_⟩
    · show 27 + 1 ≤ 2048; omega
    · show 8 + (maxL + 11) + 2700 ≤ 84000; omega
    · rw [hU]; exact vx_Zq.moved hW.alike (vx_Zq.narrow (vx_Zq.kept hKX.2.1 hS.2.1) hsub)
    · rw [hU]; exact vx_Zq.moved hW.alike (vx_Zq.narrow (vx_Zq.kept hKX.2.2 hS.2.1) hsub)
    · show k + 1 ≤ 600128; omega
    · show 6 * k + 6 ≤ 7301097; omega
  intro T hT1 Xs
  obtain ⟨v, st₀, t, T', L1, h0, X', hL1, e1, e2, ⟨j, z, σ', o', hj3, hq, hG, hv, hP1, hF⟩, stp⟩ := hrun T hT1 Xs
  obtain ⟨k1, k2, k3⟩ := vx_keep h0 e1 hS (fun q _ h => hsub q h) hsub hL1 hF
  have hv2 : v = some (.int (Int32.ofInt j)) := by injection hv
  subst hv2
  obtain ⟨t2, a1, b1⟩ := kk j z σ' o' hj3 hq hG T'.heap (locs ++ L1) ls (by rw [e1]; exact hP1) (va_P_other hPM hdis k2) k3 hl T' rfl (by rw [show 6 * (k + 1) = 6 * k + 6 by omega]; exact X')
  exact ⟨t2, stp t2 a1, b1⟩
/-- a call of a model or of a class that throws nothing -/
theorem LW.any {w2 : va_W} {ad : Nat → Nat} {S : SH} {as : List MV} {Q : MQt} {Yc : YD} {ci : Nat} {τ : HP} {H : Heap} {locs : List Loc} {ls : Array Slot} {fs : List (Option Nat)} (C : LC p l s m meth c b L xs D cI cJ) (hP : va_P D CL (cw ad cI cJ S τ) H) (hP2 : va_P D CL w2 H) (hD1 : va_D (fun q => s.heap.size ≤ q) (cw ad cI cJ S τ)) (hdis : ∀ p ∈ cw ad cI cJ S τ, ∀ q ∈ w2, p.1 ≠ q.1) (hS : va_S (fun q => s.heap.size ≤ q) s.heap H locs) (hl : lv_has ls 8 lv)
    (hO : Ok 20 Yc S (vr 0 :: as) τ Q) (h0S : S[0]? = some (.inr (ci, fs))) (hsite : siteV RL ix Yc ci n = true) (hn : as.length = n) (hdg : decode cL_law pc = .ok (.invokevirtual ix, 3)) (hk : k ≤ 100000) (hroom : (rest.map fun v => v.category).sum ≤ 8)
    (kk : ∀ (v : Option MV) (τ' : HP) (H1 : Heap) (locs1 : List Loc), Q v τ' → va_P D CL (cw ad cI cJ S τ') H1 → va_P D CL w2 H1 → va_S (fun q => s.heap.size ≤ q) s.heap H1 locs1 → W p l e room_1 s m #[Value.ref b] below meth c H1 locs1 k (6 * k) (lw_Z below #[Value.ref b] s) (F0 m (pc + 3) ls ((v.map (cv ad)).toList ++ rest))) :
    W p l e room_1 s m #[Value.ref b] below meth c H locs k (6 * k) (lw_Z below #[Value.ref b] s) (F0 m pc ls ((as.map (cv ad)).reverse ++ .ref (ad 0) :: rest)) := by
  have hts := C.words
  obtain ⟨⟨hx, hb, hr, hml, hown, -, -, -, -, -⟩, hlt, hK, hKX, hNX⟩ := id C
  simp only [siteV, siteB, Bool.and_eq_true, decide_eq_true_eq, ne_eq] at hsite
  obtain ⟨⟨⟨⟨⟨⟨⟨⟨⟨w1, w2⟩, w3⟩, w4⟩, w5⟩, w6⟩, w7⟩, w8⟩, w9⟩, w10⟩ := hsite
  have hsub := sub_A rfl hD1 hS
  have hT : GoodIn WA (wsV RL ix Yc.1.cls Yc.1 (wsY Yc)) := by
    intro w hw
    have hm : w ∈ WA := by
      rcases List.mem_append.mp hw with h | h
      · simp only [List.mem_cons, List.not_mem_nil, or_false] at h
        rcases h with rfl | rfl | rfl | rfl <;> assumption
      · rcases List.mem_cons.mp h with rfl | h
        · exact w2
        · exact h
    exact ⟨hm, WA_good w hm⟩
  obtain ⟨q, hq, hqc⟩ : ∃ q, CL[ci]? = some q ∧ q.1 = Yc.1.cls := by
    cases hc : CL[ci]? with
    | none => rw [hc] at w10; cases w10
    | some q => rw [hc] at w10; exact ⟨q, rfl, Option.some.inj w10⟩
  have hrc := va_recv hK.1 hP hq (cw_get (ad := ad) (cI := cI) (cJ := cJ) (σ := τ) h0S)
  rw [hqc] at hrc
  have hrun : va_Run p l e room_1 s m #[Value.ref b] below meth c H locs k (6 * k) 0 0 (F0 m pc ls ((as.map (cv ad)).reverse ++ .ref (ad 0) :: rest)) rest (Qcs D ad cI cJ S Q (va_A (cw ad cI cJ S τ) H.size) (Value.ref (ad 0) :: as.map (cv ad)).toArray) (va_A (cw ad cI cJ S τ) H.size) := by
    refine va_runV (C := Yc.1.cls) (b := ad 0) (As := as.map (cv ad)) ⟨hx, hb, hml, hown, hts⟩ (hO l D ad cI cJ (va_A (cw ad cI cJ S τ) H.size)) (cwV n hts hT rfl rfl rfl ⟨rfl, w3, w4, w5⟩ ⟨?_, ?_⟩) ⟨blindP, hrc, fun U hU hW => ⟨rfl, by rw [hU]; exact hP, hK.warm hW, hD1.self⟩⟩ rfl (by simp [hn]) hl.1 rfl (lv_room hroom) hdg ⟨?_, ?_⟩
    · show 20 + 1 ≤ 2048; omega
    · show 8 + (Yc.2.2.1 + 11) + 100 * 20 ≤ 84000; omega
    · show k + 0 ≤ 600128; omega
    · show 6 * k + 0 ≤ 7301097; omega
  intro T hT1 Xs
  obtain ⟨v, st₀, t, T', L1, h0, X', hL1, e1, e2, ⟨v', τ', hq2, hv, hP1, hD3, hF⟩, stp⟩ := hrun T hT1 Xs
  obtain ⟨k1, k2, k3⟩ := vx_keep h0 e1 hS (fun q _ h => hsub q h) hsub hL1 hF
  have hv2 : v = v'.map (cv ad) := by injection hv
  subst hv2
  obtain ⟨t2, a1, b1⟩ := kk v' τ' T'.heap (locs ++ L1) hq2 (by rw [e1]; exact hP1) (va_P_other hP2 hdis k2) k3 T' rfl X'
  exact ⟨t2, stp t2 a1, b1⟩
theorem LW.model {as : List MV} {Q : MQt} {Yc : YD} (C : LC p l s m meth c b L xs D cI cJ) (hL : LD s ad1 ad2 ao cI cJ) (hO : Ok 20 Yc SM (vr 0 :: as) ρ Q) (hsite : siteV RL ix Yc 4 n = true) (hn : as.length = n) (hdg : decode cL_law pc = .ok (.invokevirtual ix, 3)) (hk : k ≤ 100000) (hroom : (rest.map fun v => v.category).sum ≤ 8)
    (kk : ∀ (v : Option MV) (ρ' : HP), Q v ρ' → LW p l e s m below meth c b D cI cJ ad1 ad2 ao k (pc + 3) lv ((v.map (cv ad2)).toList ++ rest) σ o ρ') : LW p l e s m below meth c b D cI cJ ad1 ad2 ao k pc lv ((as.map (cv ad2)).reverse ++ .ref (ad2 0) :: rest) σ o ρ := by
  intro H locs ls hPX hPM hS hl
  obtain ⟨hD1, hD2, hdis⟩ := va_D_app (hL.at σ o ρ)
  exact LW.any (w2 := wXO ad1 ao cI cJ σ o) C hPM hPX hD2 (fun p hp q hq e => hdis q hq p hp e.symm) hS hl hO rfl hsite hn hdg hk hroom (fun v τ' H1 locs1 hq h1 h2 h3 => kk v τ' hq H1 locs1 ls h2 h1 h3 hl)
theorem LW.cls {as : List MV} {Q : MQt} {Yc : YD} (C : LC p l s m meth c b L xs D cI cJ) (hL : LD s ad1 ad2 ao cI cJ) (hO : Ok 20 Yc SX (vr 0 :: as) σ Q) (hsite : siteV RL ix Yc 3 n = true) (hn : as.length = n) (hdg : decode cL_law pc = .ok (.invokevirtual ix, 3)) (hk : k ≤ 100000) (hroom : (rest.map fun v => v.category).sum ≤ 8)
    (kk : ∀ (v : Option MV) (σ' : HP), Q v σ' → LW p l e s m below meth c b D cI cJ ad1 ad2 ao k (pc + 3) lv ((v.map (cv ad1)).toList ++ rest) σ' o ρ) : LW p l e s m below meth c b D cI cJ ad1 ad2 ao k pc lv ((as.map (cv ad1)).reverse ++ .ref (ad1 0) :: rest) σ o ρ := by
  intro H locs ls hPX hPM hS hl
  obtain ⟨hD1, hD2, hdis⟩ := va_D_app (hL.at σ o ρ)
  obtain ⟨hD3, hD4, hdis2⟩ := va_D_app hD1
  obtain ⟨hPX1, hPX2⟩ := va_P_app hPX
  refine LW.any (w2 := [outc ao cJ o] ++ cw ad2 cI cJ SM ρ) C hPX1 (hPX2.app hPM) hD3 (fun p hp q hq => ?_) hS hl hO rfl hsite hn hdg hk hroom (fun v τ' H1 locs1 hq h1 h2 h3 => kk v τ' hq H1 locs1 ls (h1.app (va_P_app h2).1) (va_P_app h2).2 h3 hl)
  rcases List.mem_append.mp hq with h | h
  · exact hdis2 p hp q h
  · exact hdis p (List.mem_append_left _ hp) q h
end LawCalls
