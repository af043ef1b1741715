/-! ===== calls that may throw ===== -/
def x5 : List XK := [eIA, eUO, eIB, eIS, eNE]
def xnm : List String := ["java/lang/RuntimeException", "java/lang/Exception"]
def ngW (ic : Nat) (E : String) : List Cond := (vx_at0 RX3 ic E xnm).filter (fun w => !goodWord w)
def ngX : List Cond := x5.flatMap fun q => ngW q.2.2 q.1
theorem ngX_kind : ∀ w ∈ ngX, (∃ C T, w = .castable C T) ∨ ∃ x, w = .declares x := by
  have h : ngX.all (fun w => match w with | .castable _ _ => true | .declares _ => true | _ => false) = true := by decide +kernel
  intro w hw
  have := List.all_eq_true.mp h w hw
  split at this
  · exact Or.inl ⟨_, _, rfl⟩
  · exact Or.inr ⟨_, rfl⟩
  · cases this
theorem ngX_warm {w : Cond} (hw : w ∈ ngX) {s U : State} (hW : s.WarmedH U.vm) (h : va_Nw w s) : va_Nw w U := by
  rcases ngX_kind w hw with ⟨C, T, rfl⟩ | ⟨x, rfl⟩
  · exact va_Nw.warmC hW h
  · exact va_Nw.warmD hW h
theorem ngX_same {w : Cond} (hw : w ∈ ngX) {s U : State} (hv : s.vm = U.vm) (h : va_Nw w s) : va_Nw w U := by
  rcases ngX_kind w hw with ⟨C, T, rfl⟩ | ⟨x, rfl⟩
  · exact va_Nw.same rfl hv h
  · exact va_Nw.same rfl hv h
theorem ngX_use {w : Cond} (hw : w ∈ ngX) {A : Array Value} {U : State} (h : va_Nw w U) : w.before A U = true := by
  rcases ngX_kind w hw with ⟨C, T, rfl⟩ | ⟨x, rfl⟩
  · exact va_Nw.use rfl h
  · exact va_Nw.use rfl h
theorem x5_good : ∀ q ∈ x5, ∀ w ∈ (vx_at0 RX3 q.2.2 q.1 xnm).filter goodWord, w ∈ WA := by
  have h : x5.all (fun q => ((vx_at0 RX3 q.2.2 q.1 xnm).filter goodWord).all fun w => decide (w ∈ WA)) = true := by decide +kernel
  intro q hq w hw
  exact of_decide_eq_true (List.all_eq_true.mp (List.all_eq_true.mp h q hq) w hw)
theorem x5_ot : ∀ q ∈ x5, ∀ w ∈ Cond.classLink RX3 q.2.1 q.1 :: Cond.initialized q.1 :: vx_at0 RX3 q.2.2 q.1 xnm, vx_ot w = true := by
  have h : x5.all (fun q => (Cond.classLink RX3 q.2.1 q.1 :: Cond.initialized q.1 :: vx_at0 RX3 q.2.2 q.1 xnm).all vx_ot) = true := by decide +kernel
  intro q hq w hw
  exact List.all_eq_true.mp (List.all_eq_true.mp h q hq) w hw
theorem x5_link : ∀ q ∈ x5, Cond.classLink RX3 q.2.1 q.1 ∈ WA ∧ Cond.initialized q.1 ∈ WA := by
  have h : x5.all (fun q => decide (Cond.classLink RX3 q.2.1 q.1 ∈ WA) && decide (Cond.initialized q.1 ∈ WA)) = true := by decide +kernel
  intro q hq
  have := List.all_eq_true.mp h q hq
  rw [Bool.and_eq_true, decide_eq_true_eq, decide_eq_true_eq] at this
  exact this
theorem x5_fit : ∀ q ∈ x5, Bundle.fit q.1 = true := by
  have h : x5.all (fun q => Bundle.fit q.1) = true := by decide +kernel
  intro q hq
  exact List.all_eq_true.mp h q hq
theorem xnm_fit : ∀ n ∈ xnm, Bundle.fit n = true := by
  have h : xnm.all (fun n => Bundle.fit n) = true := by decide +kernel
  intro q hq
  exact List.all_eq_true.mp h q hq
