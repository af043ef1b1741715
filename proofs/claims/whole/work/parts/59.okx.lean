/-! ===== calls that may throw: from the small machine ===== -/
section OkX
variable {d : Nat} {Y : YD} {S : SH} {σ : HP} {Q : MQt} {X : MXt}
def KX (A : Nat → Prop) (U : State) : Prop := (∀ w ∈ ngX, va_Nw w U) ∧ vx_Zq Bundle.tN "UNASSIGNED_STACK" Bundle.steD A U U.heap ∧ vx_Zq Bundle.tN "SUPPRESSED_SENTINEL" Bundle.listD A U U.heap
def rmx (d : Nat) : Room := { frames := d + 6, cells := 1, slots := 6, locals := 100 * d + 600 }
def XCs (D : va_G) (ad : Nat → Nat) (cI cJ : ClassId) (S : SH) (X : MXt) (A : Nat → Prop) : String → State → State → Prop := fun E st t => ∃ (ik ic : Nat) (σ' : HP), X E ik ic σ' ∧ va_P D CL (cw ad cI cJ S σ') t.heap ∧ va_D A (cw ad cI cJ S σ') ∧ va_F A st t
/-- the method, called with these, ends with Q, or throws with X -/
def OkX (d : Nat) (Y : YD) (S : SH) (as : List MV) (σ : HP) (Q : MQt) (X : MXt) : Prop := ∀ (l : Launch), l.stackTraces = false → ∀ (D : va_G) (ad : Nat → Nat) (cI cJ : ClassId) (A : Nat → Prop), vx_Met l Y.1 (wsY Y) (rmx d) (va_Pc (as.map (cv ad)) (fun U => Pcs D ad cI cJ S σ A U ∧ KX A U)) (Qcs D ad cI cJ S Q A) (XCs D ad cI cJ S X A) 1 6 A
theorem OkX.ofWp {as : List MV} (hy : plainName Y.1.cls = true) (hcl : Y.1.cls = RX3) (hn : (ent as).length ≤ Y.2.2.1) (hX : ∀ E ik ic σ', X E ik ic σ' → (E, ik, ic) ∈ x5) (k : Wp d Y S 0 (entL Y.2.2.1 as) [] σ Q X) : OkX d Y S as σ Q X := by
  intro l hlt D ad cI cJ A
  refine vx_ofW (cc := Y.2.1) (maxL := Y.2.2.1) (ret := Y.2.2.2) hy rfl ?_
  intro p e s m args below meth c s₁ B hml hxt hv
  obtain ⟨rfl, ⟨hP, hK, hD⟩, hN, hU, hZ⟩ := hv
  have hts := atoms_spec (ws := wsY Y) B.pre
  have hown : s.vm.findClass Y.1.cls = some m.cls := findClass_of_methodNamed B.named
  have hlocks := B.notSynchronized
  have hr := B.returns
  have hl := lv_entry (as.map (cv ad)) (n := Y.2.2.1) (by rw [ent_len]; exact hn)
  rw [lg_entry_eq]
  refine k p l e _ s m _ below meth c s.heap [] 0 0 _ D ad cI cJ A s.heap _ ⟨B.exec, B.bytes, hml, hown, fun w hw => hts w (List.mem_cons_of_mem _ hw), hK, by show d ≤ d + 6; omega, by show 100 * d ≤ 100 * d + 600; omega, Nat.zero_le _, Nat.zero_le _⟩ hP hD va_S.rf (lv_less hl entL_sub) ?_ ?_
  · intro v σ' H' locs' pc' ls' hQ hR hP' hD' hS'
    refine vx_ret (W.widen (k := 1) (n := 6) (by omega) (by omega) ?_)
    unfold RetAt at hR
    split at hR
    · next e1 => exact W.vret B.exec B.bytes (hr.trans e1) (fun t ht hW => ⟨none, σ', hQ, rfl, by rw [ht]; exact hP', hD', hS'.F ht⟩) hS'.2.2 hR
    · next z e1 => exact W.iret B.exec B.bytes (hr.trans e1) (fun t ht hW => ⟨some (vi z), σ', hQ, rfl, by rw [ht]; exact hP', hD', hS'.F ht⟩) hS'.2.2 hR
    · next z e1 =>
      refine W.zret B.exec B.bytes (hr.trans e1) ?_ (fun t ht hW => ⟨some (vi z), σ', hQ, rfl, by rw [ht]; exact hP', hD', hS'.F ht⟩) hS'.2.2 hR.1
      rcases hR.2 with h | h <;> rw [h] <;> rfl
    · next z e1 => exact W.lret B.exec B.bytes (hr.trans e1) (fun t ht hW => ⟨some (vl z), σ', hQ, rfl, by rw [ht]; exact hP', hD', hS'.F ht⟩) hS'.2.2 hR
    · exact hR.elim
  · intro E ik ic σ' H' locs' pc' ls' hq hR hP' hD' hS' hsz
    obtain ⟨r0, r3, r4, r7⟩ := hR
    have hm := hX E ik ic σ' hq
    have hW : ∀ w ∈ WA, w.before (as.map (cv ad)).toArray s = true := fun w hw => hts w (List.mem_cons_of_mem _ hw)
    obtain ⟨w1, w2⟩ := x5_link _ hm
    refine vx_throw0 (rest := []) (names := xnm) (A := A) B.exec B.bytes hlt (by rw [← hcl]; exact hown) (x5_fit _ hm) xnm_fit (hW _ w1) (hW _ w2) ?_ (x5_ot _ hm) hU hZ hS' (by rw [hml]; exact hsz) r0 r3 r4 r7 (fun x hx => (hxt x hx).elim) ?_ ?_ ?_ ?_ hlocks (fun t hvm h1 h2 => ⟨ik, ic, σ', hq, hP'.kept fun k q hk => h2 q.1 (vx_lt hP' hk), hD', ?_⟩) hS'.2.2 (by omega) (by omega)
    · refine vx_hat (B := ngX) (fun w hw => hW w (x5_good _ hm w hw)) (fun w hw => List.mem_flatMap.mpr ⟨_, hm, hw⟩) (fun w hw => ngX_use hw (hN w hw))
    · show xnm.length + 3 < d + 6
      simp only [xnm, List.length_cons, List.length_nil]; omega
    · show _ ≤ 100 * d + 600
      simp only [xnm, List.length_cons, List.length_nil, List.map_nil, List.sum_nil]; omega
    · show 0 + 1 ≤ 1; omega
    · show 0 + 6 ≤ 6; omega
    · refine ⟨Nat.le_trans hS'.1 h1, fun q hq1 hq2 => ?_⟩
      rw [h2 q (Nat.lt_of_lt_of_le hq1 hS'.1)]
      exact hS'.2.1 q hq1 hq2
end OkX
