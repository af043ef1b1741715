/-! ===== stretches, branches, calls, methods ===== -/
theorem i0 : in32 0 := ⟨by decide, by decide⟩
theorem I_0 : (0 : Int32) = Int32.ofInt 0 := by decide
theorem I_eq0 {a : Int} (ha : in32 a) : Int32.ofInt a = 0 ↔ a = 0 := by rw [I_0]; exact I_eq ha i0
theorem I_lt0 {a : Int} (ha : in32 a) : Int32.ofInt a < 0 ↔ a < 0 := by rw [I_0]; exact I_lt ha i0
theorem I_le0 {a : Int} (ha : in32 a) : Int32.ofInt a ≤ 0 ↔ a ≤ 0 := by rw [I_0]; exact I_le ha i0
theorem I_0lt {a : Int} (ha : in32 a) : 0 < Int32.ofInt a ↔ 0 < a := by rw [I_0]; exact I_lt i0 ha
theorem I_0le {a : Int} (ha : in32 a) : 0 ≤ Int32.ofInt a ↔ 0 ≤ a := by rw [I_0]; exact I_le i0 ha
section Rules
variable {d : Nat} {Y : YD} {S : SH} {pc : Nat} {ls : ML} {st : List MV} {σ : HP} {Q : MQt} {X : MXt}
theorem Wp.blk {F : List (Nat × Nat × Nat)} {is : List Instr} (hF : fokb Y.1.cls F = true) : ∀ {pc : Nat} {ls : ML} {st : List MV} {σ : HP}, segb Y.2.1 pc is = true → blk F S Y.2.2.1 is ls st σ (fun ls' st' σ' => Wp d Y S (pc + slen is) ls' st' σ' Q X) → Wp d Y S pc ls st σ Q X := by
  induction is with
  | nil => intro pc ls st σ _ h; exact h
  | cons i is ih =>
    intro pc ls st σ hs h
    simp only [segb, Bool.and_eq_true, decide_eq_true_eq] at hs
    refine one_sound hF hs.1 h (fun ls' st' σ' hK => ih hs.2 ?_)
    have e : pc + ilen i + slen is = pc + slen (i :: is) := by simp only [slen]; omega
    rw [e]
    exact hK
theorem segb1 {cc : ByteArray} {i : Instr} (h : segb cc pc [i] = true) : decode cc pc = .ok (i, ilen i) := by
  simp only [segb, Bool.and_eq_true, decide_eq_true_eq] at h
  exact h.1
theorem Wp.goto {off : Int} (tgt : Nat) (hs : segb Y.2.1 pc [.goto off] = true) (ht : (pc : Int) + off = (tgt : Int)) (k : Wp d Y S tgt ls st σ Q X) : Wp d Y S pc ls st σ Q X := by
  intro p l e R s m args below meth c H locs cells slots Fin D ad cI cJ A H0 lsA C hP hD hS hl kr kx
  exact lv_goto C.1 C.2.1 (segb1 hs) ht (k p l e R s m args below meth c H locs cells slots Fin D ad cI cJ A H0 lsA C hP hD hS hl kr kx)
theorem Wp.ifeq {off a : Int} (tgt : Nat) (hs : segb Y.2.1 pc [.ifCond .eq off] = true) (ht : (pc : Int) + off = (tgt : Int)) (ha : in32 a) (kt : a = 0 → Wp d Y S tgt ls st σ Q X) (kf : ¬ a = 0 → Wp d Y S (pc + 3) ls st σ Q X) : Wp d Y S pc ls (vi a :: st) σ Q X := by
  intro p l e R s m args below meth c H locs cells slots Fin D ad cI cJ A H0 lsA C hP hD hS hl kr kx
  have e0 := I_eq0 ha
  exact lv_if_eq C.1 C.2.1 (segb1 hs) ht (fun q => kt (e0.mp q) p l e R s m args below meth c H locs cells slots Fin D ad cI cJ A H0 lsA C hP hD hS hl kr kx) (fun q => kf (fun z => q (e0.mpr z)) p l e R s m args below meth c H locs cells slots Fin D ad cI cJ A H0 lsA C hP hD hS hl kr kx)
theorem Wp.ifne {off a : Int} (tgt : Nat) (hs : segb Y.2.1 pc [.ifCond .ne off] = true) (ht : (pc : Int) + off = (tgt : Int)) (ha : in32 a) (kt : ¬ a = 0 → Wp d Y S tgt ls st σ Q X) (kf : a = 0 → Wp d Y S (pc + 3) ls st σ Q X) : Wp d Y S pc ls (vi a :: st) σ Q X := by
  intro p l e R s m args below meth c H locs cells slots Fin D ad cI cJ A H0 lsA C hP hD hS hl kr kx
  have e0 := I_eq0 ha
  exact lv_if_ne C.1 C.2.1 (segb1 hs) ht (fun q => kt (fun z => q (e0.mpr z)) p l e R s m args below meth c H locs cells slots Fin D ad cI cJ A H0 lsA C hP hD hS hl kr kx) (fun q => kf (e0.mp q) p l e R s m args below meth c H locs cells slots Fin D ad cI cJ A H0 lsA C hP hD hS hl kr kx)
theorem Wp.iflt {off a : Int} (tgt : Nat) (hs : segb Y.2.1 pc [.ifCond .lt off] = true) (ht : (pc : Int) + off = (tgt : Int)) (ha : in32 a) (kt : a < 0 → Wp d Y S tgt ls st σ Q X) (kf : 0 ≤ a → Wp d Y S (pc + 3) ls st σ Q X) : Wp d Y S pc ls (vi a :: st) σ Q X := by
  intro p l e R s m args below meth c H locs cells slots Fin D ad cI cJ A H0 lsA C hP hD hS hl kr kx
  have e0 := I_lt0 ha
  exact lv_if_lt C.1 C.2.1 (segb1 hs) ht (fun q => kt (e0.mp q) p l e R s m args below meth c H locs cells slots Fin D ad cI cJ A H0 lsA C hP hD hS hl kr kx) (fun q => kf (by rw [e0] at q; omega) p l e R s m args below meth c H locs cells slots Fin D ad cI cJ A H0 lsA C hP hD hS hl kr kx)
theorem Wp.ifge {off a : Int} (tgt : Nat) (hs : segb Y.2.1 pc [.ifCond .ge off] = true) (ht : (pc : Int) + off = (tgt : Int)) (ha : in32 a) (kt : 0 ≤ a → Wp d Y S tgt ls st σ Q X) (kf : a < 0 → Wp d Y S (pc + 3) ls st σ Q X) : Wp d Y S pc ls (vi a :: st) σ Q X := by
  intro p l e R s m args below meth c H locs cells slots Fin D ad cI cJ A H0 lsA C hP hD hS hl kr kx
  have e0 := I_0le ha
  exact lv_if_ge C.1 C.2.1 (segb1 hs) ht (fun q => kt (e0.mp q) p l e R s m args below meth c H locs cells slots Fin D ad cI cJ A H0 lsA C hP hD hS hl kr kx) (fun q => kf (by rw [e0] at q; omega) p l e R s m args below meth c H locs cells slots Fin D ad cI cJ A H0 lsA C hP hD hS hl kr kx)
theorem Wp.ifgt {off a : Int} (tgt : Nat) (hs : segb Y.2.1 pc [.ifCond .gt off] = true) (ht : (pc : Int) + off = (tgt : Int)) (ha : in32 a) (kt : 0 < a → Wp d Y S tgt ls st σ Q X) (kf : a ≤ 0 → Wp d Y S (pc + 3) ls st σ Q X) : Wp d Y S pc ls (vi a :: st) σ Q X := by
  intro p l e R s m args below meth c H locs cells slots Fin D ad cI cJ A H0 lsA C hP hD hS hl kr kx
  have e0 := I_0lt ha
  exact lv_if_gt C.1 C.2.1 (segb1 hs) ht (fun q => kt (e0.mp q) p l e R s m args below meth c H locs cells slots Fin D ad cI cJ A H0 lsA C hP hD hS hl kr kx) (fun q => kf (by rw [e0] at q; omega) p l e R s m args below meth c H locs cells slots Fin D ad cI cJ A H0 lsA C hP hD hS hl kr kx)
theorem Wp.ifle {off a : Int} (tgt : Nat) (hs : segb Y.2.1 pc [.ifCond .le off] = true) (ht : (pc : Int) + off = (tgt : Int)) (ha : in32 a) (kt : a ≤ 0 → Wp d Y S tgt ls st σ Q X) (kf : 0 < a → Wp d Y S (pc + 3) ls st σ Q X) : Wp d Y S pc ls (vi a :: st) σ Q X := by
  intro p l e R s m args below meth c H locs cells slots Fin D ad cI cJ A H0 lsA C hP hD hS hl kr kx
  have e0 := I_le0 ha
  exact lv_if_le C.1 C.2.1 (segb1 hs) ht (fun q => kt (e0.mp q) p l e R s m args below meth c H locs cells slots Fin D ad cI cJ A H0 lsA C hP hD hS hl kr kx) (fun q => kf (by rw [e0] at q; omega) p l e R s m args below meth c H locs cells slots Fin D ad cI cJ A H0 lsA C hP hD hS hl kr kx)
theorem Wp.iceq {off a b : Int} (tgt : Nat) (hs : segb Y.2.1 pc [.if_icmp .eq off] = true) (ht : (pc : Int) + off = (tgt : Int)) (ha : in32 a) (hb : in32 b) (kt : a = b → Wp d Y S tgt ls st σ Q X) (kf : ¬ a = b → Wp d Y S (pc + 3) ls st σ Q X) : Wp d Y S pc ls (vi b :: vi a :: st) σ Q X := by
  intro p l e R s m args below meth c H locs cells slots Fin D ad cI cJ A H0 lsA C hP hD hS hl kr kx
  have e0 := I_eq ha hb
  exact lv_icmp_eq C.1 C.2.1 (segb1 hs) ht (fun q => kt (e0.mp q) p l e R s m args below meth c H locs cells slots Fin D ad cI cJ A H0 lsA C hP hD hS hl kr kx) (fun q => kf (fun z => q (e0.mpr z)) p l e R s m args below meth c H locs cells slots Fin D ad cI cJ A H0 lsA C hP hD hS hl kr kx)
theorem Wp.icne {off a b : Int} (tgt : Nat) (hs : segb Y.2.1 pc [.if_icmp .ne off] = true) (ht : (pc : Int) + off = (tgt : Int)) (ha : in32 a) (hb : in32 b) (kt : ¬ a = b → Wp d Y S tgt ls st σ Q X) (kf : a = b → Wp d Y S (pc + 3) ls st σ Q X) : Wp d Y S pc ls (vi b :: vi a :: st) σ Q X := by
  intro p l e R s m args below meth c H locs cells slots Fin D ad cI cJ A H0 lsA C hP hD hS hl kr kx
  have e0 := I_eq ha hb
  exact lv_icmp_ne C.1 C.2.1 (segb1 hs) ht (fun q => kt (fun z => q (e0.mpr z)) p l e R s m args below meth c H locs cells slots Fin D ad cI cJ A H0 lsA C hP hD hS hl kr kx) (fun q => kf (e0.mp q) p l e R s m args below meth c H locs cells slots Fin D ad cI cJ A H0 lsA C hP hD hS hl kr kx)
theorem Wp.iclt {off a b : Int} (tgt : Nat) (hs : segb Y.2.1 pc [.if_icmp .lt off] = true) (ht : (pc : Int) + off = (tgt : Int)) (ha : in32 a) (hb : in32 b) (kt : a < b → Wp d Y S tgt ls st σ Q X) (kf : b ≤ a → Wp d Y S (pc + 3) ls st σ Q X) : Wp d Y S pc ls (vi b :: vi a :: st) σ Q X := by
  intro p l e R s m args below meth c H locs cells slots Fin D ad cI cJ A H0 lsA C hP hD hS hl kr kx
  have e0 := I_lt ha hb
  exact lv_icmp_lt C.1 C.2.1 (segb1 hs) ht (fun q => kt (e0.mp q) p l e R s m args below meth c H locs cells slots Fin D ad cI cJ A H0 lsA C hP hD hS hl kr kx) (fun q => kf (by rw [e0] at q; omega) p l e R s m args below meth c H locs cells slots Fin D ad cI cJ A H0 lsA C hP hD hS hl kr kx)
theorem Wp.icge {off a b : Int} (tgt : Nat) (hs : segb Y.2.1 pc [.if_icmp .ge off] = true) (ht : (pc : Int) + off = (tgt : Int)) (ha : in32 a) (hb : in32 b) (kt : b ≤ a → Wp d Y S tgt ls st σ Q X) (kf : a < b → Wp d Y S (pc + 3) ls st σ Q X) : Wp d Y S pc ls (vi b :: vi a :: st) σ Q X := by
  intro p l e R s m args below meth c H locs cells slots Fin D ad cI cJ A H0 lsA C hP hD hS hl kr kx
  have e0 := I_le hb ha
  exact lv_icmp_ge C.1 C.2.1 (segb1 hs) ht (fun q => kt (e0.mp q) p l e R s m args below meth c H locs cells slots Fin D ad cI cJ A H0 lsA C hP hD hS hl kr kx) (fun q => kf (by rw [e0] at q; omega) p l e R s m args below meth c H locs cells slots Fin D ad cI cJ A H0 lsA C hP hD hS hl kr kx)
theorem Wp.icgt {off a b : Int} (tgt : Nat) (hs : segb Y.2.1 pc [.if_icmp .gt off] = true) (ht : (pc : Int) + off = (tgt : Int)) (ha : in32 a) (hb : in32 b) (kt : b < a → Wp d Y S tgt ls st σ Q X) (kf : a ≤ b → Wp d Y S (pc + 3) ls st σ Q X) : Wp d Y S pc ls (vi b :: vi a :: st) σ Q X := by
  intro p l e R s m args below meth c H locs cells slots Fin D ad cI cJ A H0 lsA C hP hD hS hl kr kx
  have e0 := I_lt hb ha
  exact lv_icmp_gt C.1 C.2.1 (segb1 hs) ht (fun q => kt (e0.mp q) p l e R s m args below meth c H locs cells slots Fin D ad cI cJ A H0 lsA C hP hD hS hl kr kx) (fun q => kf (by rw [e0] at q; omega) p l e R s m args below meth c H locs cells slots Fin D ad cI cJ A H0 lsA C hP hD hS hl kr kx)
theorem Wp.icle {off a b : Int} (tgt : Nat) (hs : segb Y.2.1 pc [.if_icmp .le off] = true) (ht : (pc : Int) + off = (tgt : Int)) (ha : in32 a) (hb : in32 b) (kt : a ≤ b → Wp d Y S tgt ls st σ Q X) (kf : b < a → Wp d Y S (pc + 3) ls st σ Q X) : Wp d Y S pc ls (vi b :: vi a :: st) σ Q X := by
  intro p l e R s m args below meth c H locs cells slots Fin D ad cI cJ A H0 lsA C hP hD hS hl kr kx
  have e0 := I_le ha hb
  exact lv_icmp_le C.1 C.2.1 (segb1 hs) ht (fun q => kt (e0.mp q) p l e R s m args below meth c H locs cells slots Fin D ad cI cJ A H0 lsA C hP hD hS hl kr kx) (fun q => kf (by rw [e0] at q; omega) p l e R s m args below meth c H locs cells slots Fin D ad cI cJ A H0 lsA C hP hD hS hl kr kx)
def wsY (Y : YD) : List Cond := .code Y.1 Y.2.1 Y.2.2.1 Y.2.2.2 :: WA
def Pcs (D : va_G) (ad : Nat → Nat) (cI cJ : ClassId) (S : SH) (σ : HP) (A : Nat → Prop) : State → Prop := fun U => va_P D CL (cw ad cI cJ S σ) U.heap ∧ KK D cI cJ U ∧ va_D A (cw ad cI cJ S σ)
def Qcs (D : va_G) (ad : Nat → Nat) (cI cJ : ClassId) (S : SH) (Q : MQt) (A : Nat → Prop) : Array Value → State → Outcome → State → Prop := fun _ st o t => ∃ (v : Option MV) (σ' : HP), Q v σ' ∧ o = .returned (v.map (cv ad)) ∧ va_P D CL (cw ad cI cJ S σ') t.heap ∧ va_D A (cw ad cI cJ S σ') ∧ va_F A st t
/-- the method, called with these, ends with Q; it uses at most d frames more -/
def Ok (d : Nat) (Y : YD) (S : SH) (as : List MV) (σ : HP) (Q : MQt) : Prop := ∀ (l : Launch) (D : va_G) (ad : Nat → Nat) (cI cJ : ClassId) (A : Nat → Prop), Met l Y.1 (wsY Y) (rmd d) (va_Pc (as.map (cv ad)) (Pcs D ad cI cJ S σ A)) (Qcs D ad cI cJ S Q A) 0 0 A
def ent : List MV → ML
  | [] => []
  | v :: vs => if mcat v = 2 then some v :: none :: ent vs else some v :: ent vs
def entL (n : Nat) (as : List MV) : ML := ent as ++ List.replicate (n - (ent as).length) none
theorem ent_len (ad : Nat → Nat) (as : List MV) : (lg_sl (as.map (cv ad))).length = (ent as).length := by
  induction as with
  | nil => rfl
  | cons v vs ih =>
    simp only [lg_sl, List.map_cons, List.flatMap_cons, List.length_append, cv_cat] at ih ⊢
    by_cases h : mcat v = 2
    · simp [ent, h, ih]; omega
    · simp [ent, h, ih]; omega
theorem ent_args (ad : Nat → Nat) (as : List MV) : ∀ (k i : Nat) (v : MV), (ent as)[i]? = some (some v) → (k + i, cv ad v) ∈ lv_args k (as.map (cv ad)) := by
  induction as with
  | nil => intro k i v h; simp [ent] at h
  | cons w vs ih =>
    intro k i v h
    simp only [List.map_cons, lv_args, cv_cat]
    by_cases hc : mcat w = 2
    · simp only [ent, hc, if_true] at h ⊢
      match i, h with
      | 0, h => simp at h; subst h; exact List.mem_cons_self
      | 1, h => simp at h
      | i + 2, h =>
        simp at h
        have := ih (k + 2) i v h
        rw [show k + (i + 2) = k + 2 + i by omega]
        exact List.mem_cons_of_mem _ this
    · simp only [ent, hc, if_false] at h ⊢
      match i, h with
      | 0, h => simp at h; subst h; exact List.mem_cons_self
      | i + 1, h =>
        simp at h
        have := ih (k + 1) i v h
        rw [show k + (i + 1) = k + 1 + i by omega]
        exact List.mem_cons_of_mem _ this
theorem entL_sub {ad : Nat → Nat} {n : Nat} {as : List MV} : ∀ q ∈ prs ad (entL n as), q ∈ lv_args 0 (as.map (cv ad)) := by
  intro q hq
  obtain ⟨v, h1, h2⟩ := prs_mem.mp hq
  obtain ⟨i, x⟩ := q
  dsimp only at h1 h2
  subst h2
  have h3 : (ent as)[i]? = some (some v) := by
    unfold entL at h1
    by_cases hi : i < (ent as).length
    · rw [List.getElem?_append_left hi] at h1; exact h1
    · rw [List.getElem?_append_right (by omega)] at h1
      have := List.mem_of_getElem? h1
      have := List.eq_of_mem_replicate this
      cases this
  have := ent_args ad as 0 i v h3
  rwa [Nat.zero_add] at this
theorem Ok.ofWp {as : List MV} (hy : plainName Y.1.cls = true) (hn : (ent as).length ≤ Y.2.2.1) (k : Wp d Y S 0 (entL Y.2.2.1 as) [] σ Q (fun _ _ _ _ => False)) : Ok d Y S as σ Q := by
  intro l D ad cI cJ A
  refine Met.ofW (cc := Y.2.1) (maxL := Y.2.2.1) (ret := Y.2.2.2) hy rfl ?_
  intro p e s m args below meth c s₁ B hml hv
  obtain ⟨rfl, hP, hK, hD⟩ := hv
  have hts := atoms_spec (ws := wsY Y) B.pre
  have hown : s.vm.findClass Y.1.cls = some m.cls := findClass_of_methodNamed B.named
  have hlocks := B.notSynchronized
  have hr := B.returns
  have hl := lv_entry (as.map (cv ad)) (n := Y.2.2.1) (by rw [ent_len]; exact hn)
  rw [lg_entry_eq]
  refine k p l e _ s m _ below meth c s.heap [] 0 0 _ D ad cI cJ A s.heap _ ⟨B.exec, B.bytes, hml, hown, fun w hw => hts w (List.mem_cons_of_mem _ hw), hK, Nat.le_refl _, Nat.le_refl _, Nat.zero_le _, Nat.zero_le _⟩ hP hD va_S.rf (lv_less hl entL_sub) ?_ (fun E ik ic σ' H' locs' pc' ls' h => h.elim)
  intro v σ' H' locs' pc' ls' hQ hR hP' hD' hS'
  unfold RetAt at hR
  split at hR
  · next e1 => exact W.vret B.exec B.bytes (hr.trans e1) (fun t ht hW => ⟨none, σ', hQ, rfl, by rw [ht]; exact hP', hD', hS'.F ht⟩) hS'.2.2 hR
  · next z e1 => exact W.iret B.exec B.bytes (hr.trans e1) (fun t ht hW => ⟨some (vi z), σ', hQ, rfl, by rw [ht]; exact hP', hD', hS'.F ht⟩) hS'.2.2 hR
  · next z e1 =>
    refine W.zret B.exec B.bytes (hr.trans e1) ?_ (fun t ht hW => ⟨some (vi z), σ', hQ, rfl, by rw [ht]; exact hP', hD', hS'.F ht⟩) hS'.2.2 hR.1
    rcases hR.2 with h | h <;> rw [h] <;> rfl
  · next z e1 => exact W.lret B.exec B.bytes (hr.trans e1) (fun t ht hW => ⟨some (vl z), σ', hQ, rfl, by rw [ht]; exact hP', hD', hS'.F ht⟩) hS'.2.2 hR
  · exact hR.elim
end Rules
