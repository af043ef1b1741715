/-! ===== what it is that the small machine stands at a place of a method ===== -/
def mcat (v : MV) : Nat := match v with
  | .inr (.inl _) => 2
  | _ => 1
theorem cv_cat (ad : Nat → Nat) (v : MV) : (cv ad v).category = mcat v := by
  rcases v with z | z | r <;> rfl
def prs (ad : Nat → Nat) (ls : ML) : List (Nat × Value) := ls.zipIdx.filterMap (fun q => q.1.map (fun v => (q.2, cv ad v)))
theorem prs_mem {ad : Nat → Nat} {ls : ML} {q : Nat × Value} : q ∈ prs ad ls ↔ ∃ v, ls[q.1]? = some (some v) ∧ q.2 = cv ad v := by
  obtain ⟨i, w⟩ := q
  simp only [prs, List.mem_filterMap, List.mem_zipIdx_iff_getElem?, Option.map_eq_some_iff, Prod.mk.injEq]
  constructor
  · rintro ⟨⟨o, j⟩, h1, v, h2, h3, h4⟩
    dsimp only at h1 h2 h3 h4
    subst h2; subst h3
    exact ⟨v, h1, h4.symm⟩
  · rintro ⟨v, h1, h2⟩
    exact ⟨(some v, i), h1, v, rfl, rfl, h2.symm⟩
theorem lv_less {ls : Array Slot} {nL : Nat} {l l' : List (Nat × Value)} (h : lv_has ls nL l) (hs : ∀ q ∈ l', q ∈ l) : lv_has ls nL l' := ⟨h.1, h.2.1, fun q hq => h.2.2 q (hs q hq)⟩
def isL (o : Option (Option MV)) : Bool := match o with
  | some (some (.inr (.inl _))) => true
  | _ => false
def kil (ls : ML) (i : Nat) : ML := match i with
  | 0 => ls
  | j + 1 => if isL ls[j]? = true then ls.set j none else ls
def sto1 (ls : ML) (i : Nat) (v : MV) : ML := (kil ls i).set i (some v)
def sto2 (ls : ML) (i : Nat) (v : MV) : ML := ((kil ls i).set i (some v)).set (i + 1) none
theorem kil_get {ls : ML} {i k : Nat} {w : MV} (h : (kil ls i)[k]? = some (some w)) : ls[k]? = some (some w) ∧ ¬ (k + 1 = i ∧ mcat w = 2) := by
  cases i with
  | zero => exact ⟨h, fun q => by omega⟩
  | succ j =>
    simp only [kil] at h
    split at h
    · next hl =>
      by_cases hk : k = j
      · subst hk
        by_cases hb : k < ls.length
        · rw [List.getElem?_set_self hb] at h; cases h
        · rw [List.getElem?_eq_none (by simp; omega)] at h; cases h
      · rw [List.getElem?_set_ne (Ne.symm hk)] at h
        exact ⟨h, fun q => by omega⟩
    · next hl =>
      refine ⟨h, fun q => ?_⟩
      have hk : k = j := by omega
      subst hk
      rw [h] at hl
      rcases w with z | z | r <;> simp_all [isL, mcat]
theorem sto1_sub {ad : Nat → Nat} {ls : ML} {i : Nat} {v : MV} : ∀ q ∈ prs ad (sto1 ls i v), q ∈ (i, cv ad v) :: (prs ad ls).filter (fun q => !(q.1 == i) && !(q.1 + 1 == i && q.2.category == 2)) := by
  intro q hq
  obtain ⟨w, h1, h2⟩ := prs_mem.mp hq
  obtain ⟨k, x⟩ := q
  dsimp only at h1 h2
  by_cases hk : k = i
  · subst hk
    have hb : k < (kil ls k).length := by
      have := (List.getElem?_eq_some_iff.mp h1).1
      simpa [sto1] using this
    unfold sto1 at h1
    rw [List.getElem?_set_self hb] at h1
    cases h1
    rw [h2]
    exact List.mem_cons_self
  · unfold sto1 at h1
    rw [List.getElem?_set_ne (Ne.symm hk)] at h1
    obtain ⟨h3, h4⟩ := kil_get h1
    refine List.mem_cons_of_mem _ (List.mem_filter.mpr ⟨prs_mem.mpr ⟨w, h3, h2⟩, ?_⟩)
    rw [h2, cv_cat]
    simp only [Bool.and_eq_true, Bool.not_eq_true', beq_eq_false_iff_ne, ne_eq, Bool.and_eq_false_iff]
    refine ⟨hk, ?_⟩
    by_cases hc : k + 1 = i
    · exact Or.inr fun q => h4 ⟨hc, q⟩
    · exact Or.inl hc
theorem sto2_sub {ad : Nat → Nat} {ls : ML} {i : Nat} {v : MV} : ∀ q ∈ prs ad (sto2 ls i v), q ∈ (i, cv ad v) :: (prs ad ls).filter (fun q => !(q.1 == i) && (!(q.1 == i + 1) && !(q.1 + 1 == i && q.2.category == 2))) := by
  intro q hq
  obtain ⟨w, h1, h2⟩ := prs_mem.mp hq
  obtain ⟨k, x⟩ := q
  dsimp only at h1 h2
  unfold sto2 at h1
  have hk1 : k ≠ i + 1 := by
    intro hk
    subst hk
    by_cases hb : i + 1 < ((kil ls i).set i (some v)).length
    · rw [List.getElem?_set_self hb] at h1; cases h1
    · rw [List.getElem?_eq_none (by simp at hb ⊢; omega)] at h1; cases h1
  rw [List.getElem?_set_ne (Ne.symm hk1)] at h1
  by_cases hk : k = i
  · subst hk
    have hb : k < (kil ls k).length := by
      have := (List.getElem?_eq_some_iff.mp h1).1
      simpa using this
    rw [List.getElem?_set_self hb] at h1
    cases h1
    rw [h2]
    exact List.mem_cons_self
  · rw [List.getElem?_set_ne (Ne.symm hk)] at h1
    obtain ⟨h3, h4⟩ := kil_get h1
    refine List.mem_cons_of_mem _ (List.mem_filter.mpr ⟨prs_mem.mpr ⟨w, h3, h2⟩, ?_⟩)
    rw [h2, cv_cat]
    simp only [Bool.and_eq_true, Bool.not_eq_true', beq_eq_false_iff_ne, ne_eq, Bool.and_eq_false_iff]
    refine ⟨hk, hk1, ?_⟩
    by_cases hc : k + 1 = i
    · exact Or.inr fun q => h4 ⟨hc, q⟩
    · exact Or.inl hc
def leL (a b : ML) : Prop := ∀ (i : Nat) (v : MV), a[i]? = some (some v) → b[i]? = some (some v)
theorem leL_0 {b : ML} : leL [] b := fun i v h => by simp at h
theorem leL_n {a b : ML} {o : Option MV} (h : leL a b) : leL (none :: a) (o :: b) := fun i v q => by
  cases i with
  | zero => simp at q
  | succ i => simp at q ⊢; exact h i v q
theorem leL_s {a b : ML} {w : Option MV} (h : leL a b) : leL (w :: a) (w :: b) := fun i v q => by
  cases i with
  | zero => simpa using q
  | succ i => simp at q ⊢; exact h i v q
theorem leL_r {a : ML} : leL a a := fun _ _ h => h
/-- the nest mates' call of isIn -/
def nw0 : Cond := .methodLinkNest RX0 39 yX3_isIn RX3
def nw2 : Cond := .methodLinkNest RX2 38 yX3_isIn RX3
def KK (D : va_G) (cI cJ : ClassId) (U : State) : Prop := va_K D CL [(cI, .int), (cJ, .long)] U ∧ va_Nw nw0 U ∧ va_Nw nw2 U
theorem KK.warm {D : va_G} {cI cJ : ClassId} {s U : State} (hW : s.WarmedH U.vm) (h : KK D cI cJ s) : KK D cI cJ U := ⟨va_K.moved hW.alike h.1, va_Nw.warmM hW h.2.1, va_Nw.warmM hW h.2.2⟩
theorem KK.same {D : va_G} {cI cJ : ClassId} {s U : State} (hv : s.vm = U.vm) (h : KK D cI cJ s) : KK D cI cJ U := ⟨va_K.moved (by rw [hv]; exact Vm.Alike.refl U.vm) h.1, va_Nw.same rfl hv h.2.1, va_Nw.same rfl hv h.2.2⟩
def rmd (d : Nat) : Room := { frames := d, cells := 0, slots := 0, locals := 100 * d }
def Cx (Y : YD) (d : Nat) (p : Program) (R : Room) (s : State) (m : MethodId) (args : Array Value) (c : Code) (cells slots : Nat) (D : va_G) (cI cJ : ClassId) : Prop :=
  p.tables.exec = Jvm.exec ∧ c.code = Y.2.1 ∧ c.maxLocals = Y.2.2.1 ∧ s.vm.findClass Y.1.cls = some m.cls ∧ (∀ w ∈ WA, w.before args s = true) ∧ KK D cI cJ s ∧ d ≤ R.frames ∧ 100 * d ≤ R.locals ∧ cells ≤ R.cells ∧ slots ≤ R.slots
def RetAt (Y : YD) (pc : Nat) (v : Option MV) : Prop := match Y.2.2.2, v with
  | none, none => decode Y.2.1 pc = .ok (.return_, 1)
  | some .int, some (.inl _) => decode Y.2.1 pc = .ok (.ireturn, 1)
  | some .boolean, some (.inl z) => decode Y.2.1 pc = .ok (.ireturn, 1) ∧ (z = 0 ∨ z = 1)
  | some .long, some (.inr (.inl _)) => decode Y.2.1 pc = .ok (.lreturn, 1)
  | _, _ => False
/-- 'throw new E()' stands here -/
def ThrAt (Y : YD) (pc : Nat) (E : String) (ik ic : Nat) : Prop := decode Y.2.1 pc = .ok (.new ik, 3) ∧ decode Y.2.1 (pc + 3) = .ok (.dup, 1) ∧ decode Y.2.1 (pc + 4) = .ok (.invokespecial ic, 3) ∧ decode Y.2.1 (pc + 7) = .ok (.athrow, 1)
abbrev MQt : Type := Option MV → HP → Prop
abbrev MXt : Type := String → Nat → Nat → HP → Prop
/-- the method stands at pc with these locals, this stack, this heap: it comes to its end, with Q; or throws, with X -/
def Wp (d : Nat) (Y : YD) (S : SH) (pc : Nat) (ls : ML) (st : List MV) (σ : HP) (Q : MQt) (X : MXt) : Prop :=
  ∀ (p : Program) (l : Launch) (e : Env) (R : Room) (s : State) (m : MethodId) (args : Array Value) (below : List Frame) (meth : Method) (c : Code) (H : Heap) (locs : List Loc) (cells slots : Nat) (Fin : State → Prop) (D : va_G) (ad : Nat → Nat) (cI cJ : ClassId) (A : Nat → Prop) (H0 : Heap) (lsA : Array Slot),
    Cx Y d p R s m args c cells slots D cI cJ → va_P D CL (cw ad cI cJ S σ) H → va_D A (cw ad cI cJ S σ) → va_S A H0 H locs → lv_has lsA Y.2.2.1 (prs ad ls) →
    (∀ (v : Option MV) (σ' : HP) (H' : Heap) (locs' : List Loc) (pc' : Nat) (ls' : Array Slot), Q v σ' → RetAt Y pc' v → va_P D CL (cw ad cI cJ S σ') H' → va_D A (cw ad cI cJ S σ') → va_S A H0 H' locs' → W p l e R s m args below meth c H' locs' cells slots Fin (F0 m pc' ls' (v.toList.map (cv ad)))) →
    (∀ (E : String) (ik ic : Nat) (σ' : HP) (H' : Heap) (locs' : List Loc) (pc' : Nat) (ls' : Array Slot), X E ik ic σ' → ThrAt Y pc' E ik ic → va_P D CL (cw ad cI cJ S σ') H' → va_D A (cw ad cI cJ S σ') → va_S A H0 H' locs' → ls'.size = Y.2.2.1 → W p l e R s m args below meth c H' locs' cells slots Fin (F0 m pc' ls' [])) →
    W p l e R s m args below meth c H locs cells slots Fin (F0 m pc lsA (st.map (cv ad)))
theorem Wp.forget {d : Nat} {Y : YD} {S : SH} {pc : Nat} {ls ls' : ML} {st : List MV} {σ : HP} {Q : MQt} {X : MXt} (h : leL ls' ls) (k : Wp d Y S pc ls' st σ Q X) : Wp d Y S pc ls st σ Q X := by
  intro p l e R s m args below meth c H locs cells slots Fin D ad cI cJ A H0 lsA C hP hD hS hl kr kx
  refine k p l e R s m args below meth c H locs cells slots Fin D ad cI cJ A H0 lsA C hP hD hS (lv_less hl fun q hq => ?_) kr kx
  obtain ⟨v, h1, h2⟩ := prs_mem.mp hq
  exact prs_mem.mpr ⟨v, h _ _ h1, h2⟩
theorem Wp.mono {d : Nat} {Y : YD} {S : SH} {pc : Nat} {ls : ML} {st : List MV} {σ : HP} {Q Q' : MQt} {X X' : MXt} (hQ : ∀ v σ', Q' v σ' → Q v σ') (hX : ∀ E i j σ', X' E i j σ' → X E i j σ') (k : Wp d Y S pc ls st σ Q' X') : Wp d Y S pc ls st σ Q X := by
  intro p l e R s m args below meth c H locs cells slots Fin D ad cI cJ A H0 lsA C hP hD hS hl kr kx
  exact k p l e R s m args below meth c H locs cells slots Fin D ad cI cJ A H0 lsA C hP hD hS hl (fun v σ' H' locs' pc' ls' q => kr v σ' H' locs' pc' ls' (hQ v σ' q)) (fun E ik ic σ' H' locs' pc' ls' q => kx E ik ic σ' H' locs' pc' ls' (hX E ik ic σ' q))
theorem Wp.ret {d : Nat} {Y : YD} {S : SH} {pc : Nat} {ls : ML} {v : Option MV} {σ : HP} {Q : MQt} {X : MXt} (hr : RetAt Y pc v) (hq : Q v σ) : Wp d Y S pc ls v.toList σ Q X := by
  intro p l e R s m args below meth c H locs cells slots Fin D ad cI cJ A H0 lsA C hP hD hS hl kr kx
  exact kr v σ H locs pc lsA hq hr hP hD hS
theorem Wp.thr {d : Nat} {Y : YD} {S : SH} {pc : Nat} {ls : ML} {σ : HP} {Q : MQt} {X : MXt} {E : String} {ik ic : Nat} (hr : ThrAt Y pc E ik ic) (hq : X E ik ic σ) : Wp d Y S pc ls [] σ Q X := by
  intro p l e R s m args below meth c H locs cells slots Fin D ad cI cJ A H0 lsA C hP hD hS hl kr kx
  exact kx E ik ic σ H locs pc lsA hq hr hP hD hS hl.1
