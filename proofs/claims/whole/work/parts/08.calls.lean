/-! ===== calls ===== -/
section Calls
variable {d : Nat} {Y Yc : YD} {S : SH} {pc : Nat} {ls : ML} {st : List MV} {σ : HP} {Q Qc : MQt} {X : MXt}
theorem WA_good : ∀ w ∈ WA, (w.onTables && w.keeps) = true ∨ ∃ ty, w = .arrayClass ty := fun w h => good_of_word (List.mem_filter.mp h).2
theorem blindP {D : va_G} {ad : Nat → Nat} {cI cJ : ClassId} {σ : HP} {A : Nat → Prop} {av : List Value} : FrameBlind (va_Pc av (Pcs D ad cI cJ S σ A)) := by
  intro a U g mk q
  obtain ⟨q0, qP, qK, qD⟩ := q
  exact ⟨q0, qP, qK.same rfl, qD⟩
theorem lst_cv {ad : Nat → Nat} (v : Option MV) (rest : List MV) : (v.map (cv ad)).toList ++ rest.map (cv ad) = (v.toList ++ rest).map (cv ad) := by cases v <;> rfl
theorem cat_sum {ad : Nat → Nat} (rest : List MV) : ((rest.map (cv ad)).map fun v => v.category).sum = (rest.map mcat).sum := by
  induction rest with
  | nil => rfl
  | cons v r ih => simp only [List.map_cons, List.sum_cons, cv_cat, ih]
/-- behind a call: the world that the callee left -/
theorem Wp.back {rest : List MV} {n : Nat} (k : ∀ (v : Option MV) (σ' : HP), Qc v σ' → Wp n Y S (pc + 3) ls (v.toList ++ rest) σ' Q X)
    {p : Program} {l : Launch} {e : Env} {R : Room} {s : State} {m : MethodId} {args : Array Value} {below : List Frame} {meth : Method} {c : Code} {H : Heap} {locs : List Loc} {cells slots : Nat} {Fin : State → Prop} {D : va_G} {ad : Nat → Nat} {cI cJ : ClassId} {A : Nat → Prop} {H0 : Heap} {lsA : Array Slot} {a : Array Value}
    (C : Cx Y n p R s m args c cells slots D cI cJ) (hS : va_S A H0 H locs) (hl : lv_has lsA Y.2.2.1 (prs ad ls))
    (kr : ∀ (v : Option MV) (σ' : HP) (H' : Heap) (locs' : List Loc) (pc' : Nat) (ls' : Array Slot), Q v σ' → RetAt Y pc' v → va_P D CL (cw ad cI cJ S σ') H' → va_D A (cw ad cI cJ S σ') → va_S A H0 H' locs' → W p l e R s m args below meth c H' locs' cells slots Fin (F0 m pc' ls' (v.toList.map (cv ad))))
    (kx : ∀ (E : String) (ik ic : Nat) (σ' : HP) (H' : Heap) (locs' : List Loc) (pc' : Nat) (ls' : Array Slot), X E ik ic σ' → ThrAt Y pc' E ik ic → va_P D CL (cw ad cI cJ S σ') H' → va_D A (cw ad cI cJ S σ') → va_S A H0 H' locs' → ls'.size = Y.2.2.1 → W p l e R s m args below meth c H' locs' cells slots Fin (F0 m pc' ls' []))
    (hr : va_Run p l e R s m args below meth c H locs cells slots 0 0 (F0 m pc lsA (st.map (cv ad))) (rest.map (cv ad)) (Qcs D ad cI cJ S Qc A a) A) : W p l e R s m args below meth c H locs cells slots Fin (F0 m pc lsA (st.map (cv ad))) := by
  intro T hT Xs
  obtain ⟨v, st₀, t, T', L, h0, X', hL, e1, e2, ⟨v', σ', hq, hv, hP1, hD1, hF⟩, stp⟩ := hr T hT Xs
  obtain ⟨-, -, hS1⟩ := vx_keep h0 e1 hS (fun _ _ h => h) (fun _ h => h) hL hF
  have hv2 : v = v'.map (cv ad) := by injection hv
  subst hv2
  obtain ⟨t2, a1, b1⟩ := k v' σ' hq p l e R s m args below meth c T'.heap (locs ++ L) cells slots Fin D ad cI cJ A H0 lsA C (by rw [e1]; exact hP1) hD1 hS1 hl kr kx T' rfl X'
  refine ⟨t2, stp t2 ?_, b1⟩
  show Steps p.tables e below (T'.setTop (F0 m (pc + 3) lsA ((v'.map (cv ad)).toList ++ rest.map (cv ad)))) t2
  rw [lst_cv]
  exact a1
def siteB (y : YD) (n : Nat) : Bool := decide (Cond.initialized y.1.cls ∈ WA) && decide (Cond.code y.1 y.2.1 y.2.2.1 y.2.2.2 ∈ WA) && decide (y.1.cls ≠ "java/lang/invoke/MethodHandle") && decide (y.1.cls ≠ "java/lang/invoke/VarHandle") && decide ((parseMethodDescriptor y.1.desc).map (fun d => d.parameters.length) = some n) && decide (y.2.2.1 ≤ 81)
def siteV (own : String) (ix : Nat) (y : YD) (ci n : Nat) : Bool := siteB y n && decide (Cond.methodLink own ix y.1 ∈ WA) && decide (Cond.instanceMethod y.1 ∈ WA) && decide (Cond.selects y.1.cls y.1 y.1 ∈ WA) && decide ((CL[ci]?).map (·.1) = some y.1.cls)
def siteS (own : String) (ix : Nat) (y : YD) (n : Nat) : Bool := siteB y n && decide (Cond.methodLink own ix y.1 ∈ WA) && decide (Cond.static y.1 ∈ WA)
def siteN (y : YD) (n : Nat) : Bool := siteB y n && decide (Cond.static y.1 ∈ WA)
theorem Wp.callV {ix ci r n : Nat} {fs : List (Option Nat)} (as rest : List MV) (hd : segb Y.2.1 pc [.invokevirtual ix] = true) (hsite : siteV Y.1.cls ix Yc ci n = true) (hn : as.length = n) (hr : S[r]? = some (.inr (ci, fs))) (hst : st = as.reverse ++ vr r :: rest) (hroom : (rest.map mcat).sum ≤ 8) (hO : Ok d Yc S (vr r :: as) σ Qc)
    (k : ∀ (v : Option MV) (σ' : HP), Qc v σ' → Wp (d + 1) Y S (pc + 3) ls (v.toList ++ rest) σ' Q X) : Wp (d + 1) Y S pc ls st σ Q X := by
  intro p l e R s m args below meth c H locs cells slots Fin D ad cI cJ A H0 lsA C hP hD hS hl kr kx
  obtain ⟨hx, hb, hml, hown, hts, hKK, hfr, hlo, hcl, hsl⟩ := id C
  simp only [siteV, siteB, Bool.and_eq_true, decide_eq_true_eq, ne_eq] at hsite
  obtain ⟨⟨⟨⟨⟨⟨⟨⟨⟨w1, w2⟩, w3⟩, w4⟩, w5⟩, w6⟩, w7⟩, w8⟩, w9⟩, w10⟩ := hsite
  have hT : GoodIn WA (wsV Y.1.cls ix Yc.1.cls Yc.1 (wsY Yc)) := by
    intro w hw
    have hm : w ∈ WA := by
      rcases List.mem_append.mp hw with h | h
      · simp only [List.mem_cons, List.not_mem_nil, or_false] at h
        rcases h with rfl | rfl | rfl | rfl <;> assumption
      · rcases List.mem_cons.mp h with rfl | h
        · exact w2
        · exact h
    exact ⟨hm, WA_good w hm⟩
  obtain ⟨q, hq, hqc⟩ : ∃ q, CL[ci]? = some q ∧ q.1 = Yc.1.cls := by
    cases hc : CL[ci]? with
    | none => rw [hc] at w10; cases w10
    | some q => rw [hc] at w10; exact ⟨q, rfl, Option.some.inj w10⟩
  have hrc := va_recv hKK.1 hP hq (cw_get (ad := ad) (cI := cI) (cJ := cJ) (σ := σ) hr)
  rw [hqc] at hrc
  refine Wp.back (rest := rest) (a := (Value.ref (ad r) :: as.map (cv ad)).toArray) k C hS hl kr kx ?_
  refine va_runV (C := Yc.1.cls) (b := ad r) (As := as.map (cv ad)) ⟨hx, hb, hml, hown, hts⟩ (hO l D ad cI cJ A) (cwV n hts hT rfl rfl rfl ⟨rfl, w3, w4, w5⟩ ⟨?_, ?_⟩) ⟨blindP, hrc, fun U hU hW => ⟨rfl, by rw [hU]; exact hP, hKK.warm hW, hD⟩⟩ rfl (by simp [hn]) hl.1 ?_ (lv_room (by rw [cat_sum]; exact hroom)) (segb1 hd) ⟨hcl, hsl⟩
  · show d + 1 ≤ R.frames; exact hfr
  · show 8 + (Yc.2.2.1 + 11) + 100 * d ≤ R.locals; omega
  · show st.map (cv ad) = _
    rw [hst]; simp [cv]
theorem Wp.callS {ix n : Nat} (as rest : List MV) (hd : segb Y.2.1 pc [.invokestatic ix] = true) (hsite : siteS Y.1.cls ix Yc n = true) (hn : as.length = n) (hst : st = as.reverse ++ rest) (hroom : (rest.map mcat).sum ≤ 8) (hO : Ok d Yc S as σ Qc)
    (k : ∀ (v : Option MV) (σ' : HP), Qc v σ' → Wp (d + 1) Y S (pc + 3) ls (v.toList ++ rest) σ' Q X) : Wp (d + 1) Y S pc ls st σ Q X := by
  intro p l e R s m args below meth c H locs cells slots Fin D ad cI cJ A H0 lsA C hP hD hS hl kr kx
  obtain ⟨hx, hb, hml, hown, hts, hKK, hfr, hlo, hcl, hsl⟩ := id C
  simp only [siteS, siteB, Bool.and_eq_true, decide_eq_true_eq, ne_eq] at hsite
  obtain ⟨⟨⟨⟨⟨⟨⟨w1, w2⟩, w3⟩, w4⟩, w5⟩, w6⟩, w7⟩, w8⟩ := hsite
  have hG : GoodIn WA (wsY Yc) := by
    intro w hw
    have hm : w ∈ WA := by
      rcases List.mem_cons.mp hw with rfl | h
      · exact w2
      · exact h
    exact ⟨hm, WA_good w hm⟩
  refine Wp.back (rest := rest) (a := (as.map (cv ad)).toArray) k C hS hl kr kx ?_
  refine va_runS (As := as.map (cv ad)) ⟨hx, hb, hml, hown, hts⟩ (hO l D ad cI cJ A) ⟨callB_of n hts hG rfl rfl rfl (hts _ w1) (hts _ w7) ⟨w3, w4, w5⟩ ⟨?_, ?_⟩, hts _ w8⟩ ⟨blindP, fun U hU hW => ⟨rfl, by rw [hU]; exact hP, hKK.warm hW, hD⟩⟩ rfl (by simp [hn]) hl.1 ?_ (lv_room (by rw [cat_sum]; exact hroom)) (segb1 hd) ⟨hcl, hsl⟩
  · show d + 1 ≤ R.frames; exact hfr
  · show 8 + (Yc.2.2.1 + 11) + 100 * d ≤ R.locals; omega
  · show st.map (cv ad) = _
    rw [hst]; simp
theorem Wp.callN {ix n : Nat} (as rest : List MV) (hd : segb Y.2.1 pc [.invokestatic ix] = true) (hnw : ∀ U, va_Nw nw0 U ∧ va_Nw nw2 U → va_Nw (.methodLinkNest Y.1.cls ix Yc.1 RX3) U) (hsite : siteN Yc n = true) (hn : as.length = n) (hst : st = as.reverse ++ rest) (hroom : (rest.map mcat).sum ≤ 8) (hO : Ok d Yc S as σ Qc)
    (k : ∀ (v : Option MV) (σ' : HP), Qc v σ' → Wp (d + 1) Y S (pc + 3) ls (v.toList ++ rest) σ' Q X) : Wp (d + 1) Y S pc ls st σ Q X := by
  intro p l e R s m args below meth c H locs cells slots Fin D ad cI cJ A H0 lsA C hP hD hS hl kr kx
  obtain ⟨hx, hb, hml, hown, hts, hKK, hfr, hlo, hcl, hsl⟩ := id C
  simp only [siteN, siteB, Bool.and_eq_true, decide_eq_true_eq, ne_eq] at hsite
  obtain ⟨⟨⟨⟨⟨⟨w1, w2⟩, w3⟩, w4⟩, w5⟩, w6⟩, w8⟩ := hsite
  have hG : GoodIn WA (wsY Yc) := by
    intro w hw
    have hm : w ∈ WA := by
      rcases List.mem_cons.mp hw with rfl | h
      · exact w2
      · exact h
    exact ⟨hm, WA_good w hm⟩
  refine Wp.back (rest := rest) (a := (as.map (cv ad)).toArray) k C hS hl kr kx ?_
  refine va_runSN (As := as.map (cv ad)) ⟨hx, hb, hml, hown, hts⟩ (hO l D ad cI cJ A) ⟨va_cnB n hts hG rfl rfl rfl (hnw s hKK.2) (hts _ w1) ⟨w3, w4, w5⟩ ⟨?_, ?_⟩, hts _ w8, trivial⟩ ⟨blindP, fun U hU hW => ⟨rfl, by rw [hU]; exact hP, hKK.warm hW, hD⟩⟩ rfl (by simp [hn]) hl.1 ?_ (lv_room (by rw [cat_sum]; exact hroom)) (segb1 hd) ⟨hcl, hsl⟩
  · show d + 1 ≤ R.frames; exact hfr
  · show 8 + (Yc.2.2.1 + 11) + 100 * d ≤ R.locals; omega
  · show st.map (cv ad) = _
    rw [hst]; simp
/-- one row of ints over another, from their beginnings -/
def cpy (σ : HP) (a b n : Nat) : HP := fun r j => if r = b ∧ j < n then σ a j else σ r j
def siteC (own : String) (ix : Nat) : Bool := decide (Cond.methodLink own ix arraycopyName ∈ WA) && decide (Cond.native arraycopyName ∈ WA) && decide (Cond.static arraycopyName ∈ WA) && decide (Cond.initialized "java/lang/System" ∈ WA)
theorem Wp.copy {ix a b n na nb : Nat} {rest : List MV} (hd : segb Y.2.1 pc [.invokestatic ix] = true) (hsite : siteC Y.1.cls ix = true) (ha : S[a]? = some (.inl (.inl na))) (hb' : S[b]? = some (.inl (.inl nb))) (hna : n ≤ na) (hnb : n ≤ nb) (hn : n < 2147483648) (hroom : (rest.map mcat).sum ≤ 8)
    (k : Wp (d + 1) Y S (pc + 3) ls rest (cpy σ a b n) Q X) : Wp (d + 1) Y S pc ls (vi n :: vi 0 :: vr b :: vi 0 :: vr a :: rest) σ Q X := by
  intro p l e R s m args below meth c H locs cells slots Fin D ad cI cJ A H0 lsA C hP hD hS hl kr kx
  obtain ⟨hx, hb, hml, hown, hts, hKK, hfr, hlo, hcl, hsl⟩ := id C
  simp only [siteC, Bool.and_eq_true, decide_eq_true_eq] at hsite
  obtain ⟨⟨⟨w1, w2⟩, w3⟩, w4⟩ := hsite
  have g0 : (cw ad cI cJ S σ)[a]? = some (ad a, .inl (cI, na, .inl (fun j => Int32.ofInt (σ a j)))) := cw_get ha
  have g1 : (cw ad cI cJ S σ)[b]? = some (ad b, .inl (cI, nb, .inl (fun j => Int32.ofInt (σ b j)))) := cw_get hb'
  have hn32 : in32 (n : Int) := ⟨by omega, by omega⟩
  have en : (Int32.ofInt (n : Int)).toNatClampNeg = n := by
    show (Int32.ofInt (n : Int)).toInt.toNat = n
    rw [I_toInt hn32]; simp
  have e0 : (Int32.ofInt 0).toNatClampNeg = 0 := rfl
  refine va_copyi (sp := Int32.ofInt 0) (dp := Int32.ofInt 0) (n := Int32.ofInt n) (ty := .int) hx hb (hml.trans hl.1.symm) hown (hts _ w1) (hts _ w2) (hts _ w3) (hts _ w4) hKK.1 hP hD hS a b 0 0 g0 g1 rfl rfl rfl ?_ ?_ ?_ ?_ ?_ (fun i _ => rfl) (by omega) ?_ (segb1 hd) (fun H1 locs1 hP1 hD1 hS1 => ?_)
  · rw [I_lt0 i0]; omega
  · rw [I_lt0 i0]; omega
  · rw [I_lt0 hn32]; omega
  · rw [en, e0]; omega
  · rw [en, e0]; omega
  · rw [cat_sum]
    have : nativeFrameWords "java/lang/System" "arraycopy" 5 + 11 ≤ 60 := by decide +kernel
    omega
  · rw [en, e0] at hP1 hD1
    have hset : (cw ad cI cJ S σ).set b (ad b, .inl (cI, nb, .inl (va_cpy (fun j => Int32.ofInt (σ a j)) (fun j => Int32.ofInt (σ b j)) 0 0 n))) = cw ad cI cJ S (cpy σ a b n) := by
      have hlb : b < S.length := (List.getElem?_eq_some_iff.mp hb').1
      apply List.ext_getElem?
      intro q
      by_cases hq : q = b
      · subst hq
        rw [List.getElem?_set_self (by rw [cw_len]; exact hlb), cw_get hb']
        simp only [ce, Option.some.injEq, Prod.mk.injEq, true_and, Sum.inl.injEq]
        funext j
        by_cases hj : j < n <;> simp [va_cpy, cpy, hj]
      · rw [List.getElem?_set_ne (Ne.symm hq)]
        simp only [cw, List.getElem?_mapIdx]
        cases hs : S[q]? with
        | none => rfl
        | some c' =>
          have : ce ad cI cJ (cpy σ a b n) q c' = ce ad cI cJ σ q c' := by
            rcases c' with (n' | n') | ⟨ci, fs⟩
            · simp [ce, cpy, hq]
            · simp [ce, cpy, hq]
            · have h9 : cf ad (cpy σ a b n) q = cf ad σ q := by
                funext i f
                cases f <;> simp [cf, cpy, hq]
              simp [ce, h9]
          simp [this]
    rw [hset] at hP1 hD1
    exact k p l e R s m args below meth c H1 locs1 cells slots Fin D ad cI cJ A H0 lsA C hP1 hD1 hS1 hl kr kx
end Calls
