/-! ===== a step of the small machine is a step of the machine ===== -/
section Sound
variable {d : Nat} {Y : YD} {S : SH} {pc : Nat} {ls : ML} {st : List MV} {σ : HP} {Q : MQt} {X : MXt}
theorem prs_I {ad : Nat → Nat} {lsA : Array Slot} {nL i : Nat} {v : MV} (hl : lv_has lsA nL (prs ad ls)) (h : ls[i]? = some (some v)) : lsA[i]? = some (.val (cv ad v)) := hl.2.2 (i, cv ad v) (prs_mem.mpr ⟨v, h, rfl⟩)
theorem gI_spec {i : Nat} {k : Int → Prop} (h : gI ls i k) : ∃ z, ls[i]? = some (some (vi z)) ∧ k z := by
  unfold gI at h
  split at h
  · next z e => exact ⟨z, e, h⟩
  · cases h
theorem gL_spec {i : Nat} {k : Int → Prop} (h : gL ls i k) : ∃ z, ls[i]? = some (some (vl z)) ∧ k z := by
  unfold gL at h
  split at h
  · next z e => exact ⟨z, e, h⟩
  · cases h
theorem gR_spec {i : Nat} {k : Nat → Prop} (h : gR ls i k) : ∃ z, ls[i]? = some (some (vr z)) ∧ k z := by
  unfold gR at h
  split at h
  · next z e => exact ⟨z, e, h⟩
  · cases h
theorem o1_spec {k : Int → List MV → Prop} (h : o1 st k) : ∃ a st', st = vi a :: st' ∧ k a st' := by
  unfold o1 at h
  split at h
  · exact ⟨_, _, rfl, h⟩
  · cases h
theorem o2_spec {k : Int → Int → List MV → Prop} (h : o2 st k) : ∃ a b st', st = vi b :: vi a :: st' ∧ k a b st' := by
  unfold o2 at h
  split at h
  · exact ⟨_, _, _, rfl, h⟩
  · cases h
theorem l1_spec {k : Int → List MV → Prop} (h : l1 st k) : ∃ a st', st = vl a :: st' ∧ k a st' := by
  unfold l1 at h
  split at h
  · exact ⟨_, _, rfl, h⟩
  · cases h
theorem l2_spec {k : Int → Int → List MV → Prop} (h : l2 st k) : ∃ a b st', st = vl b :: vl a :: st' ∧ k a b st' := by
  unfold l2 at h
  split at h
  · exact ⟨_, _, _, rfl, h⟩
  · cases h
theorem r1_spec {k : Nat → List MV → Prop} (h : r1 st k) : ∃ r st', st = vr r :: st' ∧ k r st' := by
  unfold r1 at h
  split at h
  · exact ⟨_, _, rfl, h⟩
  · cases h
theorem lv_st1 {ad : Nat → Nat} {lsB : Array Slot} {nL i : Nat} {v : MV} (h : lv_has lsB nL ((i, cv ad v) :: (prs ad ls).filter (fun q => !(q.1 == i) && !(q.1 + 1 == i && q.2.category == 2)))) : lv_has lsB nL (prs ad (sto1 ls i v)) := lv_less h sto1_sub
theorem lv_st2 {ad : Nat → Nat} {lsB : Array Slot} {nL i : Nat} {v : MV} (h : lv_has lsB nL ((i, cv ad v) :: (prs ad ls).filter (fun q => !(q.1 == i) && (!(q.1 == i + 1) && !(q.1 + 1 == i && q.2.category == 2))))) : lv_has lsB nL (prs ad (sto2 ls i v)) := lv_less h sto2_sub
theorem prs_at {ad : Nat → Nat} {i : Nat} {v : MV} (h : ls[i]? = some (some v)) : ∃ k : Nat, (prs ad ls)[k]? = some (i, cv ad v) := List.getElem?_of_mem (prs_mem.mpr ⟨v, h, rfl⟩)
theorem aI_use {ad : Nat → Nat} {cI cJ : ClassId} {r : Nat} {i : Int} (h : aI S r i) : ∃ n : Nat, S[r]? = some (.inl (.inl n)) ∧ (cw ad cI cJ S σ)[r]? = some (ad r, .inl (cI, n, .inl (fun j => Int32.ofInt (σ r j)))) ∧ vp_in (Int32.ofInt i) n ∧ (Int32.ofInt i).toNatClampNeg = i.toNat := by
  obtain ⟨n, h1, h2, h3, h4⟩ := h
  obtain ⟨h5, h6⟩ := I_cl (n := n) ⟨h2, h3⟩ h4
  exact ⟨n, h1, cw_get h1, h5, h6⟩
theorem aJ_use {ad : Nat → Nat} {cI cJ : ClassId} {r : Nat} {i : Int} (h : aJ S r i) : ∃ n : Nat, S[r]? = some (.inl (.inr n)) ∧ (cw ad cI cJ S σ)[r]? = some (ad r, .inl (cJ, n, .inr (.inl (fun j => Int64.ofInt (σ r j))))) ∧ vp_in (Int32.ofInt i) n ∧ (Int32.ofInt i).toNatClampNeg = i.toNat := by
  obtain ⟨n, h1, h2, h3, h4⟩ := h
  obtain ⟨h5, h6⟩ := I_cl (n := n) ⟨h2, h3⟩ h4
  exact ⟨n, h1, cw_get h1, h5, h6⟩
theorem upd_I {r j : Nat} {v : Int} : upd (fun k => Int32.ofInt (σ r k)) j (Int32.ofInt v) = fun k => Int32.ofInt (up σ r j v r k) := by
  funext k
  by_cases h : k = j <;> simp [upd, up, h]
theorem upd_J {r j : Nat} {v : Int} : vp_updL (fun k => Int64.ofInt (σ r k)) j (Int64.ofInt v) = fun k => Int64.ofInt (up σ r j v r k) := by
  funext k
  by_cases h : k = j <;> simp [vp_updL, up, h]
theorem set_F {ad : Nat → Nat} {r k : Nat} {v : Int} {fs : List (Option Nat)} (h : fs[k]? = some none) : (fs.mapIdx (cf ad σ r)).set k (.int (Int32.ofInt v)) = fs.mapIdx (cf ad (up σ r k v) r) := by
  have hl := (List.getElem?_eq_some_iff.mp h).1
  apply List.ext_getElem?
  intro i
  by_cases hi : i = k
  · subst hi
    rw [List.getElem?_set_self (by simpa using hl)]
    simp [h, cf, up]
  · rw [List.getElem?_set_ne (Ne.symm hi)]
    simp only [List.getElem?_mapIdx]
    cases fs[i]? with
    | none => rfl
    | some f => cases f <;> simp [cf, up, hi]
set_option maxHeartbeats 4000000 in
theorem one_sound {F : List (Nat × Nat × Nat)} {i : Instr} {K : ML → List MV → HP → Prop} (hF : fokb Y.1.cls F = true) (hd : decode Y.2.1 pc = .ok (i, ilen i)) (h : one F S Y.2.2.1 i ls st σ K)
    (k : ∀ ls' st' σ', K ls' st' σ' → Wp d Y S (pc + ilen i) ls' st' σ' Q X) : Wp d Y S pc ls st σ Q X := by
  intro p l e R s m args below meth c H locs cells slots Fin D ad cI cJ A H0 lsA C hP hD hS hl kr kx
  obtain ⟨hx, hb, hml, hown, hts, hKK, hfr, hlo, hcl, hsl⟩ := id C
  have go : ∀ ls' st' σ' H' locs' lsA', K ls' st' σ' → va_P D CL (cw ad cI cJ S σ') H' → va_D A (cw ad cI cJ S σ') → va_S A H0 H' locs' → lv_has lsA' Y.2.2.1 (prs ad ls') → W p l e R s m args below meth c H' locs' cells slots Fin (F0 m (pc + ilen i) lsA' (st'.map (cv ad))) :=
    fun ls' st' σ' H' locs' lsA' hK hP hD hS hl => k ls' st' σ' hK p l e R s m args below meth c H' locs' cells slots Fin D ad cI cJ A H0 lsA' C hP hD hS hl kr kx
  cases i with
  | iconst z => exact lv_iconst hx hb hd rfl (go _ (vi z :: st) _ _ _ _ h hP hD hS hl)
  | bipush z => exact lv_bipush hx hb hd h.1 (go _ (vi z :: st) _ _ _ _ h.2 hP hD hS hl)
  | sipush z => exact lv_sipush hx hb hd h.1 (go _ (vi z :: st) _ _ _ _ h.2 hP hD hS hl)
  | lconst z => exact lv_lconst hx hb hd rfl (go _ (vl (z : Nat) :: st) _ _ _ _ h hP hD hS hl)
  | iload_n n => obtain ⟨z, h1, h2⟩ := gI_spec h; exact lv_iload_n hx hb hd rfl (prs_I hl h1) (go _ (vi z :: st) _ _ _ _ h2 hP hD hS hl)
  | iload n => obtain ⟨z, h1, h2⟩ := gI_spec h; exact lv_iload hx hb hd (prs_I hl h1) (go _ (vi z :: st) _ _ _ _ h2 hP hD hS hl)
  | lload_n n => obtain ⟨z, h1, h2⟩ := gL_spec h; exact lv_lload_n hx hb hd rfl (prs_I hl h1) (go _ (vl z :: st) _ _ _ _ h2 hP hD hS hl)
  | lload n => obtain ⟨z, h1, h2⟩ := gL_spec h; exact lv_lload hx hb hd (prs_I hl h1) (go _ (vl z :: st) _ _ _ _ h2 hP hD hS hl)
  | aload_n n => obtain ⟨z, h1, h2⟩ := gR_spec h; exact lv_aload_n hx hb hd rfl (prs_I hl h1) (go _ (vr z :: st) _ _ _ _ h2 hP hD hS hl)
  | aload n => obtain ⟨z, h1, h2⟩ := gR_spec h; exact lv_aload hx hb hd (prs_I hl h1) (go _ (vr z :: st) _ _ _ _ h2 hP hD hS hl)
  | istore_n n => obtain ⟨z, st', rfl, h1, h2⟩ := o1_spec h; exact lv_istore_n hx hb hd rfl hl h1 rfl (fun lsB hB => go _ st' _ _ _ lsB h2 hP hD hS (lv_st1 (v := vi z) hB))
  | istore n => obtain ⟨z, st', rfl, h1, h2⟩ := o1_spec h; exact lv_istore hx hb hd hl h1 rfl (fun lsB hB => go _ st' _ _ _ lsB h2 hP hD hS (lv_st1 (v := vi z) hB))
  | lstore_n n => obtain ⟨z, st', rfl, h1, h2⟩ := l1_spec h; exact lv_lstore_n hx hb hd rfl hl h1 rfl (fun lsB hB => go _ st' _ _ _ lsB h2 hP hD hS (lv_st2 (v := vl z) hB))
  | lstore n => obtain ⟨z, st', rfl, h1, h2⟩ := l1_spec h; exact lv_lstore hx hb hd hl h1 rfl (fun lsB hB => go _ st' _ _ _ lsB h2 hP hD hS (lv_st2 (v := vl z) hB))
  | astore_n n => obtain ⟨z, st', rfl, h1, h2⟩ := r1_spec h; exact lv_astore_n hx hb hd rfl hl h1 rfl (fun lsB hB => go _ st' _ _ _ lsB h2 hP hD hS (lv_st1 (v := vr z) hB))
  | astore n => obtain ⟨z, st', rfl, h1, h2⟩ := r1_spec h; exact lv_astore hx hb hd hl h1 rfl (fun lsB hB => go _ st' _ _ _ lsB h2 hP hD hS (lv_st1 (v := vr z) hB))
  | iinc n z =>
    obtain ⟨x, h0, h1, h2⟩ := gI_spec h
    obtain ⟨q, hq⟩ := prs_at (ad := ad) h0
    exact lv_iinc hx hb hd hl hq (I_add x z) h1 rfl (fun lsB hB => go _ st _ _ _ lsB h2 hP hD hS (lv_st1 (v := vi (x + z)) hB))
  | iadd => obtain ⟨a, b, st', rfl, h1⟩ := o2_spec h; exact lv_iadd hx hb hd (by rw [I_add]; exact go _ (vi (a + b) :: st') _ _ _ _ h1 hP hD hS hl)
  | isub => obtain ⟨a, b, st', rfl, h1⟩ := o2_spec h; exact lv_isub hx hb hd (by rw [I_sub]; exact go _ (vi (a - b) :: st') _ _ _ _ h1 hP hD hS hl)
  | imul => obtain ⟨a, b, st', rfl, h1⟩ := o2_spec h; exact lv_imul hx hb hd (by rw [I_mul]; exact go _ (vi (a * b) :: st') _ _ _ _ h1 hP hD hS hl)
  | idiv => obtain ⟨a, b, st', rfl, h0, h1⟩ := o2_spec h; exact lv_idiv hx hb hd (I_div h0).1 (by rw [(I_div h0).2.1]; exact go _ (vi (a / b) :: st') _ _ _ _ h1 hP hD hS hl)
  | irem => obtain ⟨a, b, st', rfl, h0, h1⟩ := o2_spec h; exact lv_irem hx hb hd (I_div h0).1 (by rw [(I_div h0).2.2]; exact go _ (vi (a % b) :: st') _ _ _ _ h1 hP hD hS hl)
  | iand => obtain ⟨a, b, st', rfl, h1⟩ := o2_spec h; exact lv_iand hx hb hd (by rw [← I_of (Int32.ofInt a &&& Int32.ofInt b)]; exact go _ (vi (bA a b) :: st') _ _ _ _ h1 hP hD hS hl)
  | ior => obtain ⟨a, b, st', rfl, h1⟩ := o2_spec h; exact lv_ior hx hb hd (by rw [← I_of (Int32.ofInt a ||| Int32.ofInt b)]; exact go _ (vi (bO a b) :: st') _ _ _ _ h1 hP hD hS hl)
  | ixor => obtain ⟨a, b, st', rfl, h1⟩ := o2_spec h; exact lv_ixor hx hb hd (by rw [← I_of (Int32.ofInt a ^^^ Int32.ofInt b)]; exact go _ (vi (bX a b) :: st') _ _ _ _ h1 hP hD hS hl)
  | ishl => obtain ⟨a, b, st', rfl, h1⟩ := o2_spec h; exact lv_ishl hx hb hd (by rw [← I_of (Int32.ofInt a <<< (Int32.ofInt b &&& 31))]; exact go _ (vi (bL a b) :: st') _ _ _ _ h1 hP hD hS hl)
  | ishr => obtain ⟨a, b, st', rfl, h1⟩ := o2_spec h; exact lv_ishr hx hb hd (by rw [← I_of (Int32.ofInt a >>> (Int32.ofInt b &&& 31))]; exact go _ (vi (bR a b) :: st') _ _ _ _ h1 hP hD hS hl)
  | ladd => obtain ⟨a, b, st', rfl, h1⟩ := l2_spec h; exact lv_ladd hx hb hd (by rw [J_add]; exact go _ (vl (a + b) :: st') _ _ _ _ h1 hP hD hS hl)
  | lsub => obtain ⟨a, b, st', rfl, h1⟩ := l2_spec h; exact lv_lsub hx hb hd (by rw [J_sub]; exact go _ (vl (a - b) :: st') _ _ _ _ h1 hP hD hS hl)
  | lmul => obtain ⟨a, b, st', rfl, h1⟩ := l2_spec h; exact lv_lmul hx hb hd (by rw [J_mul]; exact go _ (vl (a * b) :: st') _ _ _ _ h1 hP hD hS hl)
  | ldiv => obtain ⟨a, b, st', rfl, h0, h1⟩ := l2_spec h; exact lv_ldiv hx hb hd (J_div h0).1 (by rw [(J_div h0).2.1]; exact go _ (vl (a / b) :: st') _ _ _ _ h1 hP hD hS hl)
  | lrem => obtain ⟨a, b, st', rfl, h0, h1⟩ := l2_spec h; exact lv_lrem hx hb hd (J_div h0).1 (by rw [(J_div h0).2.2]; exact go _ (vl (a % b) :: st') _ _ _ _ h1 hP hD hS hl)
  | i2l => obtain ⟨a, st', rfl, h0, h1⟩ := o1_spec h; exact lv_i2l hx hb hd (I_l h0) (go _ (vl a :: st') _ _ _ _ h1 hP hD hS hl)
  | lcmp => obtain ⟨a, b, st', rfl, h0, h1, h2⟩ := l2_spec h; exact W.lcmp hx hb hd (by rw [J_lc h0 h1]; exact go _ (vi (lc a b) :: st') _ _ _ _ h2 hP hD hS hl)
  | dup =>
    match st, h with
    | v :: st', h => exact lv_dup hx hb hd (by rw [cv_cat]; exact h.1) (go _ (v :: v :: st') _ _ _ _ h.2 hP hD hS hl)
  | dup2 =>
    match st, h with
    | v :: w :: st', h => exact lv_dup2_11 hx hb hd (by rw [cv_cat]; exact h.1) (by rw [cv_cat]; exact h.2.1) (go _ (v :: w :: v :: w :: st') _ _ _ _ h.2.2 hP hD hS hl)
  | pop =>
    match st, h with
    | v :: st', h => exact lv_pop hx hb hd (by rw [cv_cat]; exact h.1) (go _ st' _ _ _ _ h.2 hP hD hS hl)
  | getfield ix =>
    obtain ⟨r, st', rfl, h⟩ := r1_spec h
    replace h : gF F S ix r (fun k => K ls (vi (σ r k) :: st') σ) (fun q => K ls (vr q :: st') σ) := h
    unfold gF at h
    split at h
    · next ci kf cj fs e1 e2 =>
      obtain ⟨rfl, h⟩ := h
      obtain ⟨CC, T, N, hc, hk, hlk⟩ := fok hF e1
      have hg : (cw ad cI cJ S σ)[r]? = some (ad r, .inr (ci, fs.mapIdx (cf ad σ r))) := cw_get e2
      have hin := inWA _ (List.mem_of_getElem? hc)
      split at h
      · next e3 => exact va_get (v := .int (Int32.ofInt (σ r kf))) hx hb hts hin hown hKK.1 hP r hg hc kf hk (hts _ hlk) (fun _ q => q) (by simp [e3, cf]) hd (go _ (vi (σ r kf) :: st') _ _ _ _ h hP hD hS hl)
      · next q e3 => exact va_get (v := .ref (ad q)) hx hb hts hin hown hKK.1 hP r hg hc kf hk (hts _ hlk) (fun _ q => q) (by simp [e3, cf]) hd (go _ (vr q :: st') _ _ _ _ h hP hD hS hl)
      · cases h
    · cases h
  | putfield ix =>
    obtain ⟨z, st', rfl, h⟩ := o1_spec h
    obtain ⟨r, st', rfl, h⟩ := r1_spec h
    replace h : pF F S ix r (fun ci k => pOk ci k z ∧ K ls st' (up σ r k z)) := h
    unfold pF at h
    split at h
    · next ci kf cj fs e1 e2 =>
      obtain ⟨rfl, h⟩ := h
      obtain ⟨CC, T, N, hc, hk, hlk⟩ := fok hF e1
      have hg : (cw ad cI cJ S σ)[r]? = some (ad r, .inr (ci, fs.mapIdx (cf ad σ r))) := cw_get e2
      have hin := inWA _ (List.mem_of_getElem? hc)
      obtain ⟨hty, hff, hnm⟩ := clTy ci (by have := (List.getElem?_eq_some_iff.mp hc).1; simpa using this) _ hc
      split at h
      · next e3 =>
        obtain ⟨⟨hfi, hpt⟩, h⟩ := h
        have hset : (cw ad cI cJ S σ).set r (ad r, .inr (ci, (fs.mapIdx (cf ad σ r)).set kf (.int (Int32.ofInt z)))) = cw ad cI cJ S (up σ r kf z) := cw_set e2 (by rw [set_F e3]; rfl)
        have hnf : narrow (fty ci kf) (.int (Int32.ofInt z)) = .int (Int32.ofInt z) ∧ fits (fty ci kf) (.int (Int32.ofInt z)) = true := by
          rcases hpt with ht | ⟨ht, hz | hz⟩
          · rw [ht]; exact ⟨rfl, rfl⟩
          · rw [ht, hz]; exact ⟨rfl, rfl⟩
          · rw [ht, hz]; exact ⟨rfl, rfl⟩
        refine va_put (v := .int (Int32.ofInt z)) hx hb hts hin (fty ci) hty hnm hown hKK.1 hP hD hS r hg hc kf hk (hts _ hlk) (fun _ q => q) ((hff kf hk).trans hfi) (hty kf hk) hnf.1 hnf.2 (by simpa using (List.getElem?_eq_some_iff.mp e3).1) hd (fun H1 locs1 hP1 hD1 hS1 => ?_)
        rw [hset] at hP1 hD1
        exact go _ st' _ _ _ _ h hP1 hD1 hS1 hl
      · cases h
    · cases h
  | iaload =>
    obtain ⟨i, st', rfl, h⟩ := o1_spec h
    obtain ⟨r, st', rfl, h0, h⟩ := r1_spec h
    obtain ⟨n, e1, e2, e3, e4⟩ := aI_use (ad := ad) (cI := cI) (cJ := cJ) (σ := σ) h0
    exact va_iald hx hb hKK.1 hP r 0 e2 rfl e3 hd (by rw [e4]; exact go _ (vi (σ r i.toNat) :: st') _ _ _ _ h hP hD hS hl)
  | laload =>
    obtain ⟨i, st', rfl, h⟩ := o1_spec h
    obtain ⟨r, st', rfl, h0, h⟩ := r1_spec h
    obtain ⟨n, e1, e2, e3, e4⟩ := aJ_use (ad := ad) (cI := cI) (cJ := cJ) (σ := σ) h0
    exact va_lald hx hb hKK.1 hP r 1 e2 rfl e3 hd (by rw [e4]; exact go _ (vl (σ r i.toNat) :: st') _ _ _ _ h hP hD hS hl)
  | iastore =>
    obtain ⟨i, z, st', rfl, h⟩ := o2_spec h
    obtain ⟨r, st', rfl, h0, h⟩ := r1_spec h
    obtain ⟨n, e1, e2, e3, e4⟩ := aI_use (ad := ad) (cI := cI) (cJ := cJ) (σ := σ) h0
    refine va_iast hx hb hKK.1 hP hD hS r 0 e2 rfl e3 hd (fun H1 locs1 hP1 hD1 hS1 => ?_)
    have hset := cw_set (ad := ad) (cI := cI) (cJ := cJ) (σ := σ) (v := z) (j := i.toNat) (e := .inl (cI, n, .inl (fun k => Int32.ofInt (up σ r i.toNat z r k)))) e1 rfl
    rw [e4, upd_I, hset] at hP1 hD1
    exact go _ st' _ _ _ _ h hP1 hD1 hS1 hl
  | lastore =>
    obtain ⟨z, st', rfl, h⟩ := l1_spec h
    obtain ⟨i, st', rfl, h⟩ := o1_spec h
    obtain ⟨r, st', rfl, h0, h⟩ := r1_spec h
    obtain ⟨n, e1, e2, e3, e4⟩ := aJ_use (ad := ad) (cI := cI) (cJ := cJ) (σ := σ) h0
    refine va_last hx hb hKK.1 hP hD hS r 1 e2 rfl e3 hd (fun H1 locs1 hP1 hD1 hS1 => ?_)
    have hset := cw_set (ad := ad) (cI := cI) (cJ := cJ) (σ := σ) (v := z) (j := i.toNat) (e := .inl (cJ, n, .inr (.inl (fun k => Int64.ofInt (up σ r i.toNat z r k))))) e1 rfl
    rw [e4, upd_J, hset] at hP1 hD1
    exact go _ st' _ _ _ _ h hP1 hD1 hS1 hl
  | _ => exact absurd h id
end Sound
