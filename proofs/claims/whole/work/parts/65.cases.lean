/-! ===== the law's sixteen cases ===== -/
theorem in32_I (x : Int32) : in32 x.toInt := ⟨Int32.le_toInt x, by have := Int32.toInt_lt x; omega⟩
def bz (x : Int32) : Int := if x = 0 then 0 else 1
theorem bz_01 (x : Int32) : bz x = 0 ∨ bz x = 1 := by unfold bz; split <;> simp
theorem lg_cmp_self (x : Int64) : lg_cmp x x = 0 := by unfold lg_cmp; simp
theorem ok_weigh {σ : HP} {b : Int} (hb : b = 0 ∨ b = 1) : Ok 20 Y3_weigh SX [vr 0, vi b] σ (qv fun σ' => σ' = up (up σ 0 3 b) 0 11 0) := Ok.ofWp (by decide) (Nat.le_of_ble_eq_true rfl) (wp_weigh hb)
theorem ok_count {σ : HP} {b : Int} (hb : b = 0 ∨ b = 1) : Ok 20 Y3_count SX [vr 0, vi b] σ (qi fun z σ' => σ' = σ ∧ z = if b = 0 then σ 0 0 else σ 0 1) := Ok.ofWp (by decide) (Nat.le_of_ble_eq_true rfl) (wp_count hb)
theorem ok_thrown {ρ : HP} : Ok 20 Y4_thrown SM [vr 0] ρ (qi fun z ρ' => z = ρ 0 0 ∧ ρ' = ρ) := Ok.ofWp (by decide) (Nat.le_of_ble_eq_true rfl) (b4_thrown_0 ⟨_, rfl, rfl, rfl⟩)
section LawCases
variable {p : Program} {l : Launch} {e : Env} {s : State} {m : MethodId} {below : List Frame} {meth : Method} {c : Code} {b L : Nat} {xs : Nat → Int32} {D : va_G} {cI cJ : ClassId} {ad1 ad2 : Nat → Nat} {ao : Nat} {σ : HP} {ρ : HP} {o : Nat → Int64} {k pc i Dn Pn : Nat} {rest : List Value} {R : Room} {args : Array Value} {H : Heap} {locs : List Loc} {cells slots : Nat} {Fin : State → Prop} {ls : Array Slot} {A : Nat → Prop}
theorem lc_sc {j : Nat} {jI : Int} (hx : p.tables.exec = Jvm.exec) (hb : c.code = cL_law) (hX : va_X b L xs s s.heap) (hbl : b < s.heap.size) (hS : va_S (fun q => s.heap.size ≤ q) s.heap H locs) (h0 : ls[0]? = some (.val (.ref b))) (h4 : ls[4]? = some (.val (.int (Int32.ofInt i)))) (hj : i + j < L) (hL : L ≤ 256) (d0 : decode cL_law pc = .ok (.aload_n 0, 1)) (d1 : decode cL_law (pc + 1) = .ok (.iload 4, 2)) (d2 : decode cL_law (pc + 3) = .ok (.iconst jI, 1)) (hjI : jI = j) (d3 : decode cL_law (pc + 4) = .ok (.iadd, 1)) (d4 : decode cL_law (pc + 5) = .ok (.iaload, 1))
    (kk : W p l e R s m args below meth c H locs cells slots Fin (F0 m (pc + 6) ls (.int (Int32.ofInt (xs (i + j)).toInt) :: rest))) : W p l e R s m args below meth c H locs cells slots Fin (F0 m pc ls rest) := by
  have q := I_cl (z := (i : Int) + j) (n := L) ⟨by omega, by omega⟩ (by omega)
  refine lv_aload_n hx hb d0 rfl h0 ?_
  refine lv_iload hx hb d1 h4 ?_
  refine lv_iconst (v := Int32.ofInt j) hx hb d2 (by rw [hjI]) ?_
  refine lv_iadd hx hb d3 ?_
  rw [I_add]
  refine va_sld hx hb hX hbl (Nat.not_le.mpr hbl) hS q.1 d4 ?_
  rw [q.2, show ((i : Int) + j).toNat = i + j by omega, show xs (i + j) = Int32.ofInt (xs (i + j)).toInt from (Int32.ofInt_toInt _).symm]
  rw [Int32.ofInt_toInt] at kk ⊢
  exact kk
theorem lc_bz {x : Int32} {off1 off2 : Int} (hx : p.tables.exec = Jvm.exec) (hb : c.code = cL_law) (d0 : decode cL_law pc = .ok (.ifCond .eq off1, 3)) (h1 : off1 = 7) (d1 : decode cL_law (pc + 3) = .ok (.iconst 1, 1)) (d2 : decode cL_law (pc + 4) = .ok (.goto off2, 3)) (h2 : off2 = 4) (d3 : decode cL_law (pc + 7) = .ok (.iconst 0, 1))
    (kk : W p l e R s m args below meth c H locs cells slots Fin (F0 m (pc + 8) ls (.int (Int32.ofInt (bz x)) :: rest))) : W p l e R s m args below meth c H locs cells slots Fin (F0 m pc ls (.int x :: rest)) := by
  refine lv_if_eq (tgt := pc + 7) hx hb d0 (by rw [h1]; omega) (fun hc => ?_) (fun hc => ?_)
  · refine lv_iconst (v := 0) hx hb d3 (by decide) ?_
    rw [show bz x = 0 from if_pos hc] at kk
    exact kk
  · refine lv_iconst (v := 1) hx hb d1 (by decide) ?_
    refine lv_goto (tgt := pc + 8) hx hb d2 (by rw [h2]; omega) ?_
    rw [show bz x = 1 from if_neg hc] at kk
    exact kk
theorem lc_lz {x : Int32} {off1 off2 : Int} (hx : p.tables.exec = Jvm.exec) (hb : c.code = cL_law) (d0 : decode cL_law pc = .ok (.ifCond .eq off1, 3)) (h1 : off1 = 7) (d1 : decode cL_law (pc + 3) = .ok (.lconst 1, 1)) (d2 : decode cL_law (pc + 4) = .ok (.goto off2, 3)) (h2 : off2 = 4) (d3 : decode cL_law (pc + 7) = .ok (.lconst 0, 1))
    (kk : W p l e R s m args below meth c H locs cells slots Fin (F0 m (pc + 8) ls (.long (if x = 0 then 0 else 1) :: rest))) : W p l e R s m args below meth c H locs cells slots Fin (F0 m pc ls (.int x :: rest)) := by
  refine lv_if_eq (tgt := pc + 7) hx hb d0 (by rw [h1]; omega) (fun hc => ?_) (fun hc => ?_)
  · refine lv_lconst (v := 0) hx hb d3 rfl ?_
    rw [if_pos hc] at kk
    exact kk
  · refine lv_lconst (v := 1) hx hb d1 rfl ?_
    refine lv_goto (tgt := pc + 8) hx hb d2 (by rw [h2]; omega) ?_
    rw [if_neg hc] at kk
    exact kk
theorem ofI_zero {j : Nat} (h3 : j ≤ 3) (h : Int32.ofInt j = 0) : j = 0 := by
  have h1 := (I_eq (a := j) (b := 0) ⟨by omega, by omega⟩ ⟨by omega, by omega⟩).mp h
  omega
abbrev lv0 (b : Nat) (ad1 ad2 : Nat → Nat) (ao i : Nat) : List (Nat × Value) := [(0, .ref b), (1, .ref (ad1 0)), (2, .ref (ad2 0)), (3, .ref ao), (4, .int (Int32.ofInt i))]
/-- the next turn of the loop -/
def Nxt (p : Program) (l : Launch) (e : Env) (s : State) (m : MethodId) (below : List Frame) (meth : Method) (c : Code) (b : Nat) (D : va_G) (cI cJ : ClassId) (ad1 ad2 : Nat → Nat) (ao k i : Nat) : Prop := ∀ (σ' : HP) (o' : Nat → Int64) (ρ' : HP), RelE ρ' σ' → LW p l e s m below meth c b D cI cJ ad1 ad2 ao (k + 1) 1063 (lv0 b ad1 ad2 ao i) [] σ' o' ρ'
set_option maxRecDepth 100000 in
set_option maxHeartbeats 4000000 in
theorem lc_district (C : LC p l s m meth c b L xs D cI cJ) (hD : LD s ad1 ad2 ao cI cJ) (hR : Rel ρ σ Dn Pn) (hi : i + 4 ≤ L) (hL : L ≤ 256) (hk : k + 1 ≤ 100000) (hN : Nxt p l e s m below meth c b D cI cJ ad1 ad2 ao k i) : LW p l e s m below meth c b D cI cJ ad1 ad2 ao k 116 (lv0 b ad1 ad2 ao i) [] σ o ρ := by
  have hK := C.2.2.1
  obtain ⟨hx, hb, hr, hml, hown, -, hX, hbl, hlocks, -⟩ := C.1
  intro H locs ls hPX hPM hS hl
  have hk0 : k ≤ 100000 := by omega
  refine lv_aload_n hx hb dL_law_116 rfl (lv_at hl 1 rfl) ?_
  refine lc_sc (j := 1) (i := i) (L := L) (xs := xs) hx hb hX hbl hS (lv_at hl 0 rfl) (lv_at hl 4 rfl) (by omega) hL dL_law_117 dL_law_118 dL_law_120 rfl dL_law_121 dL_law_122 ?_
  refine lv_aload_n hx hb dL_law_123 rfl (lv_at hl 3 rfl) ?_
  refine LW.help (ix := 75) (n := 3) (As := [.ref (ad1 0), .int (Int32.ofInt ((xs (i + 1)).toInt)), .ref (ao)]) (rest := []) C hD (hp_district C.2.1 hR.1 (in32_I _)) (by decide +kernel) rfl dL_law_124 hk0 (by decide) (fun j z σ' o' hj3 hq hG => ?_) H locs ls hPX hPM hS hl
  clear hPX hPM hS hl
  clear H locs ls
  intro H locs ls hPX hPM hS hl
  refine lv_istore (lv' := [(5, .int (Int32.ofInt (j))), (0, .ref b), (1, .ref (ad1 0)), (2, .ref (ad2 0)), (3, .ref ao), (4, .int (Int32.ofInt i))]) hx hb dL_law_127 hl (by decide) rfl (fun ls hl => ?_)
  refine lv_aload_n hx hb dL_law_129 rfl (lv_at hl 3 rfl) ?_
  refine lc_sc (j := 1) (i := i) (L := L) (xs := xs) hx hb hX hbl hS (lv_at hl 1 rfl) (lv_at hl 5 rfl) (by omega) hL dL_law_130 dL_law_131 dL_law_133 rfl dL_law_134 dL_law_135 ?_
  refine LW.model (ix := 80) (n := 1) (as := [vi ((xs (i + 1)).toInt)]) (rest := []) C hD (mok_district (d := 19) hR (in32_I _) hq) (by decide +kernel) rfl dL_law_136 hk (Nat.le_of_ble_eq_true rfl) (fun v ρ' hm => ?_) H locs ls hPX hPM hS hl
  obtain ⟨z2, rfl, hm0, hmz, hRE⟩ := hm
  clear hPX hPM hS hl
  clear H locs ls
  intro H locs ls hPX hPM hS hl
  refine lv_istore (lv' := [(6, .int (Int32.ofInt (z2))), (5, .int (Int32.ofInt (j))), (0, .ref b), (1, .ref (ad1 0)), (2, .ref (ad2 0)), (3, .ref ao), (4, .int (Int32.ofInt i))]) hx hb dL_law_139 hl (by decide) rfl (fun ls hl => ?_)
  refine lv_aload_n hx hb dL_law_141 rfl (lv_at hl 4 rfl) ?_
  refine LW.model (ix := 81) (n := 0) (as := []) (rest := []) C hD ok_thrown (by decide +kernel) rfl dL_law_142 hk (by decide) (fun v ρ9 ht => ?_) H locs ls hPX hPM hS hl
  obtain ⟨z9, rfl, rfl, hρ9⟩ := ht
  rw [hρ9]
  clear hPX hPM hS hl
  clear H locs ls
  intro H locs ls hPX hPM hS hl
  refine lv_iload hx hb dL_law_145 (lv_at hl 1 rfl) ?_
  refine lv_icmp_eq (tgt := 152) hx hb dL_law_147 (by decide) (fun _ => ?_) (fun hc => absurd (by rw [hm0]) hc)
  refine lv_iload hx hb dL_law_152 (lv_at hl 1 rfl) ?_
  refine lv_if_ne (tgt := 169) hx hb dL_law_154 (by decide) (fun _ => ?_) (fun hc => ?_)
  · refine lv_goto (tgt := 1063) hx hb dL_law_169 (by decide) ?_
    exact hN σ' o' ρ' hRE H locs ls hPX hPM hS (lv_sub hl [2, 3, 4, 5, 6] rfl)
  have hj0 := ofI_zero hj3 hc
  refine lv_aload_n hx hb dL_law_157 rfl (lv_at hl 5 rfl) ?_
  refine lv_iconst (v := 0) hx hb dL_law_158 (by decide) ?_
  refine va_lald hx hb hK.1 hPX 18 1 wXO_at rfl (by rw [vp_in_iff]; decide) dL_law_159 ?_
  refine lv_iload hx hb dL_law_160 (lv_at hl 0 rfl) ?_
  refine lv_i2l hx hb dL_law_162 rfl ?_
  refine W.lcmp hx hb dL_law_163 ?_
  refine lv_if_eq (tgt := 169) hx hb dL_law_164 (by decide) (fun _ => ?_) (fun hc9 => absurd (by rw [show (0 : Int32).toNatClampNeg = 0 from rfl, show o' 0 = _ from hG hj0, hmz hj0]; exact lg_cmp_self _) hc9)
  refine lv_goto (tgt := 1063) hx hb dL_law_169 (by decide) ?_
  exact hN σ' o' ρ' hRE H locs ls hPX hPM hS (lv_sub hl [2, 3, 4, 5, 6] rfl)
set_option maxRecDepth 100000 in
set_option maxHeartbeats 4000000 in
theorem lc_party (C : LC p l s m meth c b L xs D cI cJ) (hD : LD s ad1 ad2 ao cI cJ) (hR : Rel ρ σ Dn Pn) (hi : i + 4 ≤ L) (hL : L ≤ 256) (hk : k + 1 ≤ 100000) (hN : Nxt p l e s m below meth c b D cI cJ ad1 ad2 ao k i) : LW p l e s m below meth c b D cI cJ ad1 ad2 ao k 172 (lv0 b ad1 ad2 ao i) [] σ o ρ := by
  have hK := C.2.2.1
  obtain ⟨hx, hb, hr, hml, hown, -, hX, hbl, hlocks, -⟩ := C.1
  intro H locs ls hPX hPM hS hl
  have hk0 : k ≤ 100000 := by omega
  refine lv_aload_n hx hb dL_law_172 rfl (lv_at hl 1 rfl) ?_
  refine lv_aload_n hx hb dL_law_173 rfl (lv_at hl 3 rfl) ?_
  refine LW.help (ix := 84) (n := 2) (As := [.ref (ad1 0), .ref (ao)]) (rest := []) C hD (hp_party C.2.1 hR.1) (by decide +kernel) rfl dL_law_174 hk0 (by decide) (fun j z σ' o' hj3 hq hG => ?_) H locs ls hPX hPM hS hl
  clear hPX hPM hS hl
  clear H locs ls
  intro H locs ls hPX hPM hS hl
  refine lv_istore (lv' := [(5, .int (Int32.ofInt (j))), (0, .ref b), (1, .ref (ad1 0)), (2, .ref (ad2 0)), (3, .ref ao), (4, .int (Int32.ofInt i))]) hx hb dL_law_177 hl (by decide) rfl (fun ls hl => ?_)
  refine lv_aload_n hx hb dL_law_179 rfl (lv_at hl 3 rfl) ?_
  refine LW.model (ix := 87) (n := 0) (as := []) (rest := []) C hD (mok_party (d := 20) hR  hq) (by decide +kernel) rfl dL_law_180 hk (Nat.le_of_ble_eq_true rfl) (fun v ρ' hm => ?_) H locs ls hPX hPM hS hl
  obtain ⟨z2, rfl, hm0, hmz, hRE⟩ := hm
  clear hPX hPM hS hl
  clear H locs ls
  intro H locs ls hPX hPM hS hl
  refine lv_istore (lv' := [(6, .int (Int32.ofInt (z2))), (5, .int (Int32.ofInt (j))), (0, .ref b), (1, .ref (ad1 0)), (2, .ref (ad2 0)), (3, .ref ao), (4, .int (Int32.ofInt i))]) hx hb dL_law_183 hl (by decide) rfl (fun ls hl => ?_)
  refine lv_aload_n hx hb dL_law_185 rfl (lv_at hl 4 rfl) ?_
  refine LW.model (ix := 81) (n := 0) (as := []) (rest := []) C hD ok_thrown (by decide +kernel) rfl dL_law_186 hk (by decide) (fun v ρ9 ht => ?_) H locs ls hPX hPM hS hl
  obtain ⟨z9, rfl, rfl, hρ9⟩ := ht
  rw [hρ9]
  clear hPX hPM hS hl
  clear H locs ls
  intro H locs ls hPX hPM hS hl
  refine lv_iload hx hb dL_law_189 (lv_at hl 1 rfl) ?_
  refine lv_icmp_eq (tgt := 196) hx hb dL_law_191 (by decide) (fun _ => ?_) (fun hc => absurd (by rw [hm0]) hc)
  refine lv_iload hx hb dL_law_196 (lv_at hl 1 rfl) ?_
  refine lv_if_ne (tgt := 213) hx hb dL_law_198 (by decide) (fun _ => ?_) (fun hc => ?_)
  · refine lv_goto (tgt := 1063) hx hb dL_law_213 (by decide) ?_
    exact hN σ' o' ρ' hRE H locs ls hPX hPM hS (lv_sub hl [2, 3, 4, 5, 6] rfl)
  have hj0 := ofI_zero hj3 hc
  refine lv_aload_n hx hb dL_law_201 rfl (lv_at hl 5 rfl) ?_
  refine lv_iconst (v := 0) hx hb dL_law_202 (by decide) ?_
  refine va_lald hx hb hK.1 hPX 18 1 wXO_at rfl (by rw [vp_in_iff]; decide) dL_law_203 ?_
  refine lv_iload hx hb dL_law_204 (lv_at hl 0 rfl) ?_
  refine lv_i2l hx hb dL_law_206 rfl ?_
  refine W.lcmp hx hb dL_law_207 ?_
  refine lv_if_eq (tgt := 213) hx hb dL_law_208 (by decide) (fun _ => ?_) (fun hc9 => absurd (by rw [show (0 : Int32).toNatClampNeg = 0 from rfl, show o' 0 = _ from hG hj0, hmz hj0]; exact lg_cmp_self _) hc9)
  refine lv_goto (tgt := 1063) hx hb dL_law_213 (by decide) ?_
  exact hN σ' o' ρ' hRE H locs ls hPX hPM hS (lv_sub hl [2, 3, 4, 5, 6] rfl)
set_option maxRecDepth 100000 in
set_option maxHeartbeats 4000000 in
theorem lc_votes (C : LC p l s m meth c b L xs D cI cJ) (hD : LD s ad1 ad2 ao cI cJ) (hR : Rel ρ σ Dn Pn) (hi : i + 4 ≤ L) (hL : L ≤ 256) (hk : k + 1 ≤ 100000) (hN : Nxt p l e s m below meth c b D cI cJ ad1 ad2 ao k i) : LW p l e s m below meth c b D cI cJ ad1 ad2 ao k 216 (lv0 b ad1 ad2 ao i) [] σ o ρ := by
  have hK := C.2.2.1
  obtain ⟨hx, hb, hr, hml, hown, -, hX, hbl, hlocks, -⟩ := C.1
  intro H locs ls hPX hPM hS hl
  have hk0 : k ≤ 100000 := by omega
  refine lv_aload_n hx hb dL_law_216 rfl (lv_at hl 1 rfl) ?_
  refine lc_sc (j := 1) (i := i) (L := L) (xs := xs) hx hb hX hbl hS (lv_at hl 0 rfl) (lv_at hl 4 rfl) (by omega) hL dL_law_217 dL_law_218 dL_law_220 rfl dL_law_221 dL_law_222 ?_
  refine lc_sc (j := 2) (i := i) (L := L) (xs := xs) hx hb hX hbl hS (lv_at hl 0 rfl) (lv_at hl 4 rfl) (by omega) hL dL_law_223 dL_law_224 dL_law_226 rfl dL_law_227 dL_law_228 ?_
  refine lc_sc (j := 3) (i := i) (L := L) (xs := xs) hx hb hX hbl hS (lv_at hl 0 rfl) (lv_at hl 4 rfl) (by omega) hL dL_law_229 dL_law_230 dL_law_232 rfl dL_law_233 dL_law_234 ?_
  refine LW.help (ix := 88) (n := 4) (As := [.ref (ad1 0), .int (Int32.ofInt ((xs (i + 1)).toInt)), .int (Int32.ofInt ((xs (i + 2)).toInt)), .int (Int32.ofInt ((xs (i + 3)).toInt))]) (rest := []) C hD (hp_votes C.2.1 hR.1 (in32_I _) (in32_I _) (in32_I _)) (by decide +kernel) rfl dL_law_235 hk0 (by decide) (fun j z σ' o' hj3 hq hG => ?_) H locs ls hPX hPM hS hl
  clear hPX hPM hS hl
  clear H locs ls
  intro H locs ls hPX hPM hS hl
  refine lv_istore (lv' := [(5, .int (Int32.ofInt (j))), (0, .ref b), (1, .ref (ad1 0)), (2, .ref (ad2 0)), (3, .ref ao), (4, .int (Int32.ofInt i))]) hx hb dL_law_238 hl (by decide) rfl (fun ls hl => ?_)
  refine lv_aload_n hx hb dL_law_240 rfl (lv_at hl 3 rfl) ?_
  refine lc_sc (j := 1) (i := i) (L := L) (xs := xs) hx hb hX hbl hS (lv_at hl 1 rfl) (lv_at hl 5 rfl) (by omega) hL dL_law_241 dL_law_242 dL_law_244 rfl dL_law_245 dL_law_246 ?_
  refine lc_sc (j := 2) (i := i) (L := L) (xs := xs) hx hb hX hbl hS (lv_at hl 1 rfl) (lv_at hl 5 rfl) (by omega) hL dL_law_247 dL_law_248 dL_law_250 rfl dL_law_251 dL_law_252 ?_
  refine lc_sc (j := 3) (i := i) (L := L) (xs := xs) hx hb hX hbl hS (lv_at hl 1 rfl) (lv_at hl 5 rfl) (by omega) hL dL_law_253 dL_law_254 dL_law_256 rfl dL_law_257 dL_law_258 ?_
  refine LW.model (ix := 91) (n := 3) (as := [vi ((xs (i + 1)).toInt), vi ((xs (i + 2)).toInt), vi ((xs (i + 3)).toInt)]) (rest := []) C hD (mok_votes (d := 19) hR (in32_I _) (in32_I _) (in32_I _) hq) (by decide +kernel) rfl dL_law_259 hk (Nat.le_of_ble_eq_true rfl) (fun v ρ' hm => ?_) H locs ls hPX hPM hS hl
  obtain ⟨rfl, hm0, hRE⟩ := hm
  clear hPX hPM hS hl
  clear H locs ls
  intro H locs ls hPX hPM hS hl
  refine lv_aload_n hx hb dL_law_262 rfl (lv_at hl 3 rfl) ?_
  refine LW.model (ix := 81) (n := 0) (as := []) (rest := []) C hD ok_thrown (by decide +kernel) rfl dL_law_263 hk (by decide) (fun v ρ9 ht => ?_) H locs ls hPX hPM hS hl
  obtain ⟨z9, rfl, rfl, hρ9⟩ := ht
  rw [hρ9]
  clear hPX hPM hS hl
  clear H locs ls
  intro H locs ls hPX hPM hS hl
  refine lv_iload hx hb dL_law_266 (lv_at hl 0 rfl) ?_
  refine lv_icmp_eq (tgt := 273) hx hb dL_law_268 (by decide) (fun _ => ?_) (fun hc => absurd (by rw [hm0]) hc)
  refine lv_goto (tgt := 1063) hx hb dL_law_273 (by decide) ?_
  exact hN σ' o' ρ' hRE H locs ls hPX hPM hS (lv_sub hl [1, 2, 3, 4, 5] rfl)
set_option maxRecDepth 100000 in
set_option maxHeartbeats 4000000 in
theorem lc_weigh (C : LC p l s m meth c b L xs D cI cJ) (hD : LD s ad1 ad2 ao cI cJ) (hR : Rel ρ σ Dn Pn) (hi : i + 4 ≤ L) (hL : L ≤ 256) (hk : k + 1 ≤ 100000) (hN : Nxt p l e s m below meth c b D cI cJ ad1 ad2 ao k i) : LW p l e s m below meth c b D cI cJ ad1 ad2 ao k 276 (lv0 b ad1 ad2 ao i) [] σ o ρ := by
  have hK := C.2.2.1
  obtain ⟨hx, hb, hr, hml, hown, -, hX, hbl, hlocks, -⟩ := C.1
  intro H locs ls hPX hPM hS hl
  have hk0 : k ≤ 100000 := by omega
  refine lv_aload_n hx hb dL_law_276 rfl (lv_at hl 1 rfl) ?_
  refine lc_sc (j := 1) (i := i) (L := L) (xs := xs) hx hb hX hbl hS (lv_at hl 0 rfl) (lv_at hl 4 rfl) (by omega) hL dL_law_277 dL_law_278 dL_law_280 rfl dL_law_281 dL_law_282 ?_
  refine lc_bz hx hb dL_law_283 rfl dL_law_286 dL_law_287 rfl dL_law_290 ?_
  refine LW.cls (ix := 92) (n := 1) (as := [vi (bz (Int32.ofInt (xs (i + 1)).toInt))]) (rest := []) C hD (ok_weigh (bz_01 _)) (by decide +kernel) rfl dL_law_291 hk0 (by decide) (fun v σ' hq => ?_) H locs ls hPX hPM hS hl
  obtain ⟨rfl, hq⟩ := hq
  clear hPX hPM hS hl
  clear H locs ls
  intro H locs ls hPX hPM hS hl
  refine lv_aload_n hx hb dL_law_294 rfl (lv_at hl 2 rfl) ?_
  refine lc_sc (j := 1) (i := i) (L := L) (xs := xs) hx hb hX hbl hS (lv_at hl 0 rfl) (lv_at hl 4 rfl) (by omega) hL dL_law_295 dL_law_296 dL_law_298 rfl dL_law_299 dL_law_300 ?_
  refine lc_bz hx hb dL_law_301 rfl dL_law_304 dL_law_305 rfl dL_law_308 ?_
  refine LW.model (ix := 96) (n := 1) (as := [vi (bz (Int32.ofInt (xs (i + 1)).toInt))]) (rest := []) C hD (mok_weigh (d := 20) hR (bz_01 _) hq) (by decide +kernel) rfl dL_law_309 hk0 (Nat.le_of_ble_eq_true rfl) (fun v ρ' hm => ?_) H locs ls hPX hPM hS hl
  obtain ⟨rfl, hRE⟩ := hm
  clear hPX hPM hS hl
  clear H locs ls
  intro H locs ls hPX hPM hS hl
  refine lv_goto (tgt := 1063) hx hb dL_law_312 (by decide) ?_
  refine W.widen (k := k + 1) (n := 6 * (k + 1)) (by omega) (by omega) ?_
  exact hN σ' o ρ' hRE H locs ls hPX hPM hS (lv_sub hl [0, 1, 2, 3, 4] rfl)
set_option maxRecDepth 100000 in
set_option maxHeartbeats 4000000 in
theorem lc_threshold (C : LC p l s m meth c b L xs D cI cJ) (hD : LD s ad1 ad2 ao cI cJ) (hR : Rel ρ σ Dn Pn) (hi : i + 4 ≤ L) (hL : L ≤ 256) (hk : k + 1 ≤ 100000) (hN : Nxt p l e s m below meth c b D cI cJ ad1 ad2 ao k i) : LW p l e s m below meth c b D cI cJ ad1 ad2 ao k 315 (lv0 b ad1 ad2 ao i) [] σ o ρ := by
  have hK := C.2.2.1
  obtain ⟨hx, hb, hr, hml, hown, -, hX, hbl, hlocks, -⟩ := C.1
  intro H locs ls hPX hPM hS hl
  have hk0 : k ≤ 100000 := by omega
  refine lv_aload_n hx hb dL_law_315 rfl (lv_at hl 1 rfl) ?_
  refine lc_sc (j := 1) (i := i) (L := L) (xs := xs) hx hb hX hbl hS (lv_at hl 0 rfl) (lv_at hl 4 rfl) (by omega) hL dL_law_316 dL_law_317 dL_law_319 rfl dL_law_320 dL_law_321 ?_
  refine LW.help (ix := 97) (n := 2) (As := [.ref (ad1 0), .int (Int32.ofInt ((xs (i + 1)).toInt))]) (rest := []) C hD (hp_threshold C.2.1 (in32_I _)) (by decide +kernel) rfl dL_law_322 hk0 (by decide) (fun j z σ' o' hj3 hq hG => ?_) H locs ls hPX hPM hS hl
  clear hPX hPM hS hl
  clear H locs ls
  intro H locs ls hPX hPM hS hl
  refine lv_istore (lv' := [(5, .int (Int32.ofInt (j))), (0, .ref b), (1, .ref (ad1 0)), (2, .ref (ad2 0)), (3, .ref ao), (4, .int (Int32.ofInt i))]) hx hb dL_law_325 hl (by decide) rfl (fun ls hl => ?_)
  refine lv_aload_n hx hb dL_law_327 rfl (lv_at hl 3 rfl) ?_
  refine lc_sc (j := 1) (i := i) (L := L) (xs := xs) hx hb hX hbl hS (lv_at hl 1 rfl) (lv_at hl 5 rfl) (by omega) hL dL_law_328 dL_law_329 dL_law_331 rfl dL_law_332 dL_law_333 ?_
  refine LW.model (ix := 100) (n := 1) (as := [vi ((xs (i + 1)).toInt)]) (rest := []) C hD (mok_threshold (d := 20) hR (in32_I _) hq) (by decide +kernel) rfl dL_law_334 hk (Nat.le_of_ble_eq_true rfl) (fun v ρ' hm => ?_) H locs ls hPX hPM hS hl
  obtain ⟨rfl, hm0, hRE⟩ := hm
  clear hPX hPM hS hl
  clear H locs ls
  intro H locs ls hPX hPM hS hl
  refine lv_aload_n hx hb dL_law_337 rfl (lv_at hl 3 rfl) ?_
  refine LW.model (ix := 81) (n := 0) (as := []) (rest := []) C hD ok_thrown (by decide +kernel) rfl dL_law_338 hk (by decide) (fun v ρ9 ht => ?_) H locs ls hPX hPM hS hl
  obtain ⟨z9, rfl, rfl, hρ9⟩ := ht
  rw [hρ9]
  clear hPX hPM hS hl
  clear H locs ls
  intro H locs ls hPX hPM hS hl
  refine lv_iload hx hb dL_law_341 (lv_at hl 0 rfl) ?_
  refine lv_icmp_eq (tgt := 348) hx hb dL_law_343 (by decide) (fun _ => ?_) (fun hc => absurd (by rw [hm0]) hc)
  refine lv_goto (tgt := 1063) hx hb dL_law_348 (by decide) ?_
  exact hN σ' o' ρ' hRE H locs ls hPX hPM hS (lv_sub hl [1, 2, 3, 4, 5] rfl)
set_option maxRecDepth 100000 in
set_option maxHeartbeats 4000000 in
theorem lc_lot (C : LC p l s m meth c b L xs D cI cJ) (hD : LD s ad1 ad2 ao cI cJ) (hR : Rel ρ σ Dn Pn) (hi : i + 4 ≤ L) (hL : L ≤ 256) (hk : k + 1 ≤ 100000) (hN : Nxt p l e s m below meth c b D cI cJ ad1 ad2 ao k i) : LW p l e s m below meth c b D cI cJ ad1 ad2 ao k 351 (lv0 b ad1 ad2 ao i) [] σ o ρ := by
  have hK := C.2.2.1
  obtain ⟨hx, hb, hr, hml, hown, -, hX, hbl, hlocks, -⟩ := C.1
  intro H locs ls hPX hPM hS hl
  have hk0 : k ≤ 100000 := by omega
  refine lv_aload_n hx hb dL_law_351 rfl (lv_at hl 1 rfl) ?_
  refine lc_sc (j := 1) (i := i) (L := L) (xs := xs) hx hb hX hbl hS (lv_at hl 0 rfl) (lv_at hl 4 rfl) (by omega) hL dL_law_352 dL_law_353 dL_law_355 rfl dL_law_356 dL_law_357 ?_
  refine lc_sc (j := 2) (i := i) (L := L) (xs := xs) hx hb hX hbl hS (lv_at hl 0 rfl) (lv_at hl 4 rfl) (by omega) hL dL_law_358 dL_law_359 dL_law_361 rfl dL_law_362 dL_law_363 ?_
  refine LW.help (ix := 101) (n := 3) (As := [.ref (ad1 0), .int (Int32.ofInt ((xs (i + 1)).toInt)), .int (Int32.ofInt ((xs (i + 2)).toInt))]) (rest := []) C hD (hp_lot C.2.1 hR.1 (in32_I _) (in32_I _)) (by decide +kernel) rfl dL_law_364 hk0 (by decide) (fun j z σ' o' hj3 hq hG => ?_) H locs ls hPX hPM hS hl
  clear hPX hPM hS hl
  clear H locs ls
  intro H locs ls hPX hPM hS hl
  refine lv_istore (lv' := [(5, .int (Int32.ofInt (j))), (0, .ref b), (1, .ref (ad1 0)), (2, .ref (ad2 0)), (3, .ref ao), (4, .int (Int32.ofInt i))]) hx hb dL_law_367 hl (by decide) rfl (fun ls hl => ?_)
  refine lv_aload_n hx hb dL_law_369 rfl (lv_at hl 3 rfl) ?_
  refine lc_sc (j := 1) (i := i) (L := L) (xs := xs) hx hb hX hbl hS (lv_at hl 1 rfl) (lv_at hl 5 rfl) (by omega) hL dL_law_370 dL_law_371 dL_law_373 rfl dL_law_374 dL_law_375 ?_
  refine lc_sc (j := 2) (i := i) (L := L) (xs := xs) hx hb hX hbl hS (lv_at hl 1 rfl) (lv_at hl 5 rfl) (by omega) hL dL_law_376 dL_law_377 dL_law_379 rfl dL_law_380 dL_law_381 ?_
  refine LW.model (ix := 104) (n := 2) (as := [vi ((xs (i + 1)).toInt), vi ((xs (i + 2)).toInt)]) (rest := []) C hD (mok_lot (d := 20) hR (in32_I _) (in32_I _) hq) (by decide +kernel) rfl dL_law_382 hk (Nat.le_of_ble_eq_true rfl) (fun v ρ' hm => ?_) H locs ls hPX hPM hS hl
  obtain ⟨rfl, hm0, hRE⟩ := hm
  clear hPX hPM hS hl
  clear H locs ls
  intro H locs ls hPX hPM hS hl
  refine lv_aload_n hx hb dL_law_385 rfl (lv_at hl 3 rfl) ?_
  refine LW.model (ix := 81) (n := 0) (as := []) (rest := []) C hD ok_thrown (by decide +kernel) rfl dL_law_386 hk (by decide) (fun v ρ9 ht => ?_) H locs ls hPX hPM hS hl
  obtain ⟨z9, rfl, rfl, hρ9⟩ := ht
  rw [hρ9]
  clear hPX hPM hS hl
  clear H locs ls
  intro H locs ls hPX hPM hS hl
  refine lv_iload hx hb dL_law_389 (lv_at hl 0 rfl) ?_
  refine lv_icmp_eq (tgt := 396) hx hb dL_law_391 (by decide) (fun _ => ?_) (fun hc => absurd (by rw [hm0]) hc)
  refine lv_goto (tgt := 1063) hx hb dL_law_396 (by decide) ?_
  exact hN σ' o' ρ' hRE H locs ls hPX hPM hS (lv_sub hl [1, 2, 3, 4, 5] rfl)
set_option maxRecDepth 100000 in
set_option maxHeartbeats 4000000 in
theorem lc_count (C : LC p l s m meth c b L xs D cI cJ) (hD : LD s ad1 ad2 ao cI cJ) (hR : Rel ρ σ Dn Pn) (hi : i + 4 ≤ L) (hL : L ≤ 256) (hk : k + 1 ≤ 100000) (hN : Nxt p l e s m below meth c b D cI cJ ad1 ad2 ao k i) : LW p l e s m below meth c b D cI cJ ad1 ad2 ao k 399 (lv0 b ad1 ad2 ao i) [] σ o ρ := by
  have hK := C.2.2.1
  obtain ⟨hx, hb, hr, hml, hown, -, hX, hbl, hlocks, -⟩ := C.1
  intro H locs ls hPX hPM hS hl
  have hk0 : k ≤ 100000 := by omega
  refine lv_aload_n hx hb dL_law_399 rfl (lv_at hl 1 rfl) ?_
  refine lc_sc (j := 1) (i := i) (L := L) (xs := xs) hx hb hX hbl hS (lv_at hl 0 rfl) (lv_at hl 4 rfl) (by omega) hL dL_law_400 dL_law_401 dL_law_403 rfl dL_law_404 dL_law_405 ?_
  refine lc_bz hx hb dL_law_406 rfl dL_law_409 dL_law_410 rfl dL_law_413 ?_
  refine LW.cls (ix := 105) (n := 1) (as := [vi (bz (Int32.ofInt (xs (i + 1)).toInt))]) (rest := []) C hD (ok_count (bz_01 _)) (by decide +kernel) rfl dL_law_414 hk0 (by decide) (fun v σ' hq => ?_) H locs ls hPX hPM hS hl
  obtain ⟨z, rfl, hq1, hq⟩ := hq
  subst hq1
  clear hPX hPM hS hl
  clear H locs ls
  intro H locs ls hPX hPM hS hl
  refine lv_aload_n hx hb dL_law_417 rfl (lv_at hl 2 rfl) ?_
  refine lc_sc (j := 1) (i := i) (L := L) (xs := xs) hx hb hX hbl hS (lv_at hl 0 rfl) (lv_at hl 4 rfl) (by omega) hL dL_law_418 dL_law_419 dL_law_421 rfl dL_law_422 dL_law_423 ?_
  refine lc_bz hx hb dL_law_424 rfl dL_law_427 dL_law_428 rfl dL_law_431 ?_
  refine LW.model (ix := 109) (n := 1) (as := [vi (bz (Int32.ofInt (xs (i + 1)).toInt))]) (rest := [.int (Int32.ofInt (z))]) C hD (mok_count (d := 20) hR (bz_01 _) ) (by decide +kernel) rfl dL_law_432 hk0 (Nat.le_of_ble_eq_true rfl) (fun v ρ' hm => ?_) H locs ls hPX hPM hS hl
  obtain ⟨z2, rfl, hz2, hRE⟩ := hm
  clear hPX hPM hS hl
  clear H locs ls
  intro H locs ls hPX hPM hS hl
  refine lv_icmp_eq (tgt := 1063) hx hb dL_law_435 (by decide) (fun _ => ?_) (fun hc => absurd (by rw [hq, hz2]) hc)
  refine W.widen (k := k + 1) (n := 6 * (k + 1)) (by omega) (by omega) ?_
  exact hN σ' o ρ' hRE H locs ls hPX hPM hS (lv_sub hl [0, 1, 2, 3, 4] rfl)
set_option maxRecDepth 100000 in
set_option maxHeartbeats 4000000 in
theorem lc_share (C : LC p l s m meth c b L xs D cI cJ) (hD : LD s ad1 ad2 ao cI cJ) (hR : Rel ρ σ Dn Pn) (hi : i + 4 ≤ L) (hL : L ≤ 256) (hk : k + 1 ≤ 100000) (hN : Nxt p l e s m below meth c b D cI cJ ad1 ad2 ao k i) : LW p l e s m below meth c b D cI cJ ad1 ad2 ao k 440 (lv0 b ad1 ad2 ao i) [] σ o ρ := by
  have hK := C.2.2.1
  obtain ⟨hx, hb, hr, hml, hown, -, hX, hbl, hlocks, -⟩ := C.1
  intro H locs ls hPX hPM hS hl
  have hk0 : k ≤ 100000 := by omega
  refine lv_aload_n hx hb dL_law_440 rfl (lv_at hl 1 rfl) ?_
  refine lc_sc (j := 1) (i := i) (L := L) (xs := xs) hx hb hX hbl hS (lv_at hl 0 rfl) (lv_at hl 4 rfl) (by omega) hL dL_law_441 dL_law_442 dL_law_444 rfl dL_law_445 dL_law_446 ?_
  refine lv_aload_n hx hb dL_law_447 rfl (lv_at hl 3 rfl) ?_
  refine LW.help (ix := 110) (n := 3) (As := [.ref (ad1 0), .int (Int32.ofInt ((xs (i + 1)).toInt)), .ref (ao)]) (rest := []) C hD (hp_share C.2.1 hR.1 (in32_I _)) (by decide +kernel) rfl dL_law_448 hk0 (by decide) (fun j z σ' o' hj3 hq hG => ?_) H locs ls hPX hPM hS hl
  clear hPX hPM hS hl
  clear H locs ls
  intro H locs ls hPX hPM hS hl
  refine lv_istore (lv' := [(5, .int (Int32.ofInt (j))), (0, .ref b), (1, .ref (ad1 0)), (2, .ref (ad2 0)), (3, .ref ao), (4, .int (Int32.ofInt i))]) hx hb dL_law_451 hl (by decide) rfl (fun ls hl => ?_)
  refine lv_aload_n hx hb dL_law_453 rfl (lv_at hl 3 rfl) ?_
  refine lc_sc (j := 1) (i := i) (L := L) (xs := xs) hx hb hX hbl hS (lv_at hl 1 rfl) (lv_at hl 5 rfl) (by omega) hL dL_law_454 dL_law_455 dL_law_457 rfl dL_law_458 dL_law_459 ?_
  refine LW.model (ix := 112) (n := 1) (as := [vi ((xs (i + 1)).toInt)]) (rest := []) C hD (mok_share (d := 17) hR (in32_I _) hq) (by decide +kernel) rfl dL_law_460 hk (Nat.le_of_ble_eq_true rfl) (fun v ρ' hm => ?_) H locs ls hPX hPM hS hl
  obtain ⟨z2, rfl, hm0, hmz, hRE⟩ := hm
  clear hPX hPM hS hl
  clear H locs ls
  intro H locs ls hPX hPM hS hl
  refine lv_istore (lv' := [(6, .int (Int32.ofInt (z2))), (5, .int (Int32.ofInt (j))), (0, .ref b), (1, .ref (ad1 0)), (2, .ref (ad2 0)), (3, .ref ao), (4, .int (Int32.ofInt i))]) hx hb dL_law_463 hl (by decide) rfl (fun ls hl => ?_)
  refine lv_aload_n hx hb dL_law_465 rfl (lv_at hl 4 rfl) ?_
  refine LW.model (ix := 81) (n := 0) (as := []) (rest := []) C hD ok_thrown (by decide +kernel) rfl dL_law_466 hk (by decide) (fun v ρ9 ht => ?_) H locs ls hPX hPM hS hl
  obtain ⟨z9, rfl, rfl, hρ9⟩ := ht
  rw [hρ9]
  clear hPX hPM hS hl
  clear H locs ls
  intro H locs ls hPX hPM hS hl
  refine lv_iload hx hb dL_law_469 (lv_at hl 1 rfl) ?_
  refine lv_icmp_eq (tgt := 476) hx hb dL_law_471 (by decide) (fun _ => ?_) (fun hc => absurd (by rw [hm0]) hc)
  refine lv_iload hx hb dL_law_476 (lv_at hl 1 rfl) ?_
  refine lv_if_ne (tgt := 493) hx hb dL_law_478 (by decide) (fun _ => ?_) (fun hc => ?_)
  · refine lv_goto (tgt := 1063) hx hb dL_law_493 (by decide) ?_
    exact hN σ' o' ρ' hRE H locs ls hPX hPM hS (lv_sub hl [2, 3, 4, 5, 6] rfl)
  have hj0 := ofI_zero hj3 hc
  refine lv_aload_n hx hb dL_law_481 rfl (lv_at hl 5 rfl) ?_
  refine lv_iconst (v := 0) hx hb dL_law_482 (by decide) ?_
  refine va_lald hx hb hK.1 hPX 18 1 wXO_at rfl (by rw [vp_in_iff]; decide) dL_law_483 ?_
  refine lv_iload hx hb dL_law_484 (lv_at hl 0 rfl) ?_
  refine lv_i2l hx hb dL_law_486 rfl ?_
  refine W.lcmp hx hb dL_law_487 ?_
  refine lv_if_eq (tgt := 493) hx hb dL_law_488 (by decide) (fun _ => ?_) (fun hc9 => absurd (by rw [show (0 : Int32).toNatClampNeg = 0 from rfl, show o' 0 = _ from hG hj0, hmz hj0]; exact lg_cmp_self _) hc9)
  refine lv_goto (tgt := 1063) hx hb dL_law_493 (by decide) ?_
  exact hN σ' o' ρ' hRE H locs ls hPX hPM hS (lv_sub hl [2, 3, 4, 5, 6] rfl)
set_option maxRecDepth 100000 in
set_option maxHeartbeats 4000000 in
theorem lc_tied (C : LC p l s m meth c b L xs D cI cJ) (hD : LD s ad1 ad2 ao cI cJ) (hR : Rel ρ σ Dn Pn) (hi : i + 4 ≤ L) (hL : L ≤ 256) (hk : k + 1 ≤ 100000) (hN : Nxt p l e s m below meth c b D cI cJ ad1 ad2 ao k i) : LW p l e s m below meth c b D cI cJ ad1 ad2 ao k 496 (lv0 b ad1 ad2 ao i) [] σ o ρ := by
  have hK := C.2.2.1
  obtain ⟨hx, hb, hr, hml, hown, -, hX, hbl, hlocks, -⟩ := C.1
  intro H locs ls hPX hPM hS hl
  have hk0 : k ≤ 100000 := by omega
  refine lv_aload_n hx hb dL_law_496 rfl (lv_at hl 1 rfl) ?_
  refine lc_sc (j := 1) (i := i) (L := L) (xs := xs) hx hb hX hbl hS (lv_at hl 0 rfl) (lv_at hl 4 rfl) (by omega) hL dL_law_497 dL_law_498 dL_law_500 rfl dL_law_501 dL_law_502 ?_
  refine lv_aload_n hx hb dL_law_503 rfl (lv_at hl 3 rfl) ?_
  refine LW.help (ix := 113) (n := 3) (As := [.ref (ad1 0), .int (Int32.ofInt ((xs (i + 1)).toInt)), .ref (ao)]) (rest := []) C hD (hp_tied C.2.1 hR.1 (in32_I _)) (by decide +kernel) rfl dL_law_504 hk0 (by decide) (fun j z σ' o' hj3 hq hG => ?_) H locs ls hPX hPM hS hl
  clear hPX hPM hS hl
  clear H locs ls
  intro H locs ls hPX hPM hS hl
  refine lv_istore (lv' := [(5, .int (Int32.ofInt (j))), (0, .ref b), (1, .ref (ad1 0)), (2, .ref (ad2 0)), (3, .ref ao), (4, .int (Int32.ofInt i))]) hx hb dL_law_507 hl (by decide) rfl (fun ls hl => ?_)
  refine lv_aload_n hx hb dL_law_509 rfl (lv_at hl 3 rfl) ?_
  refine lc_sc (j := 1) (i := i) (L := L) (xs := xs) hx hb hX hbl hS (lv_at hl 1 rfl) (lv_at hl 5 rfl) (by omega) hL dL_law_510 dL_law_511 dL_law_513 rfl dL_law_514 dL_law_515 ?_
  refine LW.model (ix := 115) (n := 1) (as := [vi ((xs (i + 1)).toInt)]) (rest := []) C hD (mok_tied (d := 17) hR (in32_I _) hq) (by decide +kernel) rfl dL_law_516 hk (Nat.le_of_ble_eq_true rfl) (fun v ρ' hm => ?_) H locs ls hPX hPM hS hl
  obtain ⟨z2, rfl, hm0, hmz, hRE⟩ := hm
  clear hPX hPM hS hl
  clear H locs ls
  intro H locs ls hPX hPM hS hl
  refine lv_istore (lv' := [(6, .int (Int32.ofInt (z2))), (5, .int (Int32.ofInt (j))), (0, .ref b), (1, .ref (ad1 0)), (2, .ref (ad2 0)), (3, .ref ao), (4, .int (Int32.ofInt i))]) hx hb dL_law_519 hl (by decide) rfl (fun ls hl => ?_)
  refine lv_aload_n hx hb dL_law_521 rfl (lv_at hl 4 rfl) ?_
  refine LW.model (ix := 81) (n := 0) (as := []) (rest := []) C hD ok_thrown (by decide +kernel) rfl dL_law_522 hk (by decide) (fun v ρ9 ht => ?_) H locs ls hPX hPM hS hl
  obtain ⟨z9, rfl, rfl, hρ9⟩ := ht
  rw [hρ9]
  clear hPX hPM hS hl
  clear H locs ls
  intro H locs ls hPX hPM hS hl
  refine lv_iload hx hb dL_law_525 (lv_at hl 1 rfl) ?_
  refine lv_icmp_eq (tgt := 532) hx hb dL_law_527 (by decide) (fun _ => ?_) (fun hc => absurd (by rw [hm0]) hc)
  refine lv_iload hx hb dL_law_532 (lv_at hl 1 rfl) ?_
  refine lv_if_ne (tgt := 556) hx hb dL_law_534 (by decide) (fun _ => ?_) (fun hc => ?_)
  · refine lv_goto (tgt := 1063) hx hb dL_law_556 (by decide) ?_
    exact hN σ' o' ρ' hRE H locs ls hPX hPM hS (lv_sub hl [2, 3, 4, 5, 6] rfl)
  have hj0 := ofI_zero hj3 hc
  refine lv_aload_n hx hb dL_law_537 rfl (lv_at hl 5 rfl) ?_
  refine lv_iconst (v := 0) hx hb dL_law_538 (by decide) ?_
  refine va_lald hx hb hK.1 hPX 18 1 wXO_at rfl (by rw [vp_in_iff]; decide) dL_law_539 ?_
  refine lv_iload hx hb dL_law_540 (lv_at hl 0 rfl) ?_
  refine lc_lz hx hb dL_law_542 rfl dL_law_545 dL_law_546 rfl dL_law_549 ?_
  refine W.lcmp hx hb dL_law_550 ?_
  refine lv_if_eq (tgt := 556) hx hb dL_law_551 (by decide) (fun _ => ?_) (fun hc9 => absurd (by rw [show (0 : Int32).toNatClampNeg = 0 from rfl, show o' 0 = _ from hG hj0, hmz hj0]; exact lg_cmp_self _) hc9)
  refine lv_goto (tgt := 1063) hx hb dL_law_556 (by decide) ?_
  exact hN σ' o' ρ' hRE H locs ls hPX hPM hS (lv_sub hl [2, 3, 4, 5, 6] rfl)
set_option maxRecDepth 100000 in
set_option maxHeartbeats 4000000 in
theorem lc_solve (C : LC p l s m meth c b L xs D cI cJ) (hD : LD s ad1 ad2 ao cI cJ) (hR : Rel ρ σ Dn Pn) (hi : i + 4 ≤ L) (hL : L ≤ 256) (hk : k + 1 ≤ 100000) (hN : Nxt p l e s m below meth c b D cI cJ ad1 ad2 ao k i) : LW p l e s m below meth c b D cI cJ ad1 ad2 ao k 559 (lv0 b ad1 ad2 ao i) [] σ o ρ := by
  have hK := C.2.2.1
  obtain ⟨hx, hb, hr, hml, hown, -, hX, hbl, hlocks, -⟩ := C.1
  intro H locs ls hPX hPM hS hl
  have hk0 : k ≤ 100000 := by omega
  refine lv_aload_n hx hb dL_law_559 rfl (lv_at hl 1 rfl) ?_
  refine lv_aload_n hx hb dL_law_560 rfl (lv_at hl 3 rfl) ?_
  refine LW.help (ix := 116) (n := 2) (As := [.ref (ad1 0), .ref (ao)]) (rest := []) C hD (hp_solve C.2.1 hR.1) (by decide +kernel) rfl dL_law_561 hk0 (by decide) (fun j z σ' o' hj3 hq hG => ?_) H locs ls hPX hPM hS hl
  clear hPX hPM hS hl
  clear H locs ls
  intro H locs ls hPX hPM hS hl
  refine lv_istore (lv' := [(5, .int (Int32.ofInt (j))), (0, .ref b), (1, .ref (ad1 0)), (2, .ref (ad2 0)), (3, .ref ao), (4, .int (Int32.ofInt i))]) hx hb dL_law_564 hl (by decide) rfl (fun ls hl => ?_)
  refine lv_aload_n hx hb dL_law_566 rfl (lv_at hl 3 rfl) ?_
  refine LW.model (ix := 118) (n := 0) (as := []) (rest := []) C hD (mok_solve (d := 16) hR  hq) (by decide +kernel) rfl dL_law_567 hk (Nat.le_of_ble_eq_true rfl) (fun v ρ' hm => ?_) H locs ls hPX hPM hS hl
  obtain ⟨z2, rfl, hm0, hmz, hRE⟩ := hm
  clear hPX hPM hS hl
  clear H locs ls
  intro H locs ls hPX hPM hS hl
  refine lv_istore (lv' := [(6, .int (Int32.ofInt (z2))), (5, .int (Int32.ofInt (j))), (0, .ref b), (1, .ref (ad1 0)), (2, .ref (ad2 0)), (3, .ref ao), (4, .int (Int32.ofInt i))]) hx hb dL_law_570 hl (by decide) rfl (fun ls hl => ?_)
  refine lv_aload_n hx hb dL_law_572 rfl (lv_at hl 4 rfl) ?_
  refine LW.model (ix := 81) (n := 0) (as := []) (rest := []) C hD ok_thrown (by decide +kernel) rfl dL_law_573 hk (by decide) (fun v ρ9 ht => ?_) H locs ls hPX hPM hS hl
  obtain ⟨z9, rfl, rfl, hρ9⟩ := ht
  rw [hρ9]
  clear hPX hPM hS hl
  clear H locs ls
  intro H locs ls hPX hPM hS hl
  refine lv_iload hx hb dL_law_576 (lv_at hl 1 rfl) ?_
  refine lv_icmp_eq (tgt := 583) hx hb dL_law_578 (by decide) (fun _ => ?_) (fun hc => absurd (by rw [hm0]) hc)
  refine lv_iload hx hb dL_law_583 (lv_at hl 1 rfl) ?_
  refine lv_if_ne (tgt := 607) hx hb dL_law_585 (by decide) (fun _ => ?_) (fun hc => ?_)
  · refine lv_goto (tgt := 1063) hx hb dL_law_607 (by decide) ?_
    exact hN σ' o' ρ' hRE H locs ls hPX hPM hS (lv_sub hl [2, 3, 4, 5, 6] rfl)
  have hj0 := ofI_zero hj3 hc
  refine lv_aload_n hx hb dL_law_588 rfl (lv_at hl 5 rfl) ?_
  refine lv_iconst (v := 0) hx hb dL_law_589 (by decide) ?_
  refine va_lald hx hb hK.1 hPX 18 1 wXO_at rfl (by rw [vp_in_iff]; decide) dL_law_590 ?_
  refine lv_iload hx hb dL_law_591 (lv_at hl 0 rfl) ?_
  refine lc_lz hx hb dL_law_593 rfl dL_law_596 dL_law_597 rfl dL_law_600 ?_
  refine W.lcmp hx hb dL_law_601 ?_
  refine lv_if_eq (tgt := 607) hx hb dL_law_602 (by decide) (fun _ => ?_) (fun hc9 => absurd (by rw [show (0 : Int32).toNatClampNeg = 0 from rfl, show o' 0 = _ from hG hj0, hmz hj0]; exact lg_cmp_self _) hc9)
  refine lv_goto (tgt := 1063) hx hb dL_law_607 (by decide) ?_
  exact hN σ' o' ρ' hRE H locs ls hPX hPM hS (lv_sub hl [2, 3, 4, 5, 6] rfl)
set_option maxRecDepth 100000 in
set_option maxHeartbeats 4000000 in
theorem lc_seats (C : LC p l s m meth c b L xs D cI cJ) (hD : LD s ad1 ad2 ao cI cJ) (hR : Rel ρ σ Dn Pn) (hi : i + 4 ≤ L) (hL : L ≤ 256) (hk : k + 1 ≤ 100000) (hN : Nxt p l e s m below meth c b D cI cJ ad1 ad2 ao k i) : LW p l e s m below meth c b D cI cJ ad1 ad2 ao k 610 (lv0 b ad1 ad2 ao i) [] σ o ρ := by
  have hK := C.2.2.1
  obtain ⟨hx, hb, hr, hml, hown, -, hX, hbl, hlocks, -⟩ := C.1
  intro H locs ls hPX hPM hS hl
  have hk0 : k ≤ 100000 := by omega
  refine lv_aload_n hx hb dL_law_610 rfl (lv_at hl 1 rfl) ?_
  refine lc_sc (j := 1) (i := i) (L := L) (xs := xs) hx hb hX hbl hS (lv_at hl 0 rfl) (lv_at hl 4 rfl) (by omega) hL dL_law_611 dL_law_612 dL_law_614 rfl dL_law_615 dL_law_616 ?_
  refine lc_sc (j := 2) (i := i) (L := L) (xs := xs) hx hb hX hbl hS (lv_at hl 0 rfl) (lv_at hl 4 rfl) (by omega) hL dL_law_617 dL_law_618 dL_law_620 rfl dL_law_621 dL_law_622 ?_
  refine lc_sc (j := 3) (i := i) (L := L) (xs := xs) hx hb hX hbl hS (lv_at hl 0 rfl) (lv_at hl 4 rfl) (by omega) hL dL_law_623 dL_law_624 dL_law_626 rfl dL_law_627 dL_law_628 ?_
  refine lc_bz hx hb dL_law_629 rfl dL_law_632 dL_law_633 rfl dL_law_636 ?_
  refine lv_aload_n hx hb dL_law_637 rfl (lv_at hl 3 rfl) ?_
  refine LW.help (ix := 119) (n := 5) (As := [.ref (ad1 0), .int (Int32.ofInt ((xs (i + 1)).toInt)), .int (Int32.ofInt ((xs (i + 2)).toInt)), .int (Int32.ofInt (bz (Int32.ofInt (xs (i + 3)).toInt))), .ref (ao)]) (rest := []) C hD (hp_seats C.2.1 hR.1 (in32_I _) (in32_I _) (bz_01 _)) (by decide +kernel) rfl dL_law_638 hk0 (by decide) (fun j z σ' o' hj3 hq hG => ?_) H locs ls hPX hPM hS hl
  clear hPX hPM hS hl
  clear H locs ls
  intro H locs ls hPX hPM hS hl
  refine lv_istore (lv' := [(5, .int (Int32.ofInt (j))), (0, .ref b), (1, .ref (ad1 0)), (2, .ref (ad2 0)), (3, .ref ao), (4, .int (Int32.ofInt i))]) hx hb dL_law_641 hl (by decide) rfl (fun ls hl => ?_)
  refine lv_aload_n hx hb dL_law_643 rfl (lv_at hl 3 rfl) ?_
  refine lc_sc (j := 1) (i := i) (L := L) (xs := xs) hx hb hX hbl hS (lv_at hl 1 rfl) (lv_at hl 5 rfl) (by omega) hL dL_law_644 dL_law_645 dL_law_647 rfl dL_law_648 dL_law_649 ?_
  refine lc_sc (j := 2) (i := i) (L := L) (xs := xs) hx hb hX hbl hS (lv_at hl 1 rfl) (lv_at hl 5 rfl) (by omega) hL dL_law_650 dL_law_651 dL_law_653 rfl dL_law_654 dL_law_655 ?_
  refine lc_sc (j := 3) (i := i) (L := L) (xs := xs) hx hb hX hbl hS (lv_at hl 1 rfl) (lv_at hl 5 rfl) (by omega) hL dL_law_656 dL_law_657 dL_law_659 rfl dL_law_660 dL_law_661 ?_
  refine lc_bz hx hb dL_law_662 rfl dL_law_665 dL_law_666 rfl dL_law_669 ?_
  refine LW.model (ix := 122) (n := 3) (as := [vi ((xs (i + 1)).toInt), vi ((xs (i + 2)).toInt), vi (bz (Int32.ofInt (xs (i + 3)).toInt))]) (rest := []) C hD (mok_seats (d := 19) hR (in32_I _) (in32_I _) (bz_01 _) hq) (by decide +kernel) rfl dL_law_670 hk (Nat.le_of_ble_eq_true rfl) (fun v ρ' hm => ?_) H locs ls hPX hPM hS hl
  obtain ⟨z2, rfl, hm0, hmz, hRE⟩ := hm
  clear hPX hPM hS hl
  clear H locs ls
  intro H locs ls hPX hPM hS hl
  refine lv_istore (lv' := [(6, .int (Int32.ofInt (z2))), (5, .int (Int32.ofInt (j))), (0, .ref b), (1, .ref (ad1 0)), (2, .ref (ad2 0)), (3, .ref ao), (4, .int (Int32.ofInt i))]) hx hb dL_law_673 hl (by decide) rfl (fun ls hl => ?_)
  refine lv_aload_n hx hb dL_law_675 rfl (lv_at hl 4 rfl) ?_
  refine LW.model (ix := 81) (n := 0) (as := []) (rest := []) C hD ok_thrown (by decide +kernel) rfl dL_law_676 hk (by decide) (fun v ρ9 ht => ?_) H locs ls hPX hPM hS hl
  obtain ⟨z9, rfl, rfl, hρ9⟩ := ht
  rw [hρ9]
  clear hPX hPM hS hl
  clear H locs ls
  intro H locs ls hPX hPM hS hl
  refine lv_iload hx hb dL_law_679 (lv_at hl 1 rfl) ?_
  refine lv_icmp_eq (tgt := 686) hx hb dL_law_681 (by decide) (fun _ => ?_) (fun hc => absurd (by rw [hm0]) hc)
  refine lv_iload hx hb dL_law_686 (lv_at hl 1 rfl) ?_
  refine lv_if_ne (tgt := 703) hx hb dL_law_688 (by decide) (fun _ => ?_) (fun hc => ?_)
  · refine lv_goto (tgt := 1063) hx hb dL_law_703 (by decide) ?_
    exact hN σ' o' ρ' hRE H locs ls hPX hPM hS (lv_sub hl [2, 3, 4, 5, 6] rfl)
  have hj0 := ofI_zero hj3 hc
  refine lv_aload_n hx hb dL_law_691 rfl (lv_at hl 5 rfl) ?_
  refine lv_iconst (v := 0) hx hb dL_law_692 (by decide) ?_
  refine va_lald hx hb hK.1 hPX 18 1 wXO_at rfl (by rw [vp_in_iff]; decide) dL_law_693 ?_
  refine lv_iload hx hb dL_law_694 (lv_at hl 0 rfl) ?_
  refine lv_i2l hx hb dL_law_696 rfl ?_
  refine W.lcmp hx hb dL_law_697 ?_
  refine lv_if_eq (tgt := 703) hx hb dL_law_698 (by decide) (fun _ => ?_) (fun hc9 => absurd (by rw [show (0 : Int32).toNatClampNeg = 0 from rfl, show o' 0 = _ from hG hj0, hmz hj0]; exact lg_cmp_self _) hc9)
  refine lv_goto (tgt := 1063) hx hb dL_law_703 (by decide) ?_
  exact hN σ' o' ρ' hRE H locs ls hPX hPM hS (lv_sub hl [2, 3, 4, 5, 6] rfl)
set_option maxRecDepth 100000 in
set_option maxHeartbeats 4000000 in
theorem lc_unique (C : LC p l s m meth c b L xs D cI cJ) (hD : LD s ad1 ad2 ao cI cJ) (hR : Rel ρ σ Dn Pn) (hi : i + 4 ≤ L) (hL : L ≤ 256) (hk : k + 1 ≤ 100000) (hN : Nxt p l e s m below meth c b D cI cJ ad1 ad2 ao k i) : LW p l e s m below meth c b D cI cJ ad1 ad2 ao k 706 (lv0 b ad1 ad2 ao i) [] σ o ρ := by
  have hK := C.2.2.1
  obtain ⟨hx, hb, hr, hml, hown, -, hX, hbl, hlocks, -⟩ := C.1
  intro H locs ls hPX hPM hS hl
  have hk0 : k ≤ 100000 := by omega
  refine lv_aload_n hx hb dL_law_706 rfl (lv_at hl 1 rfl) ?_
  refine lv_aload_n hx hb dL_law_707 rfl (lv_at hl 3 rfl) ?_
  refine LW.help (ix := 123) (n := 2) (As := [.ref (ad1 0), .ref (ao)]) (rest := []) C hD (hp_unique C.2.1 hR.1) (by decide +kernel) rfl dL_law_708 hk0 (by decide) (fun j z σ' o' hj3 hq hG => ?_) H locs ls hPX hPM hS hl
  clear hPX hPM hS hl
  clear H locs ls
  intro H locs ls hPX hPM hS hl
  refine lv_istore (lv' := [(5, .int (Int32.ofInt (j))), (0, .ref b), (1, .ref (ad1 0)), (2, .ref (ad2 0)), (3, .ref ao), (4, .int (Int32.ofInt i))]) hx hb dL_law_711 hl (by decide) rfl (fun ls hl => ?_)
  refine lv_aload_n hx hb dL_law_713 rfl (lv_at hl 3 rfl) ?_
  refine LW.model (ix := 125) (n := 0) (as := []) (rest := []) C hD (mok_unique (d := 19) hR  hq) (by decide +kernel) rfl dL_law_714 hk (Nat.le_of_ble_eq_true rfl) (fun v ρ' hm => ?_) H locs ls hPX hPM hS hl
  obtain ⟨z2, rfl, hm0, hmz, hRE⟩ := hm
  clear hPX hPM hS hl
  clear H locs ls
  intro H locs ls hPX hPM hS hl
  refine lv_istore (lv' := [(6, .int (Int32.ofInt (z2))), (5, .int (Int32.ofInt (j))), (0, .ref b), (1, .ref (ad1 0)), (2, .ref (ad2 0)), (3, .ref ao), (4, .int (Int32.ofInt i))]) hx hb dL_law_717 hl (by decide) rfl (fun ls hl => ?_)
  refine lv_aload_n hx hb dL_law_719 rfl (lv_at hl 4 rfl) ?_
  refine LW.model (ix := 81) (n := 0) (as := []) (rest := []) C hD ok_thrown (by decide +kernel) rfl dL_law_720 hk (by decide) (fun v ρ9 ht => ?_) H locs ls hPX hPM hS hl
  obtain ⟨z9, rfl, rfl, hρ9⟩ := ht
  rw [hρ9]
  clear hPX hPM hS hl
  clear H locs ls
  intro H locs ls hPX hPM hS hl
  refine lv_iload hx hb dL_law_723 (lv_at hl 1 rfl) ?_
  refine lv_icmp_eq (tgt := 730) hx hb dL_law_725 (by decide) (fun _ => ?_) (fun hc => absurd (by rw [hm0]) hc)
  refine lv_iload hx hb dL_law_730 (lv_at hl 1 rfl) ?_
  refine lv_if_ne (tgt := 754) hx hb dL_law_732 (by decide) (fun _ => ?_) (fun hc => ?_)
  · refine lv_goto (tgt := 1063) hx hb dL_law_754 (by decide) ?_
    exact hN σ' o' ρ' hRE H locs ls hPX hPM hS (lv_sub hl [2, 3, 4, 5, 6] rfl)
  have hj0 := ofI_zero hj3 hc
  refine lv_aload_n hx hb dL_law_735 rfl (lv_at hl 5 rfl) ?_
  refine lv_iconst (v := 0) hx hb dL_law_736 (by decide) ?_
  refine va_lald hx hb hK.1 hPX 18 1 wXO_at rfl (by rw [vp_in_iff]; decide) dL_law_737 ?_
  refine lv_iload hx hb dL_law_738 (lv_at hl 0 rfl) ?_
  refine lc_lz hx hb dL_law_740 rfl dL_law_743 dL_law_744 rfl dL_law_747 ?_
  refine W.lcmp hx hb dL_law_748 ?_
  refine lv_if_eq (tgt := 754) hx hb dL_law_749 (by decide) (fun _ => ?_) (fun hc9 => absurd (by rw [show (0 : Int32).toNatClampNeg = 0 from rfl, show o' 0 = _ from hG hj0, hmz hj0]; exact lg_cmp_self _) hc9)
  refine lv_goto (tgt := 1063) hx hb dL_law_754 (by decide) ?_
  exact hN σ' o' ρ' hRE H locs ls hPX hPM hS (lv_sub hl [2, 3, 4, 5, 6] rfl)
set_option maxRecDepth 100000 in
set_option maxHeartbeats 4000000 in
theorem lc_number (C : LC p l s m meth c b L xs D cI cJ) (hD : LD s ad1 ad2 ao cI cJ) (hR : Rel ρ σ Dn Pn) (hi : i + 4 ≤ L) (hL : L ≤ 256) (hk : k + 1 ≤ 100000) (hN : Nxt p l e s m below meth c b D cI cJ ad1 ad2 ao k i) : LW p l e s m below meth c b D cI cJ ad1 ad2 ao k 757 (lv0 b ad1 ad2 ao i) [] σ o ρ := by
  have hK := C.2.2.1
  obtain ⟨hx, hb, hr, hml, hown, -, hX, hbl, hlocks, -⟩ := C.1
  intro H locs ls hPX hPM hS hl
  have hk0 : k ≤ 100000 := by omega
  refine lv_aload_n hx hb dL_law_757 rfl (lv_at hl 1 rfl) ?_
  refine lc_sc (j := 1) (i := i) (L := L) (xs := xs) hx hb hX hbl hS (lv_at hl 0 rfl) (lv_at hl 4 rfl) (by omega) hL dL_law_758 dL_law_759 dL_law_761 rfl dL_law_762 dL_law_763 ?_
  refine lc_bz hx hb dL_law_764 rfl dL_law_767 dL_law_768 rfl dL_law_771 ?_
  refine lc_sc (j := 2) (i := i) (L := L) (xs := xs) hx hb hX hbl hS (lv_at hl 0 rfl) (lv_at hl 4 rfl) (by omega) hL dL_law_772 dL_law_773 dL_law_775 rfl dL_law_776 dL_law_777 ?_
  refine lc_sc (j := 3) (i := i) (L := L) (xs := xs) hx hb hX hbl hS (lv_at hl 0 rfl) (lv_at hl 4 rfl) (by omega) hL dL_law_778 dL_law_779 dL_law_781 rfl dL_law_782 dL_law_783 ?_
  refine lc_bz hx hb dL_law_784 rfl dL_law_787 dL_law_788 rfl dL_law_791 ?_
  refine lv_aload_n hx hb dL_law_792 rfl (lv_at hl 3 rfl) ?_
  refine LW.help (ix := 126) (n := 5) (As := [.ref (ad1 0), .int (Int32.ofInt (bz (Int32.ofInt (xs (i + 1)).toInt))), .int (Int32.ofInt ((xs (i + 2)).toInt)), .int (Int32.ofInt (bz (Int32.ofInt (xs (i + 3)).toInt))), .ref (ao)]) (rest := []) C hD (hp_number C.2.1 hR.1 (bz_01 _) (in32_I _) (bz_01 _)) (by decide +kernel) rfl dL_law_793 hk0 (by decide) (fun j z σ' o' hj3 hq hG => ?_) H locs ls hPX hPM hS hl
  clear hPX hPM hS hl
  clear H locs ls
  intro H locs ls hPX hPM hS hl
  refine lv_istore (lv' := [(5, .int (Int32.ofInt (j))), (0, .ref b), (1, .ref (ad1 0)), (2, .ref (ad2 0)), (3, .ref ao), (4, .int (Int32.ofInt i))]) hx hb dL_law_796 hl (by decide) rfl (fun ls hl => ?_)
  refine lv_aload_n hx hb dL_law_798 rfl (lv_at hl 3 rfl) ?_
  refine lc_sc (j := 1) (i := i) (L := L) (xs := xs) hx hb hX hbl hS (lv_at hl 1 rfl) (lv_at hl 5 rfl) (by omega) hL dL_law_799 dL_law_800 dL_law_802 rfl dL_law_803 dL_law_804 ?_
  refine lc_bz hx hb dL_law_805 rfl dL_law_808 dL_law_809 rfl dL_law_812 ?_
  refine lc_sc (j := 2) (i := i) (L := L) (xs := xs) hx hb hX hbl hS (lv_at hl 1 rfl) (lv_at hl 5 rfl) (by omega) hL dL_law_813 dL_law_814 dL_law_816 rfl dL_law_817 dL_law_818 ?_
  refine lc_sc (j := 3) (i := i) (L := L) (xs := xs) hx hb hX hbl hS (lv_at hl 1 rfl) (lv_at hl 5 rfl) (by omega) hL dL_law_819 dL_law_820 dL_law_822 rfl dL_law_823 dL_law_824 ?_
  refine lc_bz hx hb dL_law_825 rfl dL_law_828 dL_law_829 rfl dL_law_832 ?_
  refine LW.model (ix := 129) (n := 3) (as := [vi (bz (Int32.ofInt (xs (i + 1)).toInt)), vi ((xs (i + 2)).toInt), vi (bz (Int32.ofInt (xs (i + 3)).toInt))]) (rest := []) C hD (mok_number (d := 19) hR (bz_01 _) (in32_I _) (bz_01 _) hq) (by decide +kernel) rfl dL_law_833 hk (Nat.le_of_ble_eq_true rfl) (fun v ρ' hm => ?_) H locs ls hPX hPM hS hl
  obtain ⟨z2, rfl, hm0, hmz, hRE⟩ := hm
  clear hPX hPM hS hl
  clear H locs ls
  intro H locs ls hPX hPM hS hl
  refine lv_lstore (lv' := [(6, .long (Int64.ofInt (z2))), (5, .int (Int32.ofInt (j))), (0, .ref b), (1, .ref (ad1 0)), (2, .ref (ad2 0)), (3, .ref ao), (4, .int (Int32.ofInt i))]) hx hb dL_law_836 hl (by decide) rfl (fun ls hl => ?_)
  refine lv_aload_n hx hb dL_law_838 rfl (lv_at hl 4 rfl) ?_
  refine LW.model (ix := 81) (n := 0) (as := []) (rest := []) C hD ok_thrown (by decide +kernel) rfl dL_law_839 hk (by decide) (fun v ρ9 ht => ?_) H locs ls hPX hPM hS hl
  obtain ⟨z9, rfl, rfl, hρ9⟩ := ht
  rw [hρ9]
  clear hPX hPM hS hl
  clear H locs ls
  intro H locs ls hPX hPM hS hl
  refine lv_iload hx hb dL_law_842 (lv_at hl 1 rfl) ?_
  refine lv_icmp_eq (tgt := 849) hx hb dL_law_844 (by decide) (fun _ => ?_) (fun hc => absurd (by rw [hm0]) hc)
  refine lv_iload hx hb dL_law_849 (lv_at hl 1 rfl) ?_
  refine lv_if_ne (tgt := 865) hx hb dL_law_851 (by decide) (fun _ => ?_) (fun hc => ?_)
  · refine lv_goto (tgt := 1063) hx hb dL_law_865 (by decide) ?_
    exact hN σ' o' ρ' hRE H locs ls hPX hPM hS (lv_sub hl [2, 3, 4, 5, 6] rfl)
  have hj0 := ofI_zero hj3 hc
  refine lv_aload_n hx hb dL_law_854 rfl (lv_at hl 5 rfl) ?_
  refine lv_iconst (v := 0) hx hb dL_law_855 (by decide) ?_
  refine va_lald hx hb hK.1 hPX 18 1 wXO_at rfl (by rw [vp_in_iff]; decide) dL_law_856 ?_
  refine lv_lload hx hb dL_law_857 (lv_at hl 0 rfl) ?_
  refine W.lcmp hx hb dL_law_859 ?_
  refine lv_if_eq (tgt := 865) hx hb dL_law_860 (by decide) (fun _ => ?_) (fun hc9 => absurd (by rw [show (0 : Int32).toNatClampNeg = 0 from rfl, show o' 0 = _ from hG hj0, hmz hj0]; exact lg_cmp_self _) hc9)
  refine lv_goto (tgt := 1063) hx hb dL_law_865 (by decide) ?_
  exact hN σ' o' ρ' hRE H locs ls hPX hPM hS (lv_sub hl [2, 3, 4, 5, 6] rfl)
set_option maxRecDepth 100000 in
set_option maxHeartbeats 4000000 in
theorem lc_blocks (C : LC p l s m meth c b L xs D cI cJ) (hD : LD s ad1 ad2 ao cI cJ) (hR : Rel ρ σ Dn Pn) (hi : i + 4 ≤ L) (hL : L ≤ 256) (hk : k + 1 ≤ 100000) (hN : Nxt p l e s m below meth c b D cI cJ ad1 ad2 ao k i) : LW p l e s m below meth c b D cI cJ ad1 ad2 ao k 868 (lv0 b ad1 ad2 ao i) [] σ o ρ := by
  have hK := C.2.2.1
  obtain ⟨hx, hb, hr, hml, hown, -, hX, hbl, hlocks, -⟩ := C.1
  intro H locs ls hPX hPM hS hl
  have hk0 : k ≤ 100000 := by omega
  refine lv_aload_n hx hb dL_law_868 rfl (lv_at hl 1 rfl) ?_
  refine lc_sc (j := 1) (i := i) (L := L) (xs := xs) hx hb hX hbl hS (lv_at hl 0 rfl) (lv_at hl 4 rfl) (by omega) hL dL_law_869 dL_law_870 dL_law_872 rfl dL_law_873 dL_law_874 ?_
  refine lc_bz hx hb dL_law_875 rfl dL_law_878 dL_law_879 rfl dL_law_882 ?_
  refine lc_sc (j := 2) (i := i) (L := L) (xs := xs) hx hb hX hbl hS (lv_at hl 0 rfl) (lv_at hl 4 rfl) (by omega) hL dL_law_883 dL_law_884 dL_law_886 rfl dL_law_887 dL_law_888 ?_
  refine lv_aload_n hx hb dL_law_889 rfl (lv_at hl 3 rfl) ?_
  refine LW.help (ix := 130) (n := 4) (As := [.ref (ad1 0), .int (Int32.ofInt (bz (Int32.ofInt (xs (i + 1)).toInt))), .int (Int32.ofInt ((xs (i + 2)).toInt)), .ref (ao)]) (rest := []) C hD (hp_blocks C.2.1 hR.1 (bz_01 _) (in32_I _)) (by decide +kernel) rfl dL_law_890 hk0 (by decide) (fun j z σ' o' hj3 hq hG => ?_) H locs ls hPX hPM hS hl
  clear hPX hPM hS hl
  clear H locs ls
  intro H locs ls hPX hPM hS hl
  refine lv_istore (lv' := [(5, .int (Int32.ofInt (j))), (0, .ref b), (1, .ref (ad1 0)), (2, .ref (ad2 0)), (3, .ref ao), (4, .int (Int32.ofInt i))]) hx hb dL_law_893 hl (by decide) rfl (fun ls hl => ?_)
  refine lv_aload_n hx hb dL_law_895 rfl (lv_at hl 3 rfl) ?_
  refine lc_sc (j := 1) (i := i) (L := L) (xs := xs) hx hb hX hbl hS (lv_at hl 1 rfl) (lv_at hl 5 rfl) (by omega) hL dL_law_896 dL_law_897 dL_law_899 rfl dL_law_900 dL_law_901 ?_
  refine lc_bz hx hb dL_law_902 rfl dL_law_905 dL_law_906 rfl dL_law_909 ?_
  refine lc_sc (j := 2) (i := i) (L := L) (xs := xs) hx hb hX hbl hS (lv_at hl 1 rfl) (lv_at hl 5 rfl) (by omega) hL dL_law_910 dL_law_911 dL_law_913 rfl dL_law_914 dL_law_915 ?_
  refine LW.model (ix := 133) (n := 2) (as := [vi (bz (Int32.ofInt (xs (i + 1)).toInt)), vi ((xs (i + 2)).toInt)]) (rest := []) C hD (mok_blocks (d := 19) hR (bz_01 _) (in32_I _) hq) (by decide +kernel) rfl dL_law_916 hk (Nat.le_of_ble_eq_true rfl) (fun v ρ' hm => ?_) H locs ls hPX hPM hS hl
  obtain ⟨z2, rfl, hm0, hmz, hRE⟩ := hm
  clear hPX hPM hS hl
  clear H locs ls
  intro H locs ls hPX hPM hS hl
  refine lv_istore (lv' := [(6, .int (Int32.ofInt (z2))), (5, .int (Int32.ofInt (j))), (0, .ref b), (1, .ref (ad1 0)), (2, .ref (ad2 0)), (3, .ref ao), (4, .int (Int32.ofInt i))]) hx hb dL_law_919 hl (by decide) rfl (fun ls hl => ?_)
  refine lv_aload_n hx hb dL_law_921 rfl (lv_at hl 4 rfl) ?_
  refine LW.model (ix := 81) (n := 0) (as := []) (rest := []) C hD ok_thrown (by decide +kernel) rfl dL_law_922 hk (by decide) (fun v ρ9 ht => ?_) H locs ls hPX hPM hS hl
  obtain ⟨z9, rfl, rfl, hρ9⟩ := ht
  rw [hρ9]
  clear hPX hPM hS hl
  clear H locs ls
  intro H locs ls hPX hPM hS hl
  refine lv_iload hx hb dL_law_925 (lv_at hl 1 rfl) ?_
  refine lv_icmp_eq (tgt := 932) hx hb dL_law_927 (by decide) (fun _ => ?_) (fun hc => absurd (by rw [hm0]) hc)
  refine lv_iload hx hb dL_law_932 (lv_at hl 1 rfl) ?_
  refine lv_if_ne (tgt := 956) hx hb dL_law_934 (by decide) (fun _ => ?_) (fun hc => ?_)
  · refine lv_goto (tgt := 1063) hx hb dL_law_956 (by decide) ?_
    exact hN σ' o' ρ' hRE H locs ls hPX hPM hS (lv_sub hl [2, 3, 4, 5, 6] rfl)
  have hj0 := ofI_zero hj3 hc
  refine lv_aload_n hx hb dL_law_937 rfl (lv_at hl 5 rfl) ?_
  refine lv_iconst (v := 0) hx hb dL_law_938 (by decide) ?_
  refine va_lald hx hb hK.1 hPX 18 1 wXO_at rfl (by rw [vp_in_iff]; decide) dL_law_939 ?_
  refine lv_iload hx hb dL_law_940 (lv_at hl 0 rfl) ?_
  refine lc_lz hx hb dL_law_942 rfl dL_law_945 dL_law_946 rfl dL_law_949 ?_
  refine W.lcmp hx hb dL_law_950 ?_
  refine lv_if_eq (tgt := 956) hx hb dL_law_951 (by decide) (fun _ => ?_) (fun hc9 => absurd (by rw [show (0 : Int32).toNatClampNeg = 0 from rfl, show o' 0 = _ from hG hj0, hmz hj0]; exact lg_cmp_self _) hc9)
  refine lv_goto (tgt := 1063) hx hb dL_law_956 (by decide) ?_
  exact hN σ' o' ρ' hRE H locs ls hPX hPM hS (lv_sub hl [2, 3, 4, 5, 6] rfl)
set_option maxRecDepth 100000 in
set_option maxHeartbeats 4000000 in
theorem lc_propose (C : LC p l s m meth c b L xs D cI cJ) (hD : LD s ad1 ad2 ao cI cJ) (hR : Rel ρ σ Dn Pn) (hi : i + 4 ≤ L) (hL : L ≤ 256) (hk : k + 1 ≤ 100000) (hN : Nxt p l e s m below meth c b D cI cJ ad1 ad2 ao k i) : LW p l e s m below meth c b D cI cJ ad1 ad2 ao k 959 (lv0 b ad1 ad2 ao i) [] σ o ρ := by
  have hK := C.2.2.1
  obtain ⟨hx, hb, hr, hml, hown, -, hX, hbl, hlocks, -⟩ := C.1
  intro H locs ls hPX hPM hS hl
  have hk0 : k ≤ 100000 := by omega
  refine lv_aload_n hx hb dL_law_959 rfl (lv_at hl 1 rfl) ?_
  refine lc_sc (j := 1) (i := i) (L := L) (xs := xs) hx hb hX hbl hS (lv_at hl 0 rfl) (lv_at hl 4 rfl) (by omega) hL dL_law_960 dL_law_961 dL_law_963 rfl dL_law_964 dL_law_965 ?_
  refine lc_sc (j := 2) (i := i) (L := L) (xs := xs) hx hb hX hbl hS (lv_at hl 0 rfl) (lv_at hl 4 rfl) (by omega) hL dL_law_966 dL_law_967 dL_law_969 rfl dL_law_970 dL_law_971 ?_
  refine lc_sc (j := 3) (i := i) (L := L) (xs := xs) hx hb hX hbl hS (lv_at hl 0 rfl) (lv_at hl 4 rfl) (by omega) hL dL_law_972 dL_law_973 dL_law_975 rfl dL_law_976 dL_law_977 ?_
  refine LW.help (ix := 134) (n := 4) (As := [.ref (ad1 0), .int (Int32.ofInt ((xs (i + 1)).toInt)), .int (Int32.ofInt ((xs (i + 2)).toInt)), .int (Int32.ofInt ((xs (i + 3)).toInt))]) (rest := []) C hD (hp_propose C.2.1 hR.1 (in32_I _) (in32_I _) (in32_I _)) (by decide +kernel) rfl dL_law_978 hk0 (by decide) (fun j z σ' o' hj3 hq hG => ?_) H locs ls hPX hPM hS hl
  clear hPX hPM hS hl
  clear H locs ls
  intro H locs ls hPX hPM hS hl
  refine lv_istore (lv' := [(5, .int (Int32.ofInt (j))), (0, .ref b), (1, .ref (ad1 0)), (2, .ref (ad2 0)), (3, .ref ao), (4, .int (Int32.ofInt i))]) hx hb dL_law_981 hl (by decide) rfl (fun ls hl => ?_)
  refine lv_aload_n hx hb dL_law_983 rfl (lv_at hl 3 rfl) ?_
  refine lc_sc (j := 1) (i := i) (L := L) (xs := xs) hx hb hX hbl hS (lv_at hl 1 rfl) (lv_at hl 5 rfl) (by omega) hL dL_law_984 dL_law_985 dL_law_987 rfl dL_law_988 dL_law_989 ?_
  refine lc_sc (j := 2) (i := i) (L := L) (xs := xs) hx hb hX hbl hS (lv_at hl 1 rfl) (lv_at hl 5 rfl) (by omega) hL dL_law_990 dL_law_991 dL_law_993 rfl dL_law_994 dL_law_995 ?_
  refine lc_sc (j := 3) (i := i) (L := L) (xs := xs) hx hb hX hbl hS (lv_at hl 1 rfl) (lv_at hl 5 rfl) (by omega) hL dL_law_996 dL_law_997 dL_law_999 rfl dL_law_1000 dL_law_1001 ?_
  refine LW.model (ix := 136) (n := 3) (as := [vi ((xs (i + 1)).toInt), vi ((xs (i + 2)).toInt), vi ((xs (i + 3)).toInt)]) (rest := []) C hD (mok_propose (d := 19) hR (in32_I _) (in32_I _) (in32_I _) hq) (by decide +kernel) rfl dL_law_1002 hk (Nat.le_of_ble_eq_true rfl) (fun v ρ' hm => ?_) H locs ls hPX hPM hS hl
  obtain ⟨rfl, hm0, hRE⟩ := hm
  clear hPX hPM hS hl
  clear H locs ls
  intro H locs ls hPX hPM hS hl
  refine lv_aload_n hx hb dL_law_1005 rfl (lv_at hl 3 rfl) ?_
  refine LW.model (ix := 81) (n := 0) (as := []) (rest := []) C hD ok_thrown (by decide +kernel) rfl dL_law_1006 hk (by decide) (fun v ρ9 ht => ?_) H locs ls hPX hPM hS hl
  obtain ⟨z9, rfl, rfl, hρ9⟩ := ht
  rw [hρ9]
  clear hPX hPM hS hl
  clear H locs ls
  intro H locs ls hPX hPM hS hl
  refine lv_iload hx hb dL_law_1009 (lv_at hl 0 rfl) ?_
  refine lv_icmp_eq (tgt := 1016) hx hb dL_law_1011 (by decide) (fun _ => ?_) (fun hc => absurd (by rw [hm0]) hc)
  refine lv_goto (tgt := 1063) hx hb dL_law_1016 (by decide) ?_
  exact hN σ' o' ρ' hRE H locs ls hPX hPM hS (lv_sub hl [1, 2, 3, 4, 5] rfl)
set_option maxRecDepth 100000 in
set_option maxHeartbeats 4000000 in
theorem lc_judge (C : LC p l s m meth c b L xs D cI cJ) (hD : LD s ad1 ad2 ao cI cJ) (hR : Rel ρ σ Dn Pn) (hi : i + 4 ≤ L) (hL : L ≤ 256) (hk : k + 1 ≤ 100000) (hN : Nxt p l e s m below meth c b D cI cJ ad1 ad2 ao k i) : LW p l e s m below meth c b D cI cJ ad1 ad2 ao k 1019 (lv0 b ad1 ad2 ao i) [] σ o ρ := by
  have hK := C.2.2.1
  obtain ⟨hx, hb, hr, hml, hown, -, hX, hbl, hlocks, -⟩ := C.1
  intro H locs ls hPX hPM hS hl
  have hk0 : k ≤ 100000 := by omega
  refine lv_aload_n hx hb dL_law_1019 rfl (lv_at hl 1 rfl) ?_
  refine lv_aload_n hx hb dL_law_1020 rfl (lv_at hl 3 rfl) ?_
  refine LW.help (ix := 137) (n := 2) (As := [.ref (ad1 0), .ref (ao)]) (rest := []) C hD (hp_judge C.2.1 hR.1) (by decide +kernel) rfl dL_law_1021 hk0 (by decide) (fun j z σ' o' hj3 hq hG => ?_) H locs ls hPX hPM hS hl
  clear hPX hPM hS hl
  clear H locs ls
  intro H locs ls hPX hPM hS hl
  refine lv_istore (lv' := [(5, .int (Int32.ofInt (j))), (0, .ref b), (1, .ref (ad1 0)), (2, .ref (ad2 0)), (3, .ref ao), (4, .int (Int32.ofInt i))]) hx hb dL_law_1024 hl (by decide) rfl (fun ls hl => ?_)
  refine lv_aload_n hx hb dL_law_1026 rfl (lv_at hl 3 rfl) ?_
  refine LW.model (ix := 139) (n := 0) (as := []) (rest := []) C hD (mok_judge (d := 16) hR  hq) (by decide +kernel) rfl dL_law_1027 hk (Nat.le_of_ble_eq_true rfl) (fun v ρ' hm => ?_) H locs ls hPX hPM hS hl
  obtain ⟨z2, rfl, hm0, hmz, hRE⟩ := hm
  clear hPX hPM hS hl
  clear H locs ls
  intro H locs ls hPX hPM hS hl
  refine lv_istore (lv' := [(6, .int (Int32.ofInt (z2))), (5, .int (Int32.ofInt (j))), (0, .ref b), (1, .ref (ad1 0)), (2, .ref (ad2 0)), (3, .ref ao), (4, .int (Int32.ofInt i))]) hx hb dL_law_1030 hl (by decide) rfl (fun ls hl => ?_)
  refine lv_aload_n hx hb dL_law_1032 rfl (lv_at hl 4 rfl) ?_
  refine LW.model (ix := 81) (n := 0) (as := []) (rest := []) C hD ok_thrown (by decide +kernel) rfl dL_law_1033 hk (by decide) (fun v ρ9 ht => ?_) H locs ls hPX hPM hS hl
  obtain ⟨z9, rfl, rfl, hρ9⟩ := ht
  rw [hρ9]
  clear hPX hPM hS hl
  clear H locs ls
  intro H locs ls hPX hPM hS hl
  refine lv_iload hx hb dL_law_1036 (lv_at hl 1 rfl) ?_
  refine lv_icmp_eq (tgt := 1043) hx hb dL_law_1038 (by decide) (fun _ => ?_) (fun hc => absurd (by rw [hm0]) hc)
  refine lv_iload hx hb dL_law_1043 (lv_at hl 1 rfl) ?_
  refine lv_if_ne (tgt := 1060) hx hb dL_law_1045 (by decide) (fun _ => ?_) (fun hc => ?_)
  · refine lv_goto (tgt := 1063) hx hb dL_law_1060 (by decide) ?_
    exact hN σ' o' ρ' hRE H locs ls hPX hPM hS (lv_sub hl [2, 3, 4, 5, 6] rfl)
  have hj0 := ofI_zero hj3 hc
  refine lv_aload_n hx hb dL_law_1048 rfl (lv_at hl 5 rfl) ?_
  refine lv_iconst (v := 0) hx hb dL_law_1049 (by decide) ?_
  refine va_lald hx hb hK.1 hPX 18 1 wXO_at rfl (by rw [vp_in_iff]; decide) dL_law_1050 ?_
  refine lv_iload hx hb dL_law_1051 (lv_at hl 0 rfl) ?_
  refine lv_i2l hx hb dL_law_1053 rfl ?_
  refine W.lcmp hx hb dL_law_1054 ?_
  refine lv_if_eq (tgt := 1060) hx hb dL_law_1055 (by decide) (fun _ => ?_) (fun hc9 => absurd (by rw [show (0 : Int32).toNatClampNeg = 0 from rfl, show o' 0 = _ from hG hj0, hmz hj0]; exact lg_cmp_self _) hc9)
  refine lv_goto (tgt := 1063) hx hb dL_law_1060 (by decide) ?_
  exact hN σ' o' ρ' hRE H locs ls hPX hPM hS (lv_sub hl [2, 3, 4, 5, 6] rfl)
end LawCases
