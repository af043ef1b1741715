/-! ===== the law's loop ===== -/
section LawLoop
variable {p : Program} {l : Launch} {e : Env} {s : State} {m : MethodId} {below : List Frame} {meth : Method} {c : Code} {b L : Nat} {xs : Nat → Int32} {D : va_G} {cI cJ : ClassId} {ad1 ad2 : Nat → Nat} {ao : Nat}
set_option maxRecDepth 100000 in
set_option maxHeartbeats 4000000 in
theorem law_loop (C : LC p l s m meth c b L xs D cI cJ) (hD : LD s ad1 ad2 ao cI cJ) (hL : L ≤ 256) : ∀ (n i k : Nat) (σ : HP) (o : Nat → Int64) (ρ : HP), L + 1 ≤ i + n → i ≤ L → k ≤ 1000 + i → RelE ρ σ → LW p l e s m below meth c b D cI cJ ad1 ad2 ao k 23 (lv0 b ad1 ad2 ao i) [] σ o ρ := by
  obtain ⟨hx, hb, hr, hml, hown, hts0, hX, hbl, hlocks, hgv⟩ := id C.1
  intro n
  induction n with
  | zero => intro i k σ o ρ h1 h2; exact absurd h1 (by omega)
  | succ n ih =>
    intro i k σ o ρ hin hiL hk hRE H locs ls hPX hPM hS hl
    refine lv_iload hx hb dL_law_23 (lv_at hl 4 rfl) ?_
    refine lv_aload_n hx hb dL_law_25 rfl (lv_at hl 0 rfl) ?_
    refine va_slen hx hb hX hbl (Nat.not_le.mpr hbl) hS dL_law_26 ?_
    refine lv_iconst (v := Int32.ofInt 4) hx hb dL_law_27 rfl ?_
    refine lv_isub hx hb dL_law_28 ?_
    rw [show Int32.ofNat L = Int32.ofInt (L : Int) from (Int32.ofInt_eq_ofNat).symm, I_sub]
    have e0 := I_lt (a := (L : Int) - 4) (b := i) ⟨by omega, by omega⟩ ⟨by omega, by omega⟩
    refine lv_icmp_gt (tgt := 1069) hx hb dL_law_29 (by decide) (fun q => ?_) (fun q => ?_)
    · refine lv_iconst (v := 1) hx hb dL_law_1069 (by decide) ?_
      refine va_forget (fun q hq => hS.2.2 q hq) ?_
      refine W.widen (k := 600128) (n := 7301097) (by omega) (by omega) ?_
      exact lw_ret hx hb hr hlocks dL_law_1070
    · have hi : i + 4 ≤ L := by rw [e0] at q; omega
      have hN : Nxt p l e s m below meth c b D cI cJ ad1 ad2 ao k i := by
        intro σ' o' ρ' hR' H locs ls hPX hPM hS hl
        refine lv_iinc (v := Int32.ofInt (i + 4 : Nat)) (lv' := [(4, .int (Int32.ofInt (i + 4 : Nat))), (0, .ref b), (1, .ref (ad1 0)), (2, .ref (ad2 0)), (3, .ref ao)]) hx hb dL_law_1063 hl (k := 4) rfl (by rw [I_add]; rfl) (by decide) rfl (fun ls hl => ?_)
        refine lv_goto (tgt := 23) hx hb dL_law_1066 (by decide) ?_
        exact ih (i + 4) (k + 1) σ' o' ρ' (by omega) hi (by omega) hR' H locs ls hPX hPM hS (lv_sub hl [1, 2, 3, 4, 0] rfl)
      obtain ⟨Dn, Pn, hR⟩ := id hRE
      have q := I_cl (z := (i : Int)) (n := L) ⟨by omega, by omega⟩ (by omega)
      refine lv_aload_n hx hb dL_law_32 rfl (lv_at hl 0 rfl) ?_
      refine lv_iload hx hb dL_law_33 (lv_at hl 4 rfl) ?_
      refine va_sld hx hb hX hbl (Nat.not_le.mpr hbl) hS q.1 dL_law_35 ?_
      refine lv_bipush (v := 15) hx hb dL_law_36 (by decide) ?_
      refine lv_iand hx hb dL_law_38 ?_
      refine lv_topi (fun v ev => ?_)
      have hk2 : k + 1 ≤ 100000 := by omega
      by_cases h1 : v.toInt < 0 ∨ 15 < v.toInt
      · refine lv_tableOut (tgt := 1063) hx hb dL_law_39 h1 (by decide) ?_
        refine W.widen (k := k + 1) (n := 6 * (k + 1)) (by omega) (by omega) ?_
        exact hN σ o ρ hRE H locs ls hPX hPM hS hl
      · obtain ⟨h2, h3⟩ := not_or.mp h1
        have h4 : v.toInt = 0 ∨ v.toInt = 1 ∨ v.toInt = 2 ∨ v.toInt = 3 ∨ v.toInt = 4 ∨ v.toInt = 5 ∨ v.toInt = 6 ∨ v.toInt = 7 ∨ v.toInt = 8 ∨ v.toInt = 9 ∨ v.toInt = 10 ∨ v.toInt = 11 ∨ v.toInt = 12 ∨ v.toInt = 13 ∨ v.toInt = 14 ∨ v.toInt = 15 := by omega
        rcases h4 with h4 | h4 | h4 | h4 | h4 | h4 | h4 | h4 | h4 | h4 | h4 | h4 | h4 | h4 | h4 | h4
        · exact lv_tableIn (tgt := 116) hx hb dL_law_39 h2 h3 (by rw [h4]; rfl) (by decide) (lc_district C hD hR hi hL hk2 hN H locs ls hPX hPM hS hl)
        · exact lv_tableIn (tgt := 172) hx hb dL_law_39 h2 h3 (by rw [h4]; rfl) (by decide) (lc_party C hD hR hi hL hk2 hN H locs ls hPX hPM hS hl)
        · exact lv_tableIn (tgt := 216) hx hb dL_law_39 h2 h3 (by rw [h4]; rfl) (by decide) (lc_votes C hD hR hi hL hk2 hN H locs ls hPX hPM hS hl)
        · exact lv_tableIn (tgt := 276) hx hb dL_law_39 h2 h3 (by rw [h4]; rfl) (by decide) (lc_weigh C hD hR hi hL hk2 hN H locs ls hPX hPM hS hl)
        · exact lv_tableIn (tgt := 315) hx hb dL_law_39 h2 h3 (by rw [h4]; rfl) (by decide) (lc_threshold C hD hR hi hL hk2 hN H locs ls hPX hPM hS hl)
        · exact lv_tableIn (tgt := 351) hx hb dL_law_39 h2 h3 (by rw [h4]; rfl) (by decide) (lc_lot C hD hR hi hL hk2 hN H locs ls hPX hPM hS hl)
        · exact lv_tableIn (tgt := 399) hx hb dL_law_39 h2 h3 (by rw [h4]; rfl) (by decide) (lc_count C hD hR hi hL hk2 hN H locs ls hPX hPM hS hl)
        · exact lv_tableIn (tgt := 440) hx hb dL_law_39 h2 h3 (by rw [h4]; rfl) (by decide) (lc_share C hD hR hi hL hk2 hN H locs ls hPX hPM hS hl)
        · exact lv_tableIn (tgt := 496) hx hb dL_law_39 h2 h3 (by rw [h4]; rfl) (by decide) (lc_tied C hD hR hi hL hk2 hN H locs ls hPX hPM hS hl)
        · exact lv_tableIn (tgt := 559) hx hb dL_law_39 h2 h3 (by rw [h4]; rfl) (by decide) (lc_solve C hD hR hi hL hk2 hN H locs ls hPX hPM hS hl)
        · exact lv_tableIn (tgt := 610) hx hb dL_law_39 h2 h3 (by rw [h4]; rfl) (by decide) (lc_seats C hD hR hi hL hk2 hN H locs ls hPX hPM hS hl)
        · exact lv_tableIn (tgt := 706) hx hb dL_law_39 h2 h3 (by rw [h4]; rfl) (by decide) (lc_unique C hD hR hi hL hk2 hN H locs ls hPX hPM hS hl)
        · exact lv_tableIn (tgt := 757) hx hb dL_law_39 h2 h3 (by rw [h4]; rfl) (by decide) (lc_number C hD hR hi hL hk2 hN H locs ls hPX hPM hS hl)
        · exact lv_tableIn (tgt := 868) hx hb dL_law_39 h2 h3 (by rw [h4]; rfl) (by decide) (lc_blocks C hD hR hi hL hk2 hN H locs ls hPX hPM hS hl)
        · exact lv_tableIn (tgt := 959) hx hb dL_law_39 h2 h3 (by rw [h4]; rfl) (by decide) (lc_propose C hD hR hi hL hk2 hN H locs ls hPX hPM hS hl)
        · exact lv_tableIn (tgt := 1019) hx hb dL_law_39 h2 h3 (by rw [h4]; rfl) (by decide) (lc_judge C hD hR hi hL hk2 hN H locs ls hPX hPM hS hl)
end LawLoop
