/-! LAW: the loop -/
theorem LInv.next {cy : Nat → ClassId} {v b k r a : Nat → Nat} {c u : Nat → Nat → Nat} {sb lb o0 n : Nat} {ws : va_W} (h : LInv cy v b k r a c u sb lb o0 n ws) : LInv cy v b k r a c u sb lb o0 (n + 1) ws := by
  obtain ⟨s0, h0, hs', fa, co, ch, gs, op, z, pr, le, ec, wt, ev, fi, th, ep, ru, cm, vs, es, KW, sy, ml, N, cap, bf, ly, ml2, N2, cap2, lf, rs, rc, rd, PW, thr, w, sv, cf, nd, nm, isd, cd, dt, gv, pa, pq, tp, at_, va, rp, rv, re, ot, h1, h2, h3, h4, h5, h6, h7⟩ := h
  exact ⟨s0, h0, hs', fa, co, ch, gs, op, z, pr, le, ec, wt, ev, fi, th, ep, ru, cm, vs, es, KW, sy, ml, N, cap, bf, ly, ml2, N2, cap2, lf, rs, rc, rd, PW, thr, w, sv, cf, nd, nm, isd, cd, dt, gv, pa, pq, tp, at_, va, rp, rv, re, ot, h1, h2.same, h3, h4.next (fun _ h => h), h5, h6, h7⟩
theorem q_b63 (y : Int32) : ∃ j, j < 64 ∧ y &&& 63 = nI j := by
  refine ⟨(y &&& 63).toBitVec.toNat, ?_, ?_⟩
  · have : (y &&& 63).toBitVec = y.toBitVec &&& 63#32 := rfl
    rw [this, BitVec.toNat_and]
    exact Nat.lt_of_le_of_lt Nat.and_le_right (by decide)
  · apply Int32.toBitVec_inj.1
    show _ = BitVec.ofNat 32 _
    rw [BitVec.ofNat_toNat]
    simp
theorem law_loop {X : gX} {Q : State → Prop} {sc Ls : Nat} {xs : Nat → Int32} {v b k r a : Nat → Nat} {c u : Nat → Nat → Nat} {sb lb o0 : Nat} (C : gC X "SecretVaultLaw" cL_law ret) (hRm : x_R X = gRm 2048 94400 603072 7190634) (hn : x_n X = 8) (hro : hScr X sc Ls xs) (hLs : Ls ≤ 2048) (hEnd : ∀ ck sk ws lv, ck ≤ 603072 → sk ≤ 7190634 → gW X Q ck sk ws lv [.int 1] 2383) : ∀ m n i ck sk ws, Ls + 5 - i < m → i = 4 * n → i ≤ Ls + 4 → ck ≤ 200 + 100 * n → sk ≤ 10000 + 7000 * n → LInv (x_y X) v b k r a c u sb lb o0 n ws → gW X Q ck sk ws (lvB sc (v 0) (a 0) o0 (nI i)) [] 23 := by
  intro m
  induction m with
  | zero => intro n i ck sk ws h; omega
  | succ m ih =>
    intro n i ck sk ws hm hin hi4 hck hsk hI
    refine g_iload C 0 dL_law_23 rfl (g_aload_n C 1 dL_law_25 rfl (g_slen C hro dL_law_26 (g_iconst C (v := nI 4) dL_law_27 (by decide) (g_isub C dL_law_28 ?_))))
    refine g_icmp_gt C 2382 dL_law_29 (by decide) (fun _ => ?_) (fun h => ?_)
    · exact g_iconst C (v := 1) dL_law_2382 (by decide) (hEnd ck sk ws _ (by omega) (by omega))
    · have hle : i + 4 ≤ Ls := by
        rw [Int32.lt_iff_toInt_lt, nI_toInt (show i < 2 ^ 31 by omega)] at h
        have e := pk_sub_toInt (a := Ls) (b := 4) (by omega) (by omega)
        have e2 : (Int32.ofNat Ls - nI 4).toInt = (Ls : Int) - (4 : Nat) := e
        rw [e2] at h
        omega
      refine g_aload_n C 1 dL_law_32 rfl (g_iload C 0 dL_law_33 rfl ?_)
      refine g_sld C hro (nI_in (show i < Ls by omega) (by omega)) dL_law_35 ?_
      rw [q_cl (show i < 2 ^ 31 by omega)]
      refine g_bipush C (v := 63) dL_law_36 (by decide) (g_iand C dL_law_38 ?_)
      obtain ⟨j, hj, ej⟩ := q_b63 (xs i)
      rw [ej]
      have KK : ∀ ws', LInv (x_y X) v b k r a c u sb lb o0 (n + 1) ws' → gW X Q (ck + 100) (sk + 7000) ws' (lvB sc (v 0) (a 0) o0 (nI i)) [] 2376 := fun ws' h => g_iinc C (v := nI (i + 4)) (lv' := lvB sc (v 0) (a 0) o0 (nI (i + 4))) 0 dL_law_2376 rfl (by rw [show Int32.ofInt 4 = nI 4 by decide, nI_add]) (g_nlt hn rfl) rfl (g_goto C 23 dL_law_2379 (by decide) (ih (n + 1) (i + 4) _ _ ws' (by omega) (by omega) (by omega) (by omega) (by omega) h))
      by_cases e0 : j = 0
      · subst e0
        exact g_tableIn C 196 (off := 157) dL_law_39 (by decide) (by decide) rfl (by decide) (law_seed C hRm hn hro (by omega) (by omega) (by omega) (by omega) (by omega) hI KK)
      by_cases e1 : j = 1
      · subst e1
        exact g_tableIn C 221 (off := 182) dL_law_39 (by decide) (by decide) rfl (by decide) (law_draw C hRm hn hro (by omega) (by omega) (by omega) (by omega) (by omega) hI KK)
      by_cases e2 : j = 2
      · subst e2
        exact g_tableIn C 234 (off := 195) dL_law_39 (by decide) (by decide) rfl (by decide) (law_setWeight C hRm hn hro (by omega) (by omega) (by omega) (by omega) (by omega) hI KK)
      by_cases e3 : j = 3
      · subst e3
        exact g_tableIn C 302 (off := 263) dL_law_39 (by decide) (by decide) rfl (by decide) (law_setPresent C hRm hn hro (by omega) (by omega) (by omega) (by omega) (by omega) hI KK)
      by_cases e4 : j = 4
      · subst e4
        exact g_tableIn C 393 (off := 354) dL_law_39 (by decide) (by decide) rfl (by decide) (law_member C hRm hn hro (by omega) (by omega) (by omega) (by omega) (by omega) hI KK)
      by_cases e5 : j = 5
      · subst e5
        exact g_tableIn C 461 (off := 422) dL_law_39 (by decide) (by decide) rfl (by decide) (law_put C hRm hn hro (by omega) (by omega) (by omega) (by omega) (by omega) hI KK)
      by_cases e6 : j = 6
      · subst e6
        exact g_tableIn C 541 (off := 502) dL_law_39 (by decide) (by decide) rfl (by decide) (law_remove C hRm hn hro (by omega) (by omega) (by omega) (by omega) (by omega) hI KK)
      by_cases e7 : j = 7
      · subst e7
        exact g_tableIn C 597 (off := 558) dL_law_39 (by decide) (by decide) rfl (by decide) (law_refresh C hRm hn hro (by omega) (by omega) (by omega) (by omega) (by omega) hI KK)
      by_cases e8 : j = 8
      · subst e8
        exact g_tableIn C 653 (off := 614) dL_law_39 (by decide) (by decide) rfl (by decide) (law_reshare C hRm hn hro (by omega) (by omega) (by omega) (by omega) (by omega) hI KK)
      by_cases e9 : j = 9
      · subst e9
        exact g_tableIn C 733 (off := 694) dL_law_39 (by decide) (by decide) rfl (by decide) (law_enroll C hRm hn hro (by omega) (by omega) (by omega) (by omega) (by omega) hI KK)
      by_cases e10 : j = 10
      · subst e10
        exact g_tableIn C 813 (off := 774) dL_law_39 (by decide) (by decide) rfl (by decide) (law_expel C hRm hn hro (by omega) (by omega) (by omega) (by omega) (by omega) hI KK)
      by_cases e11 : j = 11
      · subst e11
        exact g_tableIn C 881 (off := 842) dL_law_39 (by decide) (by decide) rfl (by decide) (law_open C hRm hn hro (by omega) (by omega) (by omega) (by omega) (by omega) hI KK)
      by_cases e12 : j = 12
      · subst e12
        exact g_tableIn C 949 (off := 910) dL_law_39 (by decide) (by decide) rfl (by decide) (law_combine C hRm hn hro (by omega) (by omega) (by omega) (by omega) (by omega) hI KK)
      by_cases e13 : j = 13
      · subst e13
        exact g_tableIn C 1017 (off := 978) dL_law_39 (by decide) (by decide) rfl (by decide) (law_agree C hRm hn hro (by omega) (by omega) (by omega) (by omega) (by omega) hI KK)
      by_cases e14 : j = 14
      · subst e14
        exact g_tableIn C 1092 (off := 1053) dL_law_39 (by decide) (by decide) rfl (by decide) (law_secret C hRm hn hro (by omega) (by omega) (by omega) (by omega) (by omega) hI KK)
      by_cases e15 : j = 15
      · subst e15
        exact g_tableIn C 1160 (off := 1121) dL_law_39 (by decide) (by decide) rfl (by decide) (law_commitment C hRm hn hro (by omega) (by omega) (by omega) (by omega) (by omega) hI KK)
      by_cases e16 : j = 16
      · subst e16
        exact g_tableIn C 1228 (off := 1189) dL_law_39 (by decide) (by decide) rfl (by decide) (law_share C hRm hn hro (by omega) (by omega) (by omega) (by omega) (by omega) hI KK)
      by_cases e17 : j = 17
      · subst e17
        exact g_tableIn C 1308 (off := 1269) dL_law_39 (by decide) (by decide) rfl (by decide) (law_setShare C hRm hn hro (by omega) (by omega) (by omega) (by omega) (by omega) hI KK)
      by_cases e18 : j = 18
      · subst e18
        exact g_tableIn C 1388 (off := 1349) dL_law_39 (by decide) (by decide) rfl (by decide) (law_shareText C hRm hn hro (by omega) (by omega) (by omega) (by omega) (by omega) hI KK)
      by_cases e19 : j = 19
      · subst e19
        exact g_tableIn C 1468 (off := 1429) dL_law_39 (by decide) (by decide) rfl (by decide) (law_importShare C hRm hn hro (by omega) (by omega) (by omega) (by omega) (by omega) hI KK)
      by_cases e20 : j = 20
      · subst e20
        exact g_tableIn C 1524 (off := 1485) dL_law_39 (by decide) (by decide) rfl (by decide) (law_bad C hRm hn hro (by omega) (by omega) (by omega) (by omega) (by omega) hI KK)
      by_cases e21 : j = 21
      · subst e21
        exact g_tableIn C 1592 (off := 1553) dL_law_39 (by decide) (by decide) rfl (by decide) (law_append C hRm hn hro (by omega) (by omega) (by omega) (by omega) (by omega) hI KK)
      by_cases e22 : j = 22
      · subst e22
        exact g_tableIn C 1648 (off := 1609) dL_law_39 (by decide) (by decide) rfl (by decide) (law_setPolicy C hRm hn hro (by omega) (by omega) (by omega) (by omega) (by omega) hI KK)
      by_cases e23 : j = 23
      · subst e23
        exact g_tableIn C 1711 (off := 1672) dL_law_39 (by decide) (by decide) rfl (by decide) (law_errorPosition C hRm hn hro (by omega) (by omega) (by omega) (by omega) (by omega) hI KK)
      by_cases e24 : j = 24
      · subst e24
        exact g_tableIn C 1724 (off := 1685) dL_law_39 (by decide) (by decide) rfl (by decide) (law_fulfils C hRm hn hro (by omega) (by omega) (by omega) (by omega) (by omega) hI KK)
      by_cases e25 : j = 25
      · subst e25
        exact g_tableIn C 1799 (off := 1760) dL_law_39 (by decide) (by decide) rfl (by decide) (law_policyText C hRm hn hro (by omega) (by omega) (by omega) (by omega) (by omega) hI KK)
      by_cases e26 : j = 26
      · subst e26
        exact g_tableIn C 1867 (off := 1828) dL_law_39 (by decide) (by decide) rfl (by decide) (law_policy C hRm hn hro (by omega) (by omega) (by omega) (by omega) (by omega) hI KK)
      by_cases e27 : j = 27
      · subst e27
        exact g_tableIn C 1935 (off := 1896) dL_law_39 (by decide) (by decide) rfl (by decide) (law_groups C hRm hn hro (by omega) (by omega) (by omega) (by omega) (by omega) hI KK)
      by_cases e28 : j = 28
      · subst e28
        exact g_tableIn C 1991 (off := 1952) dL_law_39 (by decide) (by decide) rfl (by decide) (law_smallest C hRm hn hro (by omega) (by omega) (by omega) (by omega) (by omega) hI KK)
      by_cases e29 : j = 29
      · subst e29
        exact g_tableIn C 2059 (off := 2020) dL_law_39 (by decide) (by decide) rfl (by decide) (law_powerBits C hRm hn hro (by omega) (by omega) (by omega) (by omega) (by omega) hI KK)
      by_cases e30 : j = 30
      · subst e30
        exact g_tableIn C 2126 (off := 2087) dL_law_39 (by decide) (by decide) rfl (by decide) (law_healthBits C hRm hn hro (by omega) (by omega) (by omega) (by omega) (by omega) hI KK)
      by_cases e31 : j = 31
      · subst e31
        exact g_tableIn C 2182 (off := 2143) dL_law_39 (by decide) (by decide) rfl (by decide) (law_levels C hRm hn hro (by omega) (by omega) (by omega) (by omega) (by omega) hI KK)
      by_cases e32 : j = 32
      · subst e32
        exact g_tableIn C 2195 (off := 2156) dL_law_39 (by decide) (by decide) rfl (by decide) (law_report C hRm hn hro (by omega) (by omega) (by omega) (by omega) (by omega) hI KK)
      by_cases e33 : j = 33
      · subst e33
        exact g_tableIn C 2263 (off := 2224) dL_law_39 (by decide) (by decide) rfl (by decide) (law_event C hRm hn hro (by omega) (by omega) (by omega) (by omega) (by omega) hI KK)
      by_cases e34 : j = 34
      · subst e34
        exact g_tableIn C 2319 (off := 2280) dL_law_39 (by decide) (by decide) rfl (by decide) (law_save C hRm hn hro (by omega) (by omega) (by omega) (by omega) (by omega) hI KK)
      by_cases e35 : j = 35
      · subst e35
        exact g_tableIn C 2332 (off := 2293) dL_law_39 (by decide) (by decide) rfl (by decide) (law_restore C hRm hn hro (by omega) (by omega) (by omega) (by omega) (by omega) hI KK)
      refine g_tableOut C 2376 dL_law_39 (Or.inr ?_) (by decide) (g_wide (ck' := ck + 100) (sk' := sk + 7000) (by omega) (by omega) (KK ws hI.next))
      rw [nI_toInt (show j < 2 ^ 31 by omega)]
      omega
