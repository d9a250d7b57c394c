/-! PURE: refreshing -/
def rnP (pr ep : Nat) (es : Nat → Nat) (p : Nat) : Bool := pr.testBit ((p - 1) / 3) && (decide (es p ≠ 0) && decide (es p = ep))
theorem z_renew106 {th : Nat} {co vs es : Nat → Nat} {z l2 : Int32} {ep : Nat} (hth : th ≤ 8) (hc : ∀ j, j < th → co j < 1019) : ∀ k n j (cm : Nat → Nat), j + k = th → k < n → (∀ i, i < 8 → cm i < 2039) →
    ∃ cm', F_X10_renewShares_L106 (nI th) n (L co) z (nI ep) (L cm) (L vs) (L es) l2 (nI j) = some (l2, L co, z, nI (ep + 1), L cm', L vs, L es) ∧ ∀ i, cm' i = if j ≤ i ∧ i < th then cm i * (4 ^ co i % 2039) % 2039 else cm i := by
  intro k
  induction k with
  | zero =>
    intro n j cm hj hn hcm
    obtain ⟨n, rfl⟩ := z_fuel hn
    have h0 : th ≤ j := by omega
    refine ⟨cm, ?_, fun i => by rw [if_neg (by omega)]⟩
    rw [F_X10_renewShares_L106]
    simp (disch := omega) only [q_lit, q_leI, h0, if_true, nI_add]
  | succ k ih =>
    intro n j cm hj hn hcm
    obtain ⟨n, rfl⟩ := z_fuel (show 0 < n by omega)
    have h0 : ¬ th ≤ j := by omega
    have h1 := hc j (by omega)
    have h2 := hcm j (by omega)
    have h3 : 4 ^ co j % 2039 < 2039 := Nat.mod_lt _ (by omega)
    have h4 : cm j * (4 ^ co j % 2039) ≤ 2038 * 2038 := q_mulle (by omega) (by omega)
    obtain ⟨cm', e1, e2⟩ := ih n (j + 1) (updN cm j (cm j * (4 ^ co j % 2039) % 2039)) (by omega) (by omega) (fun i hi => by
      by_cases e : i = j
      · rw [e, uN_s]; exact Nat.mod_lt _ (by omega)
      · rw [uN_n _ _ e]; exact hcm i hi)
    refine ⟨cm', ?_, fun i => ?_⟩
    · rw [F_X10_renewShares_L106]
      simp (disch := omega) only [q_lit, q_leI, h0, if_false, q_gi, q_gg, q_gl, q_cl, L_app, z_commitmentTo, Option.bind_some, pk_mul, pk_div, q_rem, pk_sub, q_mod, L_upd, nI_add]
      exact e1
    · rw [e2 i]
      by_cases hi : i = j
      · subst hi
        rw [if_neg (by omega), uN_s, if_pos (by omega)]
      · rw [uN_n _ _ hi]
        by_cases h5 : j + 1 ≤ i ∧ i < th
        · rw [if_pos h5, if_pos (by omega)]
        · rw [if_neg h5, if_neg (by omega)]
theorem z_renew13 {pr th ep : Nat} {co cm : Nat → Nat} {z : Int32} (hpr : pr < 256) (hth : th ≤ 8) (hep : ep < 10000) (hc : ∀ j, j < th → co j < 1019) : ∀ k n p acc (vs es : Nat → Nat), p + k = 25 → 1 ≤ p → k < n → (∀ q, q ≤ 24 → vs q < 1019) → (∀ q, p ≤ q → q ≤ 24 → es q < 10000) →
    ∃ vs' es', F_X10_renewShares_L13 (nI pr) (nI th) n (L co) z (nI ep) (L cm) (L vs) (L es) (nI acc) (nI p) = F_X10_renewShares_L106 (nI th) 1000 (L co) z (nI ep) (L cm) (L vs') (L es') (nI (acc + cntP (rnP pr ep es) p k)) (nI 0) ∧
      (∀ q, p ≤ q → q ≤ 24 → vs' q = (if rnP pr ep es q = true then (vs q + S_pol co q th 0) % 1019 else vs q) ∧ es' q = (if rnP pr ep es q = true then ep + 1 else es q)) ∧ ∀ q, q < p → vs' q = vs q ∧ es' q = es q := by
  intro k
  induction k with
  | zero =>
    intro n p acc vs es hp h1 hn hvs hes
    obtain ⟨n, rfl⟩ := z_fuel hn
    have h0 : 24 < p := by omega
    refine ⟨vs, es, ?_, fun q h1 h2 => by omega, fun q _ => ⟨rfl, rfl⟩⟩
    rw [F_X10_renewShares_L13]
    simp (disch := omega) only [q_lit, q_ltI, h0, if_true]
    rfl
  | succ k ih =>
    intro n p acc vs es hp h1 hn hvs hes
    obtain ⟨n, rfl⟩ := z_fuel (show 0 < n by omega)
    have h0 : ¬ 24 < p := by omega
    have h24 : p ≤ 24 := by omega
    have hv := hvs p h24
    have he := hes p (Nat.le_refl p) h24
    have hpl := S_pol_lt co p th 0 (by omega)
    rw [F_X10_renewShares_L13]
    unfold F_X10_renewShares_L98
    simp (disch := omega) only [q_lit, q_ltI, h0, if_false, z_ownerOf, Option.bind_some, z_contains, z_holds, q_b0, q_gi, q_gg, q_gl, q_cl, L_app, q_eqI, z_polyAt h24 hth hc, nI_add, pk_mul, pk_div, q_rem, pk_sub, q_mod, z_give]
    have hrn : rnP pr ep es p = (pr.testBit ((p - 1) / 3) && (decide (es p ≠ 0) && decide (es p = ep))) := rfl
    cases hd : rnP pr ep es p with
    | false =>
      obtain ⟨a, b, e1, e2, e3⟩ := ih n (p + 1) acc vs es (by omega) (by omega) (by omega) hvs (fun q h1 h2 => hes q (by omega) h2)
      refine ⟨a, b, ?_, fun q h1 h2 => ?_, fun q h1 => e3 q (by omega)⟩
      · have : acc + cntP (rnP pr ep es) p (k + 1) = acc + cntP (rnP pr ep es) (p + 1) k := by simp [cntP, hd]
        rw [this, ← e1]
        rw [hrn] at hd
        cases h2 : pr.testBit ((p - 1) / 3) with
        | false => simp
        | true =>
          by_cases h3 : es p = 0
          · simp [h3]
          · by_cases h4 : es p = ep
            · simp [h2, h3, h4] at hd
              omega
            · simp [h3, h4]
      · by_cases hq : q = p
        · subst hq
          rw [(e3 q (by omega)).1, (e3 q (by omega)).2, hd]
          simp
        · exact e2 q (by omega) h2
    | true =>
      obtain ⟨a, b, e1, e2, e3⟩ := ih n (p + 1) (acc + 1) (updN vs p ((vs p + S_pol co p th 0) % 1019)) (updN es p (ep + 1)) (by omega) (by omega) (by omega) (fun q hq => by
          by_cases e : q = p
          · rw [e, uN_s]; exact Nat.mod_lt _ (by omega)
          · rw [uN_n _ _ e]; exact hvs q hq) (fun q h1 h2 => by rw [uN_n _ _ (by omega)]; exact hes q (by omega) h2)
      have hcg : cntP (rnP pr ep (updN es p (ep + 1))) (p + 1) k = cntP (rnP pr ep es) (p + 1) k := cntP_congr k (p + 1) (fun i h1 h2 => by simp only [rnP]; rw [uN_n _ _ (by omega)])
      refine ⟨a, b, ?_, fun q h1 h2 => ?_, fun q h1 => ?_⟩
      · have : acc + cntP (rnP pr ep es) p (k + 1) = acc + 1 + cntP (rnP pr ep es) (p + 1) k := by simp [cntP, hd, Nat.add_assoc]
        rw [this, ← hcg, ← e1]
        rw [hrn, Bool.and_eq_true, Bool.and_eq_true, decide_eq_true_eq, decide_eq_true_eq] at hd
        have hne : ¬ ep = 0 := by omega
        simp [hd.1, hd.2.2, hne]
      · by_cases hq : q = p
        · subst hq
          rw [(e3 q (by omega)).1, (e3 q (by omega)).2, hd, uN_s, uN_s]
          simp
        · have := e2 q (by omega) h2
          have hr : rnP pr ep (updN es p (ep + 1)) q = rnP pr ep es q := by simp only [rnP]; rw [uN_n _ _ hq]
          rw [this.1, this.2, hr, uN_n _ _ hq, uN_n _ _ hq]
          exact ⟨rfl, rfl⟩
      · rw [(e3 q (by omega)).1, (e3 q (by omega)).2, uN_n _ _ (by omega), uN_n _ _ (by omega)]
        exact ⟨rfl, rfl⟩
theorem z_renew {pr th ep : Nat} {co cm vs es : Nat → Nat} {z : Int32} (hpr : pr < 256) (ok : okS th ep cm vs es) :
    ∃ cm' vs' es', F_X10_renewShares (L co) z (nI pr) (nI th) (nI ep) (L cm) (L vs) (L es) = some (nI (cntP (rnP pr ep es) 1 24), L (S_dr0 th 0 z co).2, (S_dr0 th 0 z co).1, nI (ep + 1), L cm', L vs', L es') ∧ (∀ i, cm' i = if i < th then cm i * (4 ^ (S_dr0 th 0 z co).2 i % 2039) % 2039 else cm i) ∧
      (∀ q, 1 ≤ q → q ≤ 24 → vs' q = (if rnP pr ep es q = true then (vs q + S_pol (S_dr0 th 0 z co).2 q th 0) % 1019 else vs q) ∧ es' q = (if rnP pr ep es q = true then ep + 1 else es q)) ∧ vs' 0 = vs 0 ∧ es' 0 = es 0 := by
  obtain ⟨hth, hep, hcm, hvs, hes⟩ := ok
  have hc := S_dr0_lt (th := th) z co (show 0 < 1019 by omega)
  obtain ⟨a, b, e1, e2, e3⟩ := z_renew13 (cm := cm) (z := (S_dr0 th 0 z co).1) hpr hth hep hc 24 1000 1 0 vs es (by omega) (by omega) (by omega) hvs (fun q _ h => hes q h)
  obtain ⟨c, f1, f2⟩ := z_renew106 (vs := a) (es := b) (z := (S_dr0 th 0 z co).1) (l2 := nI (0 + cntP (rnP pr ep es) 1 24)) (ep := ep) hth hc th 1000 0 cm (by omega) (by omega) hcm
  refine ⟨c, a, b, ?_, fun i => ?_, e2, (e3 0 (by omega)).1, (e3 0 (by omega)).2⟩
  · unfold F_X10_renewShares
    simp only [q_lit]
    rw [z_drawC hth]
    simp only [Option.bind_some, q_lit]
    rw [e1, f1, Nat.zero_add]
  · rw [f2 i]
    by_cases h : i < th
    · rw [if_pos (by omega), if_pos h]
    · rw [if_neg (by omega), if_neg h]
/-! the reference's -/
theorem z_rf155 {s th ep : Nat} {cf : Nat → Nat} {thr l5 : Int32} (hs : s < 4) (hth : th ≤ 8) (hc : ∀ j, j < th → cf j < 1019) : ∀ k n j (w : Nat → Nat), j + k = th → k < n → (∀ i, i < th → w (ix s (3 + i)) < 2039) →
    ∃ w', F_X11_refresh_L155 (nI s) n thr (L w) (L cf) (nI th) (nI ep) l5 (nI j) = ((F_X11_sets (L w') (nI s) (nI 2) (nI (ep + 1))).bind fun v13 => (F_X11_happens v13 (nI (300 + s))).bind fun v15 => (F_X11_done thr l5).bind fun v17 => some (v17.1, v17.2, v15, L cf)) ∧ (∀ i, j ≤ i → i < th → w' (ix s (3 + i)) = w (ix s (3 + i)) * (4 ^ cf i % 2039) % 2039) ∧ ∀ i, (i < ix s (3 + j) ∨ ix s (3 + th) ≤ i) → w' i = w i := by
  intro k
  induction k with
  | zero =>
    intro n j w hj hn hcm
    obtain ⟨n, rfl⟩ := z_fuel hn
    have h0 : th ≤ j := by omega
    refine ⟨w, ?_, fun i h1 h2 => by omega, fun i _ => rfl⟩
    rw [F_X11_refresh_L155]
    simp (disch := omega) only [q_lit, q_leI, h0, if_true, nI_add]
  | succ k ih =>
    intro n j w hj hn hcm
    obtain ⟨n, rfl⟩ := z_fuel (show 0 < n by omega)
    have h0 : ¬ th ≤ j := by omega
    have h1 := hc j (by omega)
    have h2 := hcm j (by omega)
    have h3 : 4 ^ cf j % 2039 < 2039 := Nat.mod_lt _ (by omega)
    have h4 : w (ix s (3 + j)) * (4 ^ cf j % 2039) ≤ 2038 * 2038 := q_mulle (by omega) (by omega)
    obtain ⟨w', e1, e2, e3⟩ := ih n (j + 1) (updN w (ix s (3 + j)) (w (ix s (3 + j)) * (4 ^ cf j % 2039) % 2039)) (by omega) (by omega) (fun i hi => by
      by_cases e : i = j
      · rw [e, uN_s]; exact Nat.mod_lt _ (by omega)
      · rw [uN_n _ _ (by simp only [ix]; omega)]; exact hcm i hi)
    refine ⟨w', ?_, fun i h5 h6 => ?_, fun i hi => ?_⟩
    · rw [F_X11_refresh_L155]
      simp (disch := omega) only [q_lit, q_leI, h0, if_false, nI_add, z_of, q_gi, q_gg, q_gl, q_cl, L_app, z_power, Option.bind_some, pk_mul, pk_div, q_rem, pk_sub, q_mod, z_sets]
      rw [e1, z_sets hs (by omega)]
      rfl
    · by_cases hi : i = j
      · subst hi
        rw [e3 _ (by simp only [ix]; omega), uN_s]
      · rw [e2 i (by omega) h6, uN_n _ _ (by simp only [ix]; omega)]
    · rw [e3 i (by simp only [ix] at *; omega), uN_n _ _ (by simp only [ix] at *; omega)]
theorem z_rf70 {s th ep pr : Nat} {cf wt : Nat → Nat} {thr : Int32} (hs : s < 4) (hth : th ≤ 8) (hep : ep < 10000) (hc : ∀ j, j < th → cf j < 1019) : ∀ k n p acc (w vs es : Nat → Nat), p + k = 25 → 1 ≤ p → k < n → HW w pr wt → RSh w s vs es → (∀ q, q ≤ 24 → vs q < 1019) → (∀ q, q ≤ 24 → es q < 10001) →
    ∃ w', F_X11_refresh_L70 (nI s) n thr (L w) (L cf) (nI th) (nI ep) (nI acc) (nI p) = F_X11_refresh_L155 (nI s) 1000 thr (L w') (L cf) (nI th) (nI ep) (nI (acc + cntP (rnP pr ep es) p k)) (nI 0) ∧
      (∀ q, p ≤ q → q ≤ 24 → w' (ix s (shx q 0)) = (decide (es q ≠ 0)).toNat ∧ w' (ix s (shx q 1)) = (if rnP pr ep es q = true then (vs q + S_pol cf q th 0) % 1019 else vs q) ∧ w' (ix s (shx q 2)) = (if rnP pr ep es q = true then ep + 1 else es q)) ∧ ∀ i, (i < ix s (shx p 0) ∨ ix s 123 < i) → w' i = w i := by
  intro k
  induction k with
  | zero =>
    intro n p acc w vs es hp h1 hn hH hR hvs hes
    obtain ⟨n, rfl⟩ := z_fuel hn
    have h0 : 24 < p := by omega
    refine ⟨w, ?_, fun q h1 h2 => by omega, fun i _ => rfl⟩
    rw [F_X11_refresh_L70]
    simp (disch := omega) only [q_lit, q_ltI, h0, if_true]
    rfl
  | succ k ih =>
    intro n p acc w vs es hp h1 hn hH hR hvs hes
    obtain ⟨n, rfl⟩ := z_fuel (show 0 < n by omega)
    have h0 : ¬ 24 < p := by omega
    have h24 : p ≤ 24 := by omega
    have hv := hvs p h24
    have he := hes p h24
    have hpl := S_pol_lt cf p th 0 (by omega)
    have hb := Bool.toNat_le (pr.testBit ((p - 1) / 3))
    rw [F_X11_refresh_L70]
    unfold F_X11_refresh_L146
    simp (disch := omega) only [q_lit, q_ltI, h0, if_false, z_owner, Option.bind_some, hH.pres (show (p - 1) / 3 < 8 by omega), hR.has hs h1 h24, hR.e hs h1 h24, hR.v hs h1 h24, q_b0, q_eqI, z_poly h24 hth hc, nI_add, pk_mul, pk_div, q_rem, pk_sub, q_mod, z_setsShare hs h1 h24]
    have hrn : rnP pr ep es p = (pr.testBit ((p - 1) / 3) && (decide (es p ≠ 0) && decide (es p = ep))) := rfl
    cases hd : rnP pr ep es p with
    | false =>
      obtain ⟨w', e1, e2, e3⟩ := ih n (p + 1) acc w vs es (by omega) (by omega) (by omega) hH hR hvs hes
      refine ⟨w', ?_, fun q h1 h2 => ?_, fun i hi => e3 i (by simp only [ix, shx] at *; omega)⟩
      · have : acc + cntP (rnP pr ep es) p (k + 1) = acc + cntP (rnP pr ep es) (p + 1) k := by simp [cntP, hd]
        rw [this, ← e1]
        rw [hrn] at hd
        cases h2 : pr.testBit ((p - 1) / 3) with
        | false => simp
        | true =>
          by_cases h3 : es p = 0
          · simp [h3]
          · by_cases h4 : es p = ep
            · simp [h2, h3, h4] at hd
              omega
            · simp [h3, h4]
      · by_cases hq : q = p
        · subst hq
          obtain ⟨g1, g2, g3⟩ := hR q (by omega) h2
          rw [e3 _ (by simp only [ix, shx]; omega), e3 _ (by simp only [ix, shx]; omega), e3 _ (by simp only [ix, shx]; omega), g1, g2, g3, hd]
          simp
        · exact e2 q (by omega) h2
    | true =>
      have hR' : RSh (shW w s p 1 ((vs p + S_pol cf p th 0) % 1019) (ep + 1)) s (updN vs p ((vs p + S_pol cf p th 0) % 1019)) (updN es p (ep + 1)) := by
        intro q h1 h2
        by_cases hq : q = p
        · subst hq
          rw [shW_0, shW_1, shW_2, uN_s, uN_s]
          simp
        · obtain ⟨g1, g2, g3⟩ := hR q h1 h2
          rw [shW_n _ _ _ _ (by simp only [ix, shx]; omega), shW_n _ _ _ _ (by simp only [ix, shx]; omega), shW_n _ _ _ _ (by simp only [ix, shx]; omega), uN_n _ _ hq, uN_n _ _ hq]
          exact ⟨g1, g2, g3⟩
      obtain ⟨w', e1, e2, e3⟩ := ih n (p + 1) (acc + 1) _ _ _ (by omega) (by omega) (by omega) (hH.of (fun i a b => shW_n _ _ _ _ (by simp only [ix, shx]; omega))) hR' (fun q hq => by
          by_cases e : q = p
          · rw [e, uN_s]; exact Nat.mod_lt _ (by omega)
          · rw [uN_n _ _ e]; exact hvs q hq) (fun q hq => by
          by_cases e : q = p
          · rw [e, uN_s]; omega
          · rw [uN_n _ _ e]; exact hes q hq)
      have hcg : cntP (rnP pr ep (updN es p (ep + 1))) (p + 1) k = cntP (rnP pr ep es) (p + 1) k := cntP_congr k (p + 1) (fun i h1 h2 => by simp only [rnP]; rw [uN_n _ _ (by omega)])
      refine ⟨w', ?_, fun q h1 h2 => ?_, fun i hi => ?_⟩
      · have : acc + cntP (rnP pr ep es) p (k + 1) = acc + 1 + cntP (rnP pr ep es) (p + 1) k := by simp [cntP, hd, Nat.add_assoc]
        rw [this, ← hcg, ← e1]
        rw [hrn, Bool.and_eq_true, Bool.and_eq_true, decide_eq_true_eq, decide_eq_true_eq] at hd
        have hne : ¬ ep = 0 := by omega
        simp [hd.1, hd.2.2, hne]
      · by_cases hq : q = p
        · subst hq
          rw [e3 _ (by simp only [ix, shx]; omega), e3 _ (by simp only [ix, shx]; omega), e3 _ (by simp only [ix, shx]; omega), shW_0, shW_1, shW_2, hd]
          rw [hrn, Bool.and_eq_true, Bool.and_eq_true] at hd
          rw [hd.2.1]
          simp
        · have := e2 q (by omega) h2
          have hr : rnP pr ep (updN es p (ep + 1)) q = rnP pr ep es q := by simp only [rnP]; rw [uN_n _ _ hq]
          rw [hr, uN_n _ _ hq, uN_n _ _ hq] at this
          exact this
      · rw [e3 i (by simp only [ix, shx] at *; omega), shW_n _ _ _ _ (by simp only [ix, shx] at *; omega)]
theorem z_rf41 {s th ep : Nat} {thr : Int32} (hth : th ≤ 8) : ∀ k n j (w cf : Nat → Nat), j + k = th → 1 ≤ j → k < n →
    F_X11_refresh_L41 (nI s) n thr (L w) (L cf) (nI th) (nI ep) (nI j) = F_X11_refresh_L70 (nI s) 1000 thr (L (updN w 0 (tw (S_drw k j (nI (w 0)) cf).1))) (L (S_drw k j (nI (w 0)) cf).2) (nI th) (nI ep) (nI 0) (nI 1) := by
  intro k
  induction k with
  | zero =>
    intro n j w cf hj h1 hn
    obtain ⟨n, rfl⟩ := z_fuel hn
    have h0 : th ≤ j := by omega
    rw [F_X11_refresh_L41]
    simp (disch := omega) only [q_lit, q_leI, h0, if_true]
    have : L (updN w 0 (tw (nI (w 0)))) = L w := by
      rw [← L_upd, nI_tw]
      funext i
      by_cases hi : i = 0
      · rw [hi, pk_us]; rfl
      · rw [pk_un hi]
    show _ = F_X11_refresh_L70 (nI s) 1000 thr (L (updN w 0 (tw (nI (w 0))))) (L cf) (nI th) (nI ep) (nI 0) (nI 1)
    rw [this]
  | succ k ih =>
    intro n j w cf hj h1 hn
    obtain ⟨n, rfl⟩ := z_fuel (show 0 < n by omega)
    have h0 : ¬ th ≤ j := by omega
    rw [F_X11_refresh_L41]
    simp (disch := omega) only [q_lit, q_leI, h0, if_false, z_drawn, Option.bind_some, q_gi, q_gg, q_gl, q_cl, L_upd, nI_add]
    rw [ih n (j + 1) _ _ (by omega) (by omega) (by omega), uN_s, nI_tw]
    have : ∀ x, updN (updN w 0 (tw (nz (nI (w 0))))) 0 x = updN w 0 x := by
      intro x
      funext i
      by_cases hi : i = 0
      · rw [hi, uN_s, uN_s]
      · rw [uN_n _ _ hi, uN_n _ _ hi, uN_n _ _ hi]
    rw [this]
    rfl
/-- the reference's refresh, up to its event -/
theorem z_refresh {s th ep pr : Nat} {w cf wt cm vs es : Nat → Nat} {thr : Int32} (hs : s < 4) (hH : HW w pr wt) (hR : RS w s th ep cm vs es) :
    ∃ w' cf', F_X11_refresh_L41 (nI s) 1000 thr (L w) (L (updN cf 0 0)) (nI th) (nI ep) (nI 1) = ((F_X11_happens (L w') (nI (300 + s))).bind fun v15 => (F_X11_done thr (nI (cntP (rnP pr ep es) 1 24))).bind fun v17 => some (v17.1, v17.2, v15, L cf')) ∧ w' 0 = tw (S_dr0 th 0 (nI (w 0)) cf).1 ∧
      (∀ i, i < th → w' (ix s (3 + i)) = cm i * (4 ^ (S_dr0 th 0 (nI (w 0)) cf).2 i % 2039) % 2039) ∧ w' (ix s 2) = ep + 1 ∧
      (∀ q, 1 ≤ q → q ≤ 24 → w' (ix s (shx q 0)) = (decide (es q ≠ 0)).toNat ∧ w' (ix s (shx q 1)) = (if rnP pr ep es q = true then (vs q + S_pol (S_dr0 th 0 (nI (w 0)) cf).2 q th 0) % 1019 else vs q) ∧ w' (ix s (shx q 2)) = (if rnP pr ep es q = true then ep + 1 else es q)) ∧
      ∀ i, 1 ≤ i → (i < ix s 2 ∨ (ix s 11 ≤ i ∧ i < ix s 52) ∨ ix s 123 < i) → w' i = w i := by
  obtain ⟨hSh, ⟨hth, hep, hcm, hvs, hes⟩, h1, h2, h3, h4, h5⟩ := hR
  have hc := S_dr0_lt (th := th) (nI (w 0)) cf (show 0 < 1019 by omega)
  have e0 := z_rf41 (s := s) (ep := ep) (thr := thr) hth (th - 1) 1000 1 w (updN cf 0 0) (by omega) (by omega) (by omega)
  have hH1 : HW (updN w 0 (tw (S_dr0 th 0 (nI (w 0)) cf).1)) pr wt := hH.of (fun i h1 _ => uN_n _ _ (by omega))
  have hR1 : RSh (updN w 0 (tw (S_dr0 th 0 (nI (w 0)) cf).1)) s vs es := by
    intro q a b
    rw [uN_n _ _ (by simp only [ix]; omega), uN_n _ _ (by simp only [ix]; omega), uN_n _ _ (by simp only [ix]; omega)]
    exact hSh q a b
  obtain ⟨w1, e1, e2, e3⟩ := z_rf70 (thr := thr) hs hth hep hc 24 1000 1 0 _ vs es (by omega) (by omega) (by omega) hH1 hR1 hvs (fun q hq => by have := hes q hq; omega)
  obtain ⟨w2, f1, f2, f3⟩ := z_rf155 (ep := ep) (thr := thr) (l5 := nI (0 + cntP (rnP pr ep es) 1 24)) hs hth hc th 1000 0 w1 (by omega) (by omega) (fun i hi => by
    rw [e3 _ (by simp only [ix, shx]; omega), uN_n _ _ (by simp only [ix]; omega), h5 i hi]
    exact hcm i (by omega))
  refine ⟨updN w2 (ix s 2) (ep + 1), (S_dr0 th 0 (nI (w 0)) cf).2, ?_, ?_, fun i hi => ?_, uN_s _ _ _, fun q a b => ?_, fun i a hi => ?_⟩
  · rw [e0]
    refine (e1.trans f1).trans ?_
    rw [z_sets hs (by omega), Nat.zero_add]
    rfl
  · rw [uN_n _ _ (by simp only [ix]; omega), f3 0 (by simp only [ix]; omega), e3 0 (by simp only [ix, shx]; omega), uN_s]
  · rw [uN_n _ _ (by simp only [ix]; omega), f2 i (by omega) hi, e3 _ (by simp only [ix, shx]; omega), uN_n _ _ (by simp only [ix]; omega), h5 i hi]
  · rw [uN_n _ _ (by simp only [ix, shx]; omega), uN_n _ _ (by simp only [ix, shx]; omega), uN_n _ _ (by simp only [ix, shx]; omega), f3 _ (by simp only [ix, shx]; omega), f3 _ (by simp only [ix, shx]; omega), f3 _ (by simp only [ix, shx]; omega)]
    exact e2 q a b
  · rw [uN_n _ _ (by simp only [ix] at *; omega), f3 i (by simp only [ix] at *; omega), e3 i (by simp only [ix, shx] at *; omega), uN_n _ _ (by omega)]
