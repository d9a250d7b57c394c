/-! PURE: enroll -/
theorem z_given {w nd vs es : Nat → Nat} {s th m : Nat} {thr nm lm l5 : Int32} {cd dt : Nat → Int32} (hs : s < 4) (hm : m < 8) (hR : RSh w s vs es) (hk : F_X11_of (L w) (nI s) (nI 1) = some (nI th)) (hth : th ≤ 8) (hn : ∀ j, j < th → 1 ≤ nd j ∧ nd j ≤ 24) (hv : ∀ p, p ≤ 24 → vs p < 1019) : ∀ k n i (gv : Nat → Nat), i + k = 3 → k < n →
    ∃ gv', F_X11_enroll_L46 (nI s) (nI m) n thr (L w) (L nd) nm cd dt lm (L gv) l5 (nI i) = F_X11_enroll_L87 (nI s) (nI m) 1000 thr (L w) (L nd) nm cd dt lm (L gv') l5 (nI 0) ∧ (∀ j, i ≤ j → j < 3 → gv' j = S_val nd vs th (3 * m + 1 + j) th 0 0) ∧ ∀ j, j < i → gv' j = gv j := by
  intro k
  induction k with
  | zero =>
    intro n i gv hi hn1
    obtain ⟨n, rfl⟩ := z_fuel hn1
    have h3 : i = 3 := by omega
    subst h3
    refine ⟨gv, ?_, fun j a b => by omega, fun _ _ => rfl⟩
    rw [F_X11_enroll_L46]
    exact if_pos (show nI 3 ≤ nI 3 by decide)
  | succ k ih =>
    intro n i gv hi hn1
    obtain ⟨n, rfl⟩ := z_fuel (show 0 < n by omega)
    have h3 : ¬ nI 3 ≤ nI i := nI_ge (by omega) (by omega)
    have hva := z_valueAt (nd := nd) (x := 3 * m + 1 + i) hs hR (by omega) hth hn hv
    obtain ⟨gv', e1, e2, e3⟩ := ih n (i + 1) (updN gv i (S_val nd vs th (3 * m + 1 + i) th 0 0)) (by omega) (by omega)
    refine ⟨gv', ?_, fun j a b => ?_, fun j a => ?_⟩
    · rw [F_X11_enroll_L46]
      refine (if_neg h3).trans ?_
      refine ob hk ?_
      have e7 : nI 3 * nI m + nI 1 + nI i = nI (3 * m + 1 + i) := by rw [pk_mul, nI_add, nI_add]
      refine ob (show F_X11_valueAt (L w) (L nd) (nI s) (nI th) (nI 3 * nI m + nI 1 + nI i) = _ by rw [e7]; exact hva) ?_
      rw [q_gi (show i < 3 by omega) (by omega), q_gg, q_gl, q_cl (by omega), L_upd, show nI i + 1 = nI (i + 1) from nI_1 i]
      exact e1
    · by_cases h : j = i
      · subst h
        rw [e3 j (by omega), uN_s]
      · exact e2 j (by omega) b
    · rw [e3 j (by omega), uN_n _ _ (by omega)]
theorem z_enr {w0 ev ch nd wt gv vs0 : Nat → Nat} {s c m pr le ec th ep : Nat} {t nm lm rs : Int32} {cd dt rc rd : Nat → Int32} {cm : Nat → Nat} (hs : s < 4) (hm : m < 8) (hth : th ≤ 8) (hch : ∀ j, j < th → ch j ≤ 24) (hgv : ∀ j, j < 3 → gv j = S_val ch vs0 th (3 * m + 1 + j) th 0 0) : ∀ k n i cnt (vs es w : Nat → Nat), i + k = wt m → wt m ≤ 3 → k < n → RSl w s c 1 th ep cm vs es → HW w pr wt → REv w le ec ev → FrS w0 w s → (∀ j, j < th → vs (ch j) = vs0 (ch j) ∧ es (ch j) ≠ 0 ∧ S_state th ep cm (vs (ch j)) (es (ch j)) (ch j) = 0) →
    ∃ cnt' vs2 es2 w2, F_X10_enroll_L33 (L wt) (nI th) (nI ep) (L cm) (nI s) (nI m) n (L ch) (nI le) (nI ec) (L ev) (L vs) (L es) rs rc rd (nI cnt) (nI i) = some (0, nI cnt', L ch, nI ((le + 1) % 20), nI (min (ec + 1) 20), L (evN le (500 + 10 * s + m) ev), L vs2, L es2, rs, rc, rd) ∧
      F_X11_enroll_L87 (nI s) (nI m) n t (L w) (L nd) nm cd dt lm (L gv) (nI cnt) (nI i) = some (nI cnt', nI 0, L w2, L nd, nm, cd, dt, lm, L gv) ∧ RSl w2 s c 1 th ep cm vs2 es2 ∧ REv w2 ((le + 1) % 20) (min (ec + 1) 20) (evN le (500 + 10 * s + m) ev) ∧ ∀ i, (i < 17 ∨ 37 < i) → (i < ix s 52 ∨ ix s 123 < i) → w2 i = w0 i := by
  intro k
  induction k with
  | zero =>
    intro n i cnt vs es w hi hw3 hn1 hR hH hE hF hcs
    obtain ⟨n, rfl⟩ := z_fuel hn1
    have hle : nI (wt m) ≤ nI i := nI_le (by omega) (by omega)
    obtain ⟨w2, k1, k2, k3⟩ := z_happens (code := 500 + 10 * s + m) hE
    have hno := z_note_ob (code := 500 + 10 * s + m) hE
    have e7 : nI 500 + nI 10 * nI s + nI m = nI (500 + 10 * s + m) := by rw [pk_mul, nI_add, nI_add]
    rw [← e7] at k1 hno
    refine ⟨cnt, vs, es, w2, ?_, ?_, hR.of (Nat.le_refl _) (fun i a b => k3 i (by simp only [ix] at *; omega)) (fun i a b => k3 i (by simp only [ix] at *; omega)), k2, fun i a b => by rw [k3 i a, hF i b]⟩
    · rw [F_X10_enroll_L33, q_gi (show m < 8 by omega) (by omega), q_gg, q_cl (by omega)]
      refine (if_pos (show L wt m ≤ nI i from hle)).trans ?_
      exact ob hno rfl
    · have e8 : (1 : Int32) + nI m = nI (1 + m) := nI_add 1 m
      have e9 : L w (1 + m) = nI (wt m) := by rw [L_app, (hH.2 m hm).2.1]
      rw [F_X11_enroll_L87, e8, q_gi (show 1 + m < 534 by omega) (by omega), q_gg, q_cl (by omega), e9]
      refine (if_pos hle).trans ?_
      exact ob k1 rfl
  | succ k ih =>
    intro n i cnt vs es w hi hw3 hn1 hR hH hE hF hcs
    obtain ⟨n, rfl⟩ := z_fuel (show 0 < n by omega)
    have hnle : ¬ nI (wt m) ≤ nI i := nI_ge (by omega) (by omega)
    have hp1 : 1 ≤ 3 * m + 1 + i := by omega
    have hp2 : 3 * m + 1 + i ≤ 24 := by omega
    have hRS := hR.2.2.2.2.2.2 rfl
    have ok := hRS.2.1
    have e7 : nI 3 * nI m + nI 1 + nI i = nI (3 * m + 1 + i) := by rw [pk_mul, nI_add, nI_add]
    have e7b : nI (3 * m + 1) + nI i = nI (3 * m + 1 + i) := nI_add _ _
    have e8 : (1 : Int32) + nI m = nI (1 + m) := nI_add 1 m
    have e9 : L w (1 + m) = nI (wt m) := by rw [L_app, (hH.2 m hm).2.1]
    have hg1 := ok.hg hp2
    have hg2 := hRS.good hs hp1 hp2
    have hv := z_valueThrough (nd := ch) (x := 3 * m + 1 + i) hp2 hth hch ok.2.2.2.1
    rw [S_val_congr (vs := vs) (vs' := vs0) (nd := ch) (nd' := ch) (3 * m + 1 + i) (fun _ _ => rfl) (fun j hj => (hcs j hj).1) th 0 0 (by omega), ← hgv i (by omega)] at hv
    have hgl : gv i < 1019 := by rw [hgv i (by omega)]; exact S_val_lt _ _ _ _ _ _ _ (by omega)
    cases hb : (decide (es (3 * m + 1 + i) ≠ 0) && decide (S_state th ep cm (vs (3 * m + 1 + i)) (es (3 * m + 1 + i)) (3 * m + 1 + i) = 0)) with
    | true =>
      rw [hb] at hg1 hg2
      obtain ⟨cnt', vs2, es2, w2, i1, i2, i3, i4, i5⟩ := ih n (i + 1) cnt vs es w (by omega) hw3 (by omega) hR hH hE hF hcs
      refine ⟨cnt', vs2, es2, w2, ?_, ?_, i3, i4, i5⟩
      · rw [F_X10_enroll_L33, q_gi (show m < 8 by omega) (by omega), q_gg, q_cl (by omega)]
        refine (if_neg (show ¬ L wt m ≤ nI i from hnle)).trans ?_
        refine ob (z_firstPlace m) ?_
        refine ob (show F_X7_holdsGood (nI th) (nI ep) (L cm) (L vs) (L es) (nI (3 * m + 1) + nI i) = _ by rw [e7b]; exact hg1) ?_
        refine (if_neg (show ¬ nI true.toNat = nI 0 by decide)).trans ?_
        unfold F_X10_enroll_L92
        rw [show nI i + 1 = nI (i + 1) from nI_1 i]
        exact i1
      · rw [F_X11_enroll_L87, e8, q_gi (show 1 + m < 534 by omega) (by omega), q_gg, q_cl (by omega), e9]
        refine (if_neg hnle).trans ?_
        rw [q_gl]
        refine ob (show F_X11_isGood (L w) (nI s) (nI 3 * nI m + nI 1 + nI i) = _ by rw [e7]; exact hg2) ?_
        refine (if_neg (show ¬ nI true.toNat = nI 0 by decide)).trans ?_
        unfold F_X11_enroll_L143
        rw [show nI i + 1 = nI (i + 1) from nI_1 i]
        exact i2
    | false =>
      rw [hb] at hg1 hg2
      have hep := hRS.2.2.2.1
      have hR2 := hR.upd (h := 1) (v := gv i) (e := ep) hp1 hp2 hgl ok.2.1 (by have : ep ≠ 0 := by omega
                                                                               simp [this])
      have hH2 : HW (shW w s (3 * m + 1 + i) 1 (gv i) ep) pr wt := hH.of (fun i a b => shW_n _ _ _ _ (by simp only [ix, shx]; omega))
      have hE2 : REv (shW w s (3 * m + 1 + i) 1 (gv i) ep) le ec ev := hE.of (fun i a b => shW_n _ _ _ _ (by simp only [ix, shx]; omega))
      have hne : ∀ j, j < th → ch j ≠ 3 * m + 1 + i := by
        intro j hj e
        have := hcs j hj
        rw [e] at this
        have h1 : (decide (es (3 * m + 1 + i) ≠ 0) && decide (S_state th ep cm (vs (3 * m + 1 + i)) (es (3 * m + 1 + i)) (3 * m + 1 + i) = 0)) = true := by
          rw [decide_eq_true this.2.1, decide_eq_true this.2.2]
          rfl
        rw [hb] at h1
        exact absurd h1 (by simp)
      obtain ⟨cnt', vs2, es2, w2, i1, i2, i3, i4, i5⟩ := ih n (i + 1) (cnt + 1) _ _ _ (by omega) hw3 (by omega) hR2 hH2 hE2 (hF.upd hp1 hp2) (fun j hj => by
        rw [uN_n _ _ (hne j hj), uN_n _ _ (hne j hj)]
        exact hcs j hj)
      refine ⟨cnt', vs2, es2, w2, ?_, ?_, i3, i4, i5⟩
      · rw [F_X10_enroll_L33, q_gi (show m < 8 by omega) (by omega), q_gg, q_cl (by omega)]
        refine (if_neg (show ¬ L wt m ≤ nI i from hnle)).trans ?_
        refine ob (z_firstPlace m) ?_
        refine ob (show F_X7_holdsGood (nI th) (nI ep) (L cm) (L vs) (L es) (nI (3 * m + 1) + nI i) = _ by rw [e7b]; exact hg1) ?_
        refine (if_pos (show nI false.toNat = nI 0 from rfl)).trans ?_
        refine ob (show F_X7_valueThrough (nI th) (L vs) (L ch) (nI (3 * m + 1) + nI i) = _ by rw [e7b]; exact hv) ?_
        refine ob (show F_X7_give (L vs) (L es) (nI (3 * m + 1) + nI i) (nI (gv i)) (nI ep) = _ by rw [e7b]; exact z_give (by omega)) ?_
        unfold F_X10_enroll_L92
        rw [show nI i + 1 = nI (i + 1) from nI_1 i, show nI cnt + 1 = nI (cnt + 1) from nI_1 cnt]
        exact i1
      · rw [F_X11_enroll_L87, e8, q_gi (show 1 + m < 534 by omega) (by omega), q_gg, q_cl (by omega), e9]
        refine (if_neg hnle).trans ?_
        rw [q_gl]
        refine ob (show F_X11_isGood (L w) (nI s) (nI 3 * nI m + nI 1 + nI i) = _ by rw [e7]; exact hg2) ?_
        refine (if_pos (show nI false.toNat = nI 0 from rfl)).trans ?_
        rw [q_gi (show i < 3 by omega) (by omega), q_gg]
        refine ob (hRS.ep hs) ?_
        rw [q_cl (show i < 2 ^ 31 by omega)]
        refine ob (show F_X11_setsShare (L w) (nI s) (nI 3 * nI m + nI 1 + nI i) (nI (gv i)) (nI ep) = _ by rw [e7]; exact z_setsShare hs hp1 hp2) ?_
        unfold F_X11_enroll_L143
        rw [show nI i + 1 = nI (i + 1) from nI_1 i, show nI cnt + 1 = nI (cnt + 1) from nI_1 cnt]
        exact i2
