/-! PURE: the methods on a slot, second half -/
theorem z_count_L {w : Nat → Nat} {s th ep x : Nat} {cm vs es : Nat → Nat} (hs : s < 4) (hR : RS w s th ep cm vs es) (hx : x < 3) : ∀ k n p acc, p + k = 25 → 1 ≤ p → k < n → F_X11_count_L5 (L w) (nI s) (nI x) n (nI acc) (nI p) = some (nI (acc + cntP (fun p => decide (es p ≠ 0) && decide (S_state th ep cm (vs p) (es p) p = x)) p k)) := by
  intro k
  induction k with
  | zero =>
    intro n p acc hp h1 hn
    obtain ⟨n, rfl⟩ := z_fuel hn
    have h0 : 24 < p := by omega
    rw [F_X11_count_L5]
    simp (disch := omega) only [q_lit, q_ltI, h0, if_true]
    rfl
  | succ k ih =>
    intro n p acc hp h1 hn
    obtain ⟨n, rfl⟩ := z_fuel (show 0 < n by omega)
    have h0 : ¬ 24 < p := by omega
    have h24 : p ≤ 24 := by omega
    have hst := @S_state_lt cm th ep (vs p) (es p) p
    have hm : ¬ nI x = -nI 1 := by
      have : x = 0 ∨ x = 1 ∨ x = 2 := by omega
      rcases this with rfl | rfl | rfl <;> decide
    rw [F_X11_count_L5]
    unfold F_X11_count_L39 F_X11_count_L43 F_X11_count_L44
    simp (disch := omega) only [q_lit, q_ltI, h0, if_false, hR.1.has hs h1 h24, hR.st hs h1 h24, Option.bind_some, q_b0, hm, q_eqI, nI_add]
    rw [ih n (p + 1) (acc + 0) (by omega) (by omega) (by omega), ih n (p + 1) (acc + 1) (by omega) (by omega) (by omega), cntP_s]
    by_cases h2 : es p = 0
    · simp [h2]
    · by_cases h3 : S_state th ep cm (vs p) (es p) p = x
      · simp [h2, h3, Nat.add_assoc]
      · simp [h2, h3]
theorem z_count {w : Nat → Nat} {s th ep x : Nat} {cm vs es : Nat → Nat} (hs : s < 4) (hR : RS w s th ep cm vs es) (hx : x < 3) : F_X11_count (L w) (nI s) (nI x) = some (nI (cntP (fun p => decide (es p ≠ 0) && decide (S_state th ep cm (vs p) (es p) p = x)) 1 24)) := by
  unfold F_X11_count
  simp only [q_lit]
  rw [z_count_L hs hR hx 24 1000 1 0 (by omega) (by omega) (by omega), Nat.zero_add]
theorem z_countA_L {w : Nat → Nat} {s : Nat} {vs es : Nat → Nat} (hs : s < 4) (hR : RSh w s vs es) : ∀ k n p acc, p + k = 25 → 1 ≤ p → k < n → F_X11_count_L5 (L w) (nI s) (-nI 1) n (nI acc) (nI p) = some (nI (acc + cntP (fun p => decide (es p ≠ 0)) p k)) := by
  intro k
  induction k with
  | zero =>
    intro n p acc hp h1 hn
    obtain ⟨n, rfl⟩ := z_fuel hn
    have h0 : 24 < p := by omega
    rw [F_X11_count_L5]
    simp (disch := omega) only [q_lit, q_ltI, h0, if_true]
    rfl
  | succ k ih =>
    intro n p acc hp h1 hn
    obtain ⟨n, rfl⟩ := z_fuel (show 0 < n by omega)
    have h0 : ¬ 24 < p := by omega
    have h24 : p ≤ 24 := by omega
    rw [F_X11_count_L5]
    unfold F_X11_count_L39 F_X11_count_L43 F_X11_count_L44
    simp (disch := omega) only [q_lit, q_ltI, h0, if_false, hR.has hs h1 h24, Option.bind_some, q_b0, if_true, nI_add]
    rw [ih n (p + 1) (acc + 0) (by omega) (by omega) (by omega), ih n (p + 1) (acc + 1) (by omega) (by omega) (by omega), cntP_s]
    by_cases h2 : es p = 0
    · simp [h2]
    · simp [h2, Nat.add_assoc]
theorem z_countA {w : Nat → Nat} {s : Nat} {vs es : Nat → Nat} (hs : s < 4) (hR : RSh w s vs es) : F_X11_count (L w) (nI s) (-nI 1) = some (nI (cntP (fun p => decide (es p ≠ 0)) 1 24)) := by
  unfold F_X11_count
  simp only [q_lit]
  rw [z_countA_L hs hR 24 1000 1 0 (by omega) (by omega) (by omega), Nat.zero_add]
theorem q_tb255 : ∀ m, m < 8 → (255 : Nat).testBit m = true := by decide
theorem cnt255 (P : Nat → Bool) : cntP (fun p => (255 : Nat).testBit ((p - 1) / 3) && P p) 1 24 = cntP P 1 24 := cntP_congr 24 1 (fun i h1 h2 => by rw [q_tb255 _ (by omega), Bool.true_and])
theorem m_secret {w cm vs es : Nat → Nat} {s c fi th ep : Nat} {t x : Int32} {rule : Option Nat} (hs : s < 4) (hR : RSl w s c fi th ep cm vs es) (hP : fi = 1 → w (ix s 11) ≤ 40 ∧ (rule = none ↔ w (ix s 11) = 0)) (hS1 : F_X10_checkSlot (nI s) = some 0) (hS2 : F_X11_isSlot (nI s) = some (nI 1)) :
    ∃ e r b k, F_X10_secret (nI fi) (nI th) (nI ep) rule (L cm) (L vs) (L es) (nI s) x = some (e, r) ∧ F_X11_secret t (L w) (nI s) x = some (b, k) ∧ EK [(0, 0), (1, 1), (2, 2), (3, 3)] e k ∧ (e = 0 → r = b) := by
  have hf := hR.1
  have hsi := z_secretIn hs hf
  unfold F_X10_secret F_X10_secret_L113 F_X11_secret F_X11_secret_L116
  rcases a_what x 6 (by omega) with ⟨v, hv, rfl, h1, h2⟩ | ⟨h1, h2⟩
  · have hcase : fi = 0 ∨ fi = 1 := by omega
    rcases hcase with rfl | rfl
    · refine ⟨3, 0, 0, nI 3, ?_, ?_, EK.of (by simp), fun h => by omega⟩
      · simp only [q_lit, hS1, h1, hsi, Option.bind_some, if_true]
        rfl
      · simp (disch := omega) only [q_lit, hS2, h2, hR.has hs, Option.bind_some, q_eqI, z_fails]
        rfl
    · have hRS := hR.2.2.2.2.2.2 rfl
      have hp := hP rfl
      have ok := hRS.2.1
      have a1 := z_shareCount (es := es) (m := 255) (by omega) ok.2.2.2.2
      have a2 := fun y (hy : y < 3) => z_shareCount_ (x := y) (m := 255) ok (by omega) hy
      simp only [cnt255] at a1 a2
      have b1 := z_countA hs hRS.1
      have b2 := fun y (hy : y < 3) => z_count (x := y) hs hRS hy
      have hpol : F_X11_hasPolicy (L w) (nI s) = some (nI (decide (0 < w (ix s 11))).toNat) := by
        unfold F_X11_hasPolicy F_X11_hasPolicy_L15
        simp (disch := omega) only [q_lit, z_of, Option.bind_some, q_leI, q_nar0, q_nar1, q_gg]
        by_cases h0 : w (ix s 11) ≤ 0
        · have : ¬ 0 < w (ix s 11) := by omega
          simp [h0, this]
        · have : 0 < w (ix s 11) := by omega
          simp [h0, this]
      have hv6 : v = 0 ∨ v = 1 ∨ v = 2 ∨ v = 3 ∨ v = 4 ∨ v = 5 ∨ v = 6 := by omega
      rcases hv6 with rfl | rfl | rfl | rfl | rfl | rfl | rfl
      · refine ⟨0, nI th, nI th, nI 0, ?_, ?_, EK.of (by simp), fun _ => rfl⟩
        · simp only [q_lit, hS1, h1, hsi, Option.bind_some, if_true]
          rfl
        · simp (disch := omega) only [q_lit, hS2, h2, hR.has hs, hRS.k hs, Option.bind_some, q_eqI, z_done]
          rfl
      · refine ⟨0, nI ep, nI ep, nI 0, ?_, ?_, EK.of (by simp), fun _ => rfl⟩
        · simp only [q_lit, hS1, h1, hsi, Option.bind_some, if_true]
          rfl
        · simp (disch := omega) only [q_lit, hS2, h2, hR.has hs, hRS.ep hs, Option.bind_some, q_eqI, z_done]
          rfl
      · refine ⟨0, nI (cntP (fun p => decide (es p ≠ 0)) 1 24), nI (cntP (fun p => decide (es p ≠ 0)) 1 24), nI 0, ?_, ?_, EK.of (by simp), fun _ => rfl⟩
        · simp (disch := omega) only [q_lit, hS1, h1, hsi, Option.bind_some, if_true, a1, q_eqI]
          rfl
        · have : nI 2 - nI 3 = -nI 1 := by decide
          simp (disch := omega) only [q_lit, hS2, h2, hR.has hs, Option.bind_some, q_eqI, this, b1, z_done]
          rfl
      · refine ⟨0, nI (cntP (fun p => decide (es p ≠ 0) && decide (S_state th ep cm (vs p) (es p) p = 0)) 1 24), nI (cntP (fun p => decide (es p ≠ 0) && decide (S_state th ep cm (vs p) (es p) p = 0)) 1 24), nI 0, ?_, ?_, EK.of (by simp), fun _ => rfl⟩
        · rw [hS1]
          show (F_X10_checkWhat (nI 3) (nI 6)).bind _ = _
          rw [h1]
          show (F_X10_secretIn (nI 1) (nI s)).bind _ = _
          rw [hsi]
          simp only [Option.bind_some]
          rw [if_pos (show (if (1 : Nat) = 0 then 3 else 0) = 0 from rfl)]
          rw [if_neg (show ¬ nI 3 = 0 by decide)]
          rw [if_neg (show ¬ nI 3 = 1 by decide)]
          rw [if_neg (show ¬ nI 3 = 2 by decide)]
          rw [if_pos (show nI 3 = 3 from rfl)]
          have := a2 0 (by omega)
          rw [show (255 : Int32) = nI 255 from rfl, show (0 : Int32) = nI 0 from rfl, this]
          rfl
        · have : nI 3 - nI 3 = nI 0 := by decide
          simp (disch := omega) only [q_lit, hS2, h2, hR.has hs, Option.bind_some, q_eqI, this, b2 0 (by omega), z_done]
          rfl
      · refine ⟨0, nI (cntP (fun p => decide (es p ≠ 0) && decide (S_state th ep cm (vs p) (es p) p = 1)) 1 24), nI (cntP (fun p => decide (es p ≠ 0) && decide (S_state th ep cm (vs p) (es p) p = 1)) 1 24), nI 0, ?_, ?_, EK.of (by simp), fun _ => rfl⟩
        · rw [hS1]
          show (F_X10_checkWhat (nI 4) (nI 6)).bind _ = _
          rw [h1]
          show (F_X10_secretIn (nI 1) (nI s)).bind _ = _
          rw [hsi]
          simp only [Option.bind_some]
          rw [if_pos (show (if (1 : Nat) = 0 then 3 else 0) = 0 from rfl)]
          rw [if_neg (show ¬ nI 4 = 0 by decide)]
          rw [if_neg (show ¬ nI 4 = 1 by decide)]
          rw [if_neg (show ¬ nI 4 = 2 by decide)]
          rw [if_neg (show ¬ nI 4 = 3 by decide)]
          rw [if_pos (show nI 4 = 4 from rfl)]
          have := a2 1 (by omega)
          rw [show (255 : Int32) = nI 255 from rfl, show (1 : Int32) = nI 1 from rfl, this]
          rfl
        · have : nI 4 - nI 3 = nI 1 := by decide
          simp (disch := omega) only [q_lit, hS2, h2, hR.has hs, Option.bind_some, q_eqI, this, b2 1 (by omega), z_done]
          rfl
      · refine ⟨0, nI (cntP (fun p => decide (es p ≠ 0) && decide (S_state th ep cm (vs p) (es p) p = 2)) 1 24), nI (cntP (fun p => decide (es p ≠ 0) && decide (S_state th ep cm (vs p) (es p) p = 2)) 1 24), nI 0, ?_, ?_, EK.of (by simp), fun _ => rfl⟩
        · rw [hS1]
          show (F_X10_checkWhat (nI 5) (nI 6)).bind _ = _
          rw [h1]
          show (F_X10_secretIn (nI 1) (nI s)).bind _ = _
          rw [hsi]
          simp only [Option.bind_some]
          rw [if_pos (show (if (1 : Nat) = 0 then 3 else 0) = 0 from rfl)]
          rw [if_neg (show ¬ nI 5 = 0 by decide)]
          rw [if_neg (show ¬ nI 5 = 1 by decide)]
          rw [if_neg (show ¬ nI 5 = 2 by decide)]
          rw [if_neg (show ¬ nI 5 = 3 by decide)]
          rw [if_neg (show ¬ nI 5 = 4 by decide)]
          rw [if_pos (show nI 5 = 5 from rfl)]
          have := a2 2 (by omega)
          rw [show (255 : Int32) = nI 255 from rfl, show (2 : Int32) = nI 2 from rfl, this]
          rfl
        · have : nI 5 - nI 3 = nI 2 := by decide
          simp (disch := omega) only [q_lit, hS2, h2, hR.has hs, Option.bind_some, q_eqI, this, b2 2 (by omega), z_done]
          rfl
      · by_cases hr : rule = none
        · have h0 := hp.2.mp hr
          refine ⟨0, nI 0, nI 0, nI 0, ?_, ?_, EK.of (by simp), fun _ => rfl⟩
          · rw [hS1]
            show (F_X10_checkWhat (nI 6) (nI 6)).bind _ = _
            rw [h1]
            show (F_X10_secretIn (nI 1) (nI s)).bind _ = _
            rw [hsi]
            simp only [Option.bind_some]
            rw [if_pos (show (if (1 : Nat) = 0 then 3 else 0) = 0 from rfl)]
            rw [if_neg (show ¬ nI 6 = 0 by decide)]
            rw [if_neg (show ¬ nI 6 = 1 by decide)]
            rw [if_neg (show ¬ nI 6 = 2 by decide)]
            rw [if_neg (show ¬ nI 6 = 3 by decide)]
            rw [if_neg (show ¬ nI 6 = 4 by decide)]
            rw [if_neg (show ¬ nI 6 = 5 by decide)]
            rw [if_pos hr]
            rfl
          · simp (disch := omega) only [q_lit, hS2, h2, hR.has hs, Option.bind_some, q_eqI, hpol, h0, z_done]
            rfl
        · have h0 : ¬ w (ix s 11) = 0 := fun h => hr (hp.2.mpr h)
          have h00 : 0 < w (ix s 11) := by omega
          refine ⟨0, nI 1, nI 1, nI 0, ?_, ?_, EK.of (by simp), fun _ => rfl⟩
          · rw [hS1]
            show (F_X10_checkWhat (nI 6) (nI 6)).bind _ = _
            rw [h1]
            show (F_X10_secretIn (nI 1) (nI s)).bind _ = _
            rw [hsi]
            simp only [Option.bind_some]
            rw [if_pos (show (if (1 : Nat) = 0 then 3 else 0) = 0 from rfl)]
            rw [if_neg (show ¬ nI 6 = 0 by decide)]
            rw [if_neg (show ¬ nI 6 = 1 by decide)]
            rw [if_neg (show ¬ nI 6 = 2 by decide)]
            rw [if_neg (show ¬ nI 6 = 3 by decide)]
            rw [if_neg (show ¬ nI 6 = 4 by decide)]
            rw [if_neg (show ¬ nI 6 = 5 by decide)]
            rw [if_neg hr]
            rfl
          · simp (disch := omega) only [q_lit, hS2, h2, hR.has hs, Option.bind_some, q_eqI, hpol, h00, z_done]
            rfl
  · refine ⟨2, 0, 0, nI 2, ?_, ?_, EK.of (by simp), fun h => by omega⟩
    · simp only [q_lit, hS1, h1, Option.bind_some, if_true]
      rfl
    · simp (disch := omega) only [q_lit, hS2, h2, Option.bind_some, q_eqI, z_fails]
      rfl
theorem m_commitment {w cm vs es : Nat → Nat} {s c fi th ep : Nat} {t x : Int32} (hs : s < 4) (hR : RSl w s c fi th ep cm vs es) (hS1 : F_X10_checkSlot (nI s) = some 0) (hS2 : F_X11_isSlot (nI s) = some (nI 1)) :
    ∃ e r b k, F_X10_commitment (nI fi) (nI th) (L cm) (nI s) x = some (e, r) ∧ F_X11_commitment t (L w) (nI s) x = some (b, k) ∧ EK [(0, 0), (1, 1), (3, 2)] e k ∧ (e = 0 → r = b) := by
  have hf := hR.1
  have hsi := z_secretIn hs hf
  have hl := hR.lacks hs hS2
  unfold F_X10_commitment F_X10_commitment_L22 F_X11_commitment F_X11_commitment_L52
  have hcase : fi = 0 ∨ fi = 1 := by omega
  rcases hcase with rfl | rfl
  · refine ⟨3, 0, 0, nI 2, ?_, ?_, EK.of (by simp), fun h => by omega⟩
    · simp only [hS1, hsi, Option.bind_some, if_true]
      rfl
    · simp only [hl, Option.bind_some, if_true, q_lit]
      simp (disch := omega) only [q_eqI, z_fails, Option.bind_some]
      rfl
  · have hRS := hR.2.2.2.2.2.2 rfl
    have h8 := hRS.2.1.1
    have h1 := hRS.2.2.1
    have hsub : nI th - nI 1 = nI (th - 1) := pk_sub h1
    rcases z_arg x th (by omega) (by omega) with ⟨j, hj, rfl⟩ | ⟨g1, g2⟩
    · have hin := z_inok (j := j) (a := 0) (b := th - 1) (by omega) (by omega) (by omega)
      have hj0 : ¬ j < 0 := by omega
      refine ⟨0, nI (cm j), nI (cm j), nI 0, ?_, ?_, EK.of (by simp), fun _ => rfl⟩
      · simp only [hS1, hsi, Option.bind_some, if_true]
        show (if (0 : Nat) = 0 then _ else _) = _
        rw [if_pos rfl]
        simp (disch := omega) only [q_lit, q_ltI, hj0, if_false, hj, if_true, q_gi, q_gg, q_cl, L_app]
      · simp only [hl, Option.bind_some, q_lit]
        show (if nI 0 = nI 0 then _ else _) = _
        rw [if_pos rfl, hRS.k hs]
        simp (disch := omega) only [Option.bind_some, q_lit, hsub, hin, q_eqI, nI_add, z_of, z_done, hRS.2.2.2.2.2.2 j hj]
        rfl
    · refine ⟨3, 0, 0, nI 2, ?_, ?_, EK.of (by simp), fun h => by omega⟩
      · simp only [hS1, hsi, Option.bind_some, if_true]
        show (if (0 : Nat) = 0 then _ else _) = _
        rw [if_pos rfl]
        rcases g2 with g2 | g2
        · rw [if_pos g2]
        · rw [if_neg g2.1, if_neg (z_lt (by omega) g2)]
      · simp only [hl, Option.bind_some, q_lit]
        show (if nI 0 = nI 0 then _ else _) = _
        rw [if_pos rfl, hRS.k hs]
        simp (disch := omega) only [Option.bind_some, q_lit, hsub, g1, if_true, z_fails]
/-! a share -/
theorem z_swS {es : Nat → Nat} {fi s p : Nat} (hs : s < 4) (hf : fi ≤ 1) (hp : p ≤ 24) (he : es p < 10000) (h0 : fi = 0 → es p = 0) : F_X10_secretWithShare (nI fi) (L es) (nI s) (nI p) = some (if es p = 0 then 3 else 0) := by
  unfold F_X10_secretWithShare
  rw [z_secretIn hs hf, z_holds (by omega) (by omega)]
  by_cases h1 : fi = 0
  · simp [h1, h0 h1]
  · have : fi = 1 := by omega
    by_cases h2 : es p = 0
    · simp [this, h2, q_lit, q_b0]
    · have h3 : ¬ nI 1 = nI 0 := by decide
      simp [this, h2, q_lit, h3]
theorem m_share {w cm vs es : Nat → Nat} {s c fi th ep : Nat} {t x y : Int32} (hs : s < 4) (hR : RSl w s c fi th ep cm vs es) (hS1 : F_X10_checkSlot (nI s) = some 0) (hS2 : F_X11_isSlot (nI s) = some (nI 1)) :
    ∃ e r b k, F_X10_share (nI fi) (nI th) (nI ep) (L cm) (L vs) (L es) (nI s) x y = some (e, r) ∧ F_X11_share t (L w) (nI s) x y = some (b, k) ∧ EK [(0, 0), (1, 1), (2, 2), (3, 3)] e k ∧ (e = 0 → r = b) := by
  have hf := hR.1
  unfold F_X10_share F_X10_share_L54 F_X11_share F_X11_share_L14 F_X11_share_L74
  rcases a_place x with ⟨p, hp, hp2, rfl, h1, h2⟩ | ⟨h1, h2⟩
  · rcases a_what y 2 (by omega) with ⟨v, hv, rfl, h3, h4⟩ | ⟨h3, h4⟩
    · have hsw := z_swS (fi := fi) hs hf hp2 (hR.2.2.2.1.2.2.2.2 p hp2) (fun h => hR.2.2.2.2.2.1 h p hp hp2)
      have hhs := hR.2.2.1.has hs hp hp2
      by_cases h0 : es p = 0
      · refine ⟨3, 0, 0, nI 3, ?_, ?_, EK.of (by simp), fun h => by omega⟩
        · simp only [q_lit, hS1, h1, h3, hsw, h0, Option.bind_some, if_true]
          rfl
        · simp (disch := omega) only [q_lit, hS2, h2, h4, hhs, h0, Option.bind_some, q_eqI, z_fails]
          rfl
      · have hfi : fi = 1 := by
          have : ¬ fi = 0 := fun h => h0 (hR.2.2.2.2.2.1 h p hp hp2)
          omega
        subst hfi
        have hRS := hR.2.2.2.2.2.2 rfl
        have hok := hRS.2.1
        rw [if_neg h0] at hsw
        have hn1 : ¬ nI 1 = nI 0 := by decide
        have hv2 : v = 0 ∨ v = 1 ∨ v = 2 := by omega
        have hhs' : F_X11_hasShare (L w) (nI s) (nI p) = some (nI 1) := by rw [hhs]; simp [h0]
        rcases hv2 with rfl | rfl | rfl
        · refine ⟨0, nI (vs p), nI (vs p), nI 0, ?_, ?_, EK.of (by simp), fun _ => rfl⟩
          · simp (disch := omega) only [q_lit, hS1, h1, h3, hsw, Option.bind_some, if_true, q_gi, q_gg, q_cl, L_app]
          · simp (disch := omega) only [q_lit, hS2, h2, h4, hhs', hn1, Option.bind_some, q_eqI, if_false, nI_add, hRS.1.v hs hp hp2, z_done]
            rfl
        · refine ⟨0, nI (es p), nI (es p), nI 0, ?_, ?_, EK.of (by simp), fun _ => rfl⟩
          · simp (disch := omega) only [q_lit, hS1, h1, h3, hsw, Option.bind_some, if_true, q_gi, q_gg, q_cl, L_app, q_eqI]
            rfl
          · simp (disch := omega) only [q_lit, hS2, h2, h4, hhs', hn1, Option.bind_some, q_eqI, if_false, nI_add, hRS.1.e hs hp hp2, z_done]
            rfl
        · refine ⟨0, nI (S_state th ep cm (vs p) (es p) p), nI (S_state th ep cm (vs p) (es p) p), nI 0, ?_, ?_, EK.of (by simp), fun _ => rfl⟩
          · simp (disch := omega) only [q_lit, hS1, h1, h3, hsw, Option.bind_some, if_true, hok.st hp2, q_eqI]
            rfl
          · simp (disch := omega) only [q_lit, hS2, h2, h4, hhs', hn1, Option.bind_some, q_eqI, if_false, if_true, hRS.st hs hp hp2, z_done]
    · refine ⟨2, 0, 0, nI 2, ?_, ?_, EK.of (by simp), fun h => by omega⟩
      · simp only [q_lit, hS1, h1, h3, Option.bind_some, if_true]
        rfl
      · simp (disch := omega) only [q_lit, hS2, h2, h4, Option.bind_some, q_eqI, z_fails]
        rfl
  · refine ⟨1, 0, 0, nI 1, ?_, ?_, EK.of (by simp), fun h => by omega⟩
    · simp only [q_lit, hS1, h1, Option.bind_some, if_true]
      rfl
    · simp (disch := omega) only [q_lit, hS2, h2, Option.bind_some, q_eqI, z_fails]
      rfl
theorem m_setShare {w cm vs es : Nat → Nat} {s c fi th ep : Nat} {t x y : Int32} (hs : s < 4) (hR : RSl w s c fi th ep cm vs es) (hS1 : F_X10_checkSlot (nI s) = some 0) (hS2 : F_X11_isSlot (nI s) = some (nI 1)) :
    ∃ e r b k vs' w', F_X10_setShare (nI fi) (L vs) (L es) (nI s) x y = some (e, r, L vs') ∧ F_X11_setShare t (L w) (nI s) x y = some (b, k, L w') ∧ EK [(0, 0), (1, 1), (2, 2), (3, 3)] e k ∧ (e = 0 → r = b) ∧ RSl w' s (c + 1) fi th ep cm vs' es ∧ (∀ i, i < 38 → w' i = w i) ∧ Ag w w' (ix s 11) (ix s 51) ∧ Fr w w' s := by
  have hf := hR.1
  have hsame := hR.of (c' := c + 1) (by omega) (fun _ _ _ => rfl) (fun _ _ _ => rfl)
  unfold F_X10_setShare F_X11_setShare F_X11_setShare_L14
  rcases a_place x with ⟨p, hp, hp2, rfl, h1, h2⟩ | ⟨h1, h2⟩
  · rcases a_value y with ⟨v, hv, rfl, h3, h4⟩ | ⟨h3, h4⟩
    · have hsw := z_swS (fi := fi) hs hf hp2 (hR.2.2.2.1.2.2.2.2 p hp2) (fun h => hR.2.2.2.2.2.1 h p hp hp2)
      have hhs := hR.2.2.1.has hs hp hp2
      by_cases h0 : es p = 0
      · refine ⟨3, 0, 0, nI 3, vs, w, ?_, ?_, EK.of (by simp), fun h => by omega, hsame, fun _ _ => rfl, fun _ _ _ => rfl, fun _ _ _ => rfl⟩
        · simp only [q_lit, hS1, h1, h3, hsw, h0, Option.bind_some, if_true]
          rfl
        · simp (disch := omega) only [q_lit, hS2, h2, h4, hhs, h0, Option.bind_some, q_eqI, z_fails]
          rfl
      · have hfi : fi = 1 := by
          have : ¬ fi = 0 := fun h => h0 (hR.2.2.2.2.2.1 h p hp hp2)
          omega
        subst hfi
        have hRS := hR.2.2.2.2.2.2 rfl
        obtain ⟨k1, k2, k3, k4, k5⟩ := hRS.2.1
        rw [if_neg h0] at hsw
        have hn1 : ¬ nI 1 = nI 0 := by decide
        have hhs' : F_X11_hasShare (L w) (nI s) (nI p) = some (nI 1) := by rw [hhs]; simp [h0]
        have hsh : RSh (shW w s p 1 v (es p)) s (updN vs p v) es := by
          intro q a b
          by_cases hq : q = p
          · subst hq
            rw [shW_0, shW_1, shW_2, uN_s]
            simp [h0]
          · obtain ⟨g1, g2, g3⟩ := hRS.1 q a b
            rw [shW_n _ _ _ _ (by simp only [ix, shx]; omega), shW_n _ _ _ _ (by simp only [ix, shx]; omega), shW_n _ _ _ _ (by simp only [ix, shx]; omega), uN_n _ _ hq]
            exact ⟨g1, g2, g3⟩
        have hok : okS th ep cm (updN vs p v) es := by
          refine ⟨k1, k2, k3, fun q hq => ?_, k5⟩
          by_cases e : q = p
          · rw [e, uN_s]; exact hv
          · rw [uN_n _ _ e]; exact k4 q hq
        refine ⟨0, nI (vs p), nI (vs p), nI 0, updN vs p v, shW w s p 1 v (es p), ?_, ?_, EK.of (by simp), fun _ => rfl, ?_, fun i hi => shW_n _ _ _ _ (by simp only [ix, shx]; omega), fun i a b => shW_n _ _ _ _ (by simp only [ix, shx] at *; omega), fun i a b => shW_n _ _ _ _ (by simp only [ix, shx] at *; omega)⟩
        · simp (disch := omega) only [q_lit, hS1, h1, h3, hsw, Option.bind_some, if_true, q_gi, q_gg, q_gl, q_cl, L_app, L_upd]
        · simp (disch := omega) only [q_lit, hS2, h2, h4, hhs', hn1, Option.bind_some, q_eqI, if_false, hRS.1.v hs hp hp2, hRS.1.e hs hp hp2, z_setsShare hs hp hp2, z_done]
        · refine ⟨Nat.le_refl 1, ?_, hsh, hok, by have := hR.2.2.2.2.1; omega, fun h => by omega, fun _ => ⟨hsh, hok, hRS.2.2.1, hRS.2.2.2.1, ?_, ?_, fun j hj => ?_⟩⟩
          · rw [shW_n _ _ _ _ (by simp only [ix, shx]; omega)]; exact hR.2.1
          · rw [shW_n _ _ _ _ (by simp only [ix, shx]; omega)]; exact hRS.2.2.2.2.1
          · rw [shW_n _ _ _ _ (by simp only [ix, shx]; omega)]; exact hRS.2.2.2.2.2.1
          · rw [shW_n _ _ _ _ (by simp only [ix, shx]; omega)]; exact hRS.2.2.2.2.2.2 j hj
    · refine ⟨2, 0, 0, nI 2, vs, w, ?_, ?_, EK.of (by simp), fun h => by omega, hsame, fun _ _ => rfl, fun _ _ _ => rfl, fun _ _ _ => rfl⟩
      · simp only [q_lit, hS1, h1, h3, Option.bind_some, if_true]
        rfl
      · simp (disch := omega) only [q_lit, hS2, h2, h4, Option.bind_some, q_eqI, z_fails]
        rfl
  · refine ⟨1, 0, 0, nI 1, vs, w, ?_, ?_, EK.of (by simp), fun h => by omega, hsame, fun _ _ => rfl, fun _ _ _ => rfl, fun _ _ _ => rfl⟩
    · simp only [q_lit, hS1, h1, Option.bind_some, if_true]
      rfl
    · simp (disch := omega) only [q_lit, hS2, h2, Option.bind_some, q_eqI, z_fails]
      rfl
/-! bad -/
theorem z_bad_L {w : Nat → Nat} {s th ep : Nat} {cm vs es : Nat → Nat} {t x : Int32} (hs : s < 4) (hR : RS w s th ep cm vs es) : ∀ k n p acc, p + k = 25 → 1 ≤ p → k < n → ∃ e r b kk, F_X10_bad_L16 (nI th) (nI ep) (L cm) (L vs) (L es) x n (nI acc) (nI p) = some (e, r) ∧ F_X11_bad_L22 (L w) (nI s) x n t (nI acc) (nI p) = some (b, kk) ∧ EK [(0, 0), (3, 2)] e kk ∧ (e = 0 → r = b) := by
  intro k
  induction k with
  | zero =>
    intro n p acc hp h1 hn
    obtain ⟨n, rfl⟩ := z_fuel hn
    have h0 : 24 < p := by omega
    refine ⟨3, 0, 0, nI 2, ?_, ?_, EK.of (by simp), fun h => by omega⟩
    · rw [F_X10_bad_L16]
      simp (disch := omega) only [q_lit, q_ltI, h0, if_true]
    · rw [F_X11_bad_L22]
      simp (disch := omega) only [q_lit, q_ltI, h0, if_true, z_fails, Option.bind_some]
  | succ k ih =>
    intro n p acc hp h1 hn
    obtain ⟨n, rfl⟩ := z_fuel (show 0 < n by omega)
    have h0 : ¬ 24 < p := by omega
    have h24 : p ≤ 24 := by omega
    have he := hR.2.1.2.2.2.2 p h24
    have hst := @S_state_lt cm th ep (vs p) (es p) p
    rw [F_X10_bad_L16, F_X11_bad_L22]
    unfold F_X10_bad_L53 F_X11_bad_L65
    simp (disch := omega) only [q_lit, q_ltI, h0, if_false, z_holds, hR.2.1.st h24, hR.1.has hs h1 h24, hR.st hs h1 h24, Option.bind_some, q_b0, q_eqI, nI_add]
    obtain ⟨e1, r1, b1, k1, i1⟩ := ih n (p + 1) acc (by omega) (by omega) (by omega)
    obtain ⟨e2, r2, b2, k2, i2⟩ := ih n (p + 1) (acc + 1) (by omega) (by omega) (by omega)
    by_cases h2 : decide (es p ≠ 0) = false
    · simp only [h2, if_true]
      exact ⟨e1, r1, b1, k1, i1⟩
    · simp only [h2, if_false]
      by_cases h3 : S_state th ep cm (vs p) (es p) p = 0
      · simp only [h3, if_true]
        exact ⟨e1, r1, b1, k1, i1⟩
      · simp only [h3, if_false]
        by_cases h4 : nI acc = x
        · simp only [h4, if_true, z_done, Option.bind_some]
          exact ⟨0, nI p, nI p, nI 0, rfl, rfl, EK.of (by simp), fun _ => rfl⟩
        · simp only [h4, if_false]
          exact ⟨e2, r2, b2, k2, i2⟩
theorem m_bad {w cm vs es : Nat → Nat} {s c fi th ep : Nat} {t x : Int32} (hs : s < 4) (hR : RSl w s c fi th ep cm vs es) (hS1 : F_X10_checkSlot (nI s) = some 0) (hS2 : F_X11_isSlot (nI s) = some (nI 1)) :
    ∃ e r b k, F_X10_bad (nI fi) (nI th) (nI ep) (L cm) (L vs) (L es) (nI s) x = some (e, r) ∧ F_X11_bad t (L w) (nI s) x = some (b, k) ∧ EK [(0, 0), (1, 1), (3, 2)] e k ∧ (e = 0 → r = b) := by
  have hf := hR.1
  have hsi := z_secretIn hs hf
  have hl := hR.lacks hs hS2
  unfold F_X10_bad F_X11_bad
  have hcase : fi = 0 ∨ fi = 1 := by omega
  rcases hcase with rfl | rfl
  · refine ⟨3, 0, 0, nI 2, ?_, ?_, EK.of (by simp), fun h => by omega⟩
    · simp only [hS1, hsi, Option.bind_some, if_true]
      rfl
    · simp only [hl, Option.bind_some, if_true, q_lit]
      simp (disch := omega) only [q_eqI, z_fails, Option.bind_some]
      rfl
  · have hRS := hR.2.2.2.2.2.2 rfl
    obtain ⟨e, r, b, k, i1, i2, i3, i4⟩ := z_bad_L (t := t) (x := x) hs hRS 24 1000 1 0 (by omega) (by omega) (by omega)
    refine ⟨e, r, b, k, ?_, ?_, ?_, i4⟩
    · simp only [hS1, hsi, Option.bind_some, if_true]
      exact i1
    · simp only [hl, Option.bind_some, q_lit]
      exact i2
    · obtain ⟨q, hq, h⟩ := i3
      refine ⟨q, ?_, h⟩
      simp at hq ⊢
      rcases hq with rfl | rfl <;> simp
/-! health: the bits of a fraction -/
def fchk (a b : Nat) : Bool := gn32 (FP.fdiv (FP.i2f (nI a)) (FP.i2f (nI b))) && ((F_X0_ofFloat (FP.fdiv (FP.i2f (nI a)) (FP.i2f (nI b)))).isSome && decide (F_X0_ofFloat (FP.fdiv (FP.i2f (nI a)) (FP.i2f (nI b))) = F_Jxf58ca_floatToIntBits_5c35a (FP.fdiv (FP.i2f (nI a)) (FP.i2f (nI b)))))
theorem z_float0 : ((List.range 25).all fun b => (List.range (b + 1)).all fun a => decide (b = 0) || fchk a b) = true := by decide +kernel
theorem z_float (a : Nat) (_ : a < 25) (b : Nat) (hb : b < 25) (h1 : a ≤ b) (h2 : 0 < b) : gn32 (FP.fdiv (FP.i2f (nI a)) (FP.i2f (nI b))) = true ∧ ∃ x, F_X0_ofFloat (FP.fdiv (FP.i2f (nI a)) (FP.i2f (nI b))) = some x ∧ F_Jxf58ca_floatToIntBits_5c35a (FP.fdiv (FP.i2f (nI a)) (FP.i2f (nI b))) = some x := by
  have h := List.all_eq_true.mp z_float0 b (List.mem_range.mpr hb)
  have h3 := List.all_eq_true.mp h a (List.mem_range.mpr (by omega))
  have h4 : ¬ b = 0 := by omega
  rw [decide_eq_false h4, Bool.false_or] at h3
  unfold fchk at h3
  rw [Bool.and_eq_true, Bool.and_eq_true, decide_eq_true_eq] at h3
  obtain ⟨x, hx⟩ := Option.isSome_iff_exists.mp h3.2.1
  exact ⟨h3.1, x, hx, by rw [← h3.2.2]; exact hx⟩
theorem cntP_mono {P Q : Nat → Bool} : ∀ k s, (∀ i, s ≤ i → i < s + k → P i = true → Q i = true) → cntP P s k ≤ cntP Q s k := by
  intro k
  induction k with
  | zero => intro s _; exact Nat.le_refl _
  | succ k ih =>
    intro s h
    rw [cntP_s, cntP_s]
    have h1 := ih (s + 1) (fun i a b => h i (by omega) (by omega))
    have h2 := h s (Nat.le_refl s) (by omega)
    cases hp : P s with
    | false => simp; omega
    | true => rw [h2 hp]; omega
theorem m_healthBits {w cm vs es : Nat → Nat} {s c fi th ep : Nat} {t : Int32} (hs : s < 4) (hR : RSl w s c fi th ep cm vs es) (hS1 : F_X10_checkSlot (nI s) = some 0) (hS2 : F_X11_isSlot (nI s) = some (nI 1)) :
    ∃ e r b k, F_X10_healthBits (nI fi) (nI th) (nI ep) (L cm) (L vs) (L es) (nI s) = some (e, r) ∧ F_X11_healthBits t (L w) (nI s) = some (b, k) ∧ EK [(0, 0), (1, 1), (3, 2), (6, 3)] e k ∧ (e = 0 → r = b) := by
  have hf := hR.1
  have hsi := z_secretIn hs hf
  have hl := hR.lacks hs hS2
  unfold F_X10_healthBits F_X11_healthBits F_X11_healthBits_L52
  have hcase : fi = 0 ∨ fi = 1 := by omega
  rcases hcase with rfl | rfl
  · refine ⟨3, 0, 0, nI 2, ?_, ?_, EK.of (by simp), fun h => by omega⟩
    · simp only [hS1, hsi, Option.bind_some, if_true]
      rfl
    · simp only [hl, Option.bind_some, if_true, q_lit]
      simp (disch := omega) only [q_eqI, z_fails, Option.bind_some]
      rfl
  · have hRS := hR.2.2.2.2.2.2 rfl
    have ok := hRS.2.1
    have a1 := z_shareCount (es := es) (m := 255) (by omega) ok.2.2.2.2
    have a2 := z_shareCount_ (x := 0) (m := 255) ok (by omega) (by omega)
    simp only [cnt255] at a1 a2
    have b1 := z_countA hs hRS.1
    have b2 := z_count (x := 0) hs hRS (by omega)
    have l1 := cntP_le (fun p => decide (es p ≠ 0)) 24 1
    have l2 : cntP (fun p => decide (es p ≠ 0) && decide (S_state th ep cm (vs p) (es p) p = 0)) 1 24 ≤ cntP (fun p => decide (es p ≠ 0)) 1 24 := cntP_mono 24 1 (fun i _ _ h => (Bool.and_eq_true _ _ ▸ h).1)
    by_cases h0 : cntP (fun p => decide (es p ≠ 0)) 1 24 = 0
    · refine ⟨6, 0, 0, nI 3, ?_, ?_, EK.of (by simp), fun h => by omega⟩
      · simp only [hS1, hsi, Option.bind_some, if_true]
        show (if (0 : Nat) = 0 then _ else _) = _
        rw [if_pos rfl]
        simp only [q_lit]
        rw [a1, h0]
        rfl
      · simp only [hl, Option.bind_some, q_lit]
        show (if nI 0 = nI 0 then _ else _) = _
        rw [if_pos rfl, b1, h0]
        rfl
    · obtain ⟨g1, x, g2, g3⟩ := z_float _ (show cntP (fun p => decide (es p ≠ 0) && decide (S_state th ep cm (vs p) (es p) p = 0)) 1 24 < 25 by omega) _ (show cntP (fun p => decide (es p ≠ 0)) 1 24 < 25 by omega) l2 (by omega)
      have hne : ¬ nI (cntP (fun p => decide (es p ≠ 0)) 1 24) = nI 0 := by
        rw [q_eqI (by omega) (by omega)]
        exact h0
      refine ⟨0, x, x, nI 0, ?_, ?_, EK.of (by simp), fun _ => rfl⟩
      · simp only [hS1, hsi, Option.bind_some, if_true]
        show (if (0 : Nat) = 0 then _ else _) = _
        rw [if_pos rfl]
        simp only [q_lit]
        rw [a1]
        simp only [Option.bind_some, hne, if_false]
        rw [a2]
        simp only [Option.bind_some, g1, q_gg, g2]
      · simp only [hl, Option.bind_some, q_lit]
        show (if nI 0 = nI 0 then _ else _) = _
        rw [if_pos rfl, b1]
        simp only [Option.bind_some, hne, if_false]
        rw [b2]
        simp only [Option.bind_some, g1, q_gg, g3, z_done]
