/-! PURE: the relation of the two sides, and the methods one by one -/
def RSl (w : Nat → Nat) (s c fi th ep : Nat) (cm vs es : Nat → Nat) : Prop := fi ≤ 1 ∧ w (ix s 0) = fi ∧ RSh w s vs es ∧ okS th ep cm vs es ∧ ep ≤ c ∧ (fi = 0 → ∀ p, 1 ≤ p → p ≤ 24 → es p = 0) ∧ (fi = 1 → RS w s th ep cm vs es)
def Ag (w w' : Nat → Nat) (a b : Nat) : Prop := ∀ i, a ≤ i → i ≤ b → w' i = w i
theorem RSh.of {w w' : Nat → Nat} {s : Nat} {vs es : Nat → Nat} (h : RSh w s vs es) (e : Ag w w' (ix s 52) (ix s 123)) : RSh w' s vs es := by
  intro p h1 h2
  obtain ⟨a, b, c⟩ := h p h1 h2
  rw [e _ (by simp only [ix, shx]; omega) (by simp only [ix, shx]; omega), e _ (by simp only [ix, shx]; omega) (by simp only [ix, shx]; omega), e _ (by simp only [ix, shx]; omega) (by simp only [ix, shx]; omega)]
  exact ⟨a, b, c⟩
theorem RS.of {w w' : Nat → Nat} {s th ep : Nat} {cm vs es : Nat → Nat} (h : RS w s th ep cm vs es) (e : Ag w w' (ix s 0) (ix s 10)) (e2 : Ag w w' (ix s 52) (ix s 123)) : RS w' s th ep cm vs es := by
  obtain ⟨h1, h2, h3, h4, h5, h6, h7⟩ := h
  have := h2.1
  refine ⟨h1.of e2, h2, h3, h4, ?_, ?_, fun j hj => ?_⟩
  · rw [e _ (by simp only [ix]; omega) (by simp only [ix]; omega), h5]
  · rw [e _ (by simp only [ix]; omega) (by simp only [ix]; omega), h6]
  · rw [e _ (by simp only [ix]; omega) (by simp only [ix]; omega), h7 j hj]
theorem RSl.of {w w' : Nat → Nat} {s c c' fi th ep : Nat} {cm vs es : Nat → Nat} (h : RSl w s c fi th ep cm vs es) (hc : c ≤ c') (e : Ag w w' (ix s 0) (ix s 10)) (e2 : Ag w w' (ix s 52) (ix s 123)) : RSl w' s c' fi th ep cm vs es := by
  obtain ⟨h1, h2, h3, h4, h5, h6, h7⟩ := h
  refine ⟨h1, ?_, h3.of e2, h4, by omega, h6, fun hf => (h7 hf).of e e2⟩
  rw [e _ (Nat.le_refl _) (by simp only [ix]; omega), h2]
theorem RSl.has {w : Nat → Nat} {s c fi th ep : Nat} {cm vs es : Nat → Nat} (h : RSl w s c fi th ep cm vs es) (hs : s < 4) : F_X11_of (L w) (nI s) (nI 0) = some (nI fi) := by
  rw [z_of hs (by omega), h.2.1]
/-- what the two sides tell of the end of a call: 0, or the exception's numbers -/
def EK (l : List (Nat × Nat)) (e : Nat) (k : Int32) : Prop := ∃ q ∈ l, q.1 = e ∧ nI q.2 = k
theorem EK.of {l : List (Nat × Nat)} {e k : Nat} (h : (e, k) ∈ l) : EK l e (nI k) := ⟨(e, k), h, rfl, rfl⟩
theorem z_done (t x : Int32) : F_X11_done t x = some (x, nI 0) := rfl
theorem z_fails (t x : Int32) : F_X11_fails t x = some (nI 0, x) := rfl
theorem m_seed {w : Nat → Nat} {z x t : Int32} (hz : z = nI (w 0)) : F_X10_seed z x = some (z, x) ∧ F_X11_seed t (L w) x = some (z, nI 0, L (updN w 0 (tw x))) ∧ nI (updN w 0 (tw x) 0) = x := by
  refine ⟨rfl, ?_, by rw [uN_s, nI_tw]⟩
  have h : gi (nI 0) 534 = true := by decide
  have h1 : (nI 0).toNatClampNeg = 0 := by decide
  unfold F_X11_seed
  simp only [q_lit, h, q_gg, q_gl, h1, L_upd0, z_done, Option.bind_some]
  rw [hz]
  rfl
theorem m_draw {w : Nat → Nat} {z t : Int32} (hz : z = nI (w 0)) : F_X10_draw z = some (nI (drN z), nz z) ∧ F_X11_draw t (L w) = some (nI (drN z), nI 0, L (updN w 0 (tw (nz z)))) ∧ nI (updN w 0 (tw (nz z)) 0) = nz z := by
  refine ⟨?_, ?_, by rw [uN_s, nI_tw]⟩
  · unfold F_X10_draw
    rw [z_next]
    rfl
  · unfold F_X11_draw
    rw [z_drawn, hz]
    rfl
theorem m_setWeight {w wt : Nat → Nat} {pr : Nat} {t x y : Int32} (hH : HW w pr wt) : ∃ e r b k wt' w', F_X10_setWeight (L wt) x y = some (e, r, L wt') ∧ F_X11_setWeight t (L w) x y = some (b, k, L w') ∧ EK [(0, 0), (1, 1), (2, 2)] e k ∧ (e = 0 → r = b) ∧ HW w' pr wt' ∧ ∀ i, (i < 1 ∨ 8 < i) → w' i = w i := by
  unfold F_X10_setWeight F_X10_setWeight_L13 F_X11_setWeight
  rcases a_member x with ⟨m, hm, rfl, h1, h2⟩ | ⟨h1, h2⟩
  · rcases a_what y 3 (by omega) with ⟨v, hv, rfl, h3, h4⟩ | ⟨h3, h4⟩
    · have hn : ¬ v < 0 := by omega
      refine ⟨0, nI (wt m), nI (wt m), nI 0, updN wt m v, updN w (1 + m) v, ?_, ?_, EK.of (by simp), fun _ => rfl, ⟨hH.1, fun j hj => ?_⟩, fun i hi => uN_n _ _ (by omega)⟩
      · simp (disch := omega) only [q_lit, h1, Option.bind_some, if_true, q_ltI, hn, if_false, q_leI, hv, q_gi, q_gg, q_gl, q_cl, L_app, L_upd]
      · simp (disch := omega) only [q_lit, h2, h4, Option.bind_some, q_eqI, nI_add, q_gi, q_gg, q_gl, q_cl, L_app, L_upd, z_done]
        rw [(hH.2 m hm).2.1]
        rfl
      · rw [uN_n _ _ (by omega)]
        refine ⟨(hH.2 j hj).1, ?_⟩
        by_cases e : j = m
        · subst e
          rw [uN_s, uN_s]
          exact ⟨rfl, by omega⟩
        · rw [uN_n _ _ (by omega), uN_n _ _ e]
          exact (hH.2 j hj).2
    · refine ⟨2, 0, 0, nI 2, wt, w, ?_, ?_, EK.of (by simp), fun h => by omega, hH, fun i _ => rfl⟩
      · unfold F_X10_checkWhat F_X10_checkWhat_L9 at h3
        simp only [h1, Option.bind_some, if_true]
        by_cases g1 : y < 0
        · rw [if_pos g1]
        · rw [if_neg g1] at h3 ⊢
          by_cases g2 : y ≤ nI 3
          · rw [if_pos g2] at h3
            exact absurd h3 (by simp)
          · rw [if_neg (by exact g2)]
      · simp (disch := omega) only [q_lit, h2, h4, Option.bind_some, q_eqI, z_fails]
        rfl
  · refine ⟨1, 0, 0, nI 1, wt, w, ?_, ?_, EK.of (by simp), fun h => by omega, hH, fun i _ => rfl⟩
    · simp only [h1, Option.bind_some]
      rfl
    · simp (disch := omega) only [q_lit, h2, Option.bind_some, z_fails]
      rfl
theorem q_bitD {a b : Nat} (ha : a < 256) (hb : b < 256) (h : ∀ m, m < 8 → a.testBit m = b.testBit m) : a = b := by
  apply Nat.eq_of_testBit_eq
  intro i
  by_cases hi : i < 8
  · exact h i hi
  · rw [Nat.testBit_lt_two_pow (Nat.lt_of_lt_of_le ha (Nat.pow_le_pow_right (n := 2) (by omega) (show 8 ≤ i by omega))), Nat.testBit_lt_two_pow (Nat.lt_of_lt_of_le hb (Nat.pow_le_pow_right (n := 2) (by omega) (show 8 ≤ i by omega)))]
theorem q_clr : ∀ pr, pr < 256 → ∀ m, m < 8 → nI pr &&& (nI (2 ^ m) ^^^ (-1)) = nI (pr &&& (255 ^^^ 2 ^ m)) := by decide +kernel
theorem q_orlt {a b : Nat} (ha : a < 256) (hb : b < 256) : a ||| b < 256 := Nat.or_lt_two_pow (n := 8) ha hb
theorem q_andlt {a : Nat} (b : Nat) (ha : a < 256) : a &&& b < 256 := Nat.lt_of_le_of_lt Nat.and_le_left ha
theorem q_m256 : ∀ m, m < 8 → 2 ^ m < 256 := by decide
theorem q_255 : ∀ m, m < 8 → ∀ j, j < 8 → (255 ^^^ 2 ^ m).testBit j = !decide (j = m) := by decide
theorem q_2m : ∀ m, m < 8 → ∀ j, j < 8 → (2 ^ m).testBit j = decide (j = m) := by decide
theorem m_setPresent {w wt : Nat → Nat} {pr : Nat} {t x y : Int32} (hH : HW w pr wt) : ∃ e r b k pr' w', F_X10_setPresent (nI pr) x y = some (e, r, nI pr') ∧ F_X11_setPresent t (L w) x y = some (b, k, L w') ∧ EK [(0, 0), (1, 1)] e k ∧ (e = 0 → r = b ∧ ∃ b' : Bool, r = nI b'.toNat) ∧ HW w' pr' wt ∧ ∀ i, (i < 9 ∨ 16 < i) → w' i = w i := by
  have hpr := hH.1
  unfold F_X10_setPresent F_X10_setPresent_L54 F_X11_setPresent F_X11_setPresent_L13 F_X11_setPresent_L48
  rcases a_member x with ⟨m, hm, rfl, h1, h2⟩ | ⟨h1, h2⟩
  · have hpw := q_m256 m hm
    by_cases hy : y = 0
    · refine ⟨0, nI (pr.testBit m).toNat, nI (pr.testBit m).toNat, nI 0, pr &&& (255 ^^^ 2 ^ m), updN w (9 + m) 0, ?_, ?_, EK.of (by simp), fun _ => ⟨rfl, _, rfl⟩, ⟨q_andlt _ hpr, fun j hj => ?_⟩, fun i hi => uN_n _ _ (by omega)⟩
      · have h9 := q_clr pr hpr m hm
        simp only [h1, Option.bind_some, if_true]
        rw [z_contains (by omega) (by omega)]
        simp only [Option.bind_some, q_gl, hy, if_true, q_narb, q_gg]
        show some (0, nI _, nI pr &&& ((nI 1 <<< (nI m &&& nI 31)) ^^^ (-1))) = _
        rw [q_shl1 m hm, h9]
      · simp (disch := omega) only [q_lit, h2, Option.bind_some, q_eqI]
        simp only [hH.pres hm, Option.bind_some]
        simp (disch := omega) only [hy, q_lit, if_true, nI_add, q_gi, q_gg, q_gl, q_cl, L_upd, q_narb]
        rfl
      · have a := hH.2 j hj
        rw [uN_n (j := 1 + j) _ _ (by omega), Nat.testBit_and, q_255 m hm j hj]
        by_cases e : j = m
        · subst e
          rw [uN_s]
          refine ⟨by simp, a.2⟩
        · rw [uN_n _ _ (by omega), a.1]
          refine ⟨by simp [e], a.2⟩
    · refine ⟨0, nI (pr.testBit m).toNat, nI (pr.testBit m).toNat, nI 0, pr ||| 2 ^ m, updN w (9 + m) 1, ?_, ?_, EK.of (by simp), fun _ => ⟨rfl, _, rfl⟩, ⟨q_orlt hpr hpw, fun j hj => ?_⟩, fun i hi => uN_n _ _ (by omega)⟩
      · simp only [h1, Option.bind_some, if_true]
        rw [z_contains (by omega) (by omega)]
        simp only [Option.bind_some, q_gl, hy, if_false, q_narb, q_gg]
        show some (0, nI _, nI pr ||| (nI 1 <<< (nI m &&& nI 31))) = _
        rw [q_shl1 m hm, q_or]
      · have hy' : ¬ y = nI 0 := hy
        simp (disch := omega) only [q_lit, h2, Option.bind_some, q_eqI]
        simp only [hH.pres hm, Option.bind_some]
        simp (disch := omega) only [hy', q_lit, if_false, nI_add, q_gi, q_gg, q_gl, q_cl, L_upd, q_narb]
        rfl
      · have a := hH.2 j hj
        rw [uN_n (j := 1 + j) _ _ (by omega), Nat.testBit_or, q_2m m hm j hj]
        by_cases e : j = m
        · subst e
          rw [uN_s]
          refine ⟨by simp, a.2⟩
        · rw [uN_n _ _ (by omega), a.1]
          refine ⟨by simp [e], a.2⟩
  · refine ⟨1, 0, 0, nI 1, pr, w, ?_, ?_, EK.of (by simp), fun h => by omega, hH, fun i _ => rfl⟩
    · simp only [h1, Option.bind_some]
      rfl
    · simp (disch := omega) only [q_lit, h2, Option.bind_some, if_true]
      rfl
theorem m_event {w ev : Nat → Nat} {le ec : Nat} {t x : Int32} (hE : REv w le ec ev) : ∃ e r b k, F_X10_event (nI le) (nI ec) (L ev) x = some (e, r) ∧ F_X11_event t (L w) x = some (b, k) ∧ EK [(0, 0), (3, 1)] e k ∧ (e = 0 → r = b) := by
  obtain ⟨h1, h2, h3, h4⟩ := hE
  unfold F_X10_event F_X10_event_L15 F_X11_event F_X11_event_L38
  have g17 : L w 17 = nI ec := by rw [L_app, h3]
  by_cases h0 : ec = 0
  · subst h0
    refine ⟨3, 0, 0, nI 1, ?_, ?_, EK.of (by simp), fun h => by omega⟩
    · by_cases hx : x < 0
      · rw [if_pos hx]
      · rw [if_neg hx, if_neg (by exact hx)]
    · have hin : F_X11_in x (nI 0) (nI 0 - nI 1) = some (nI 0) := by
        rw [z_in]
        by_cases hx : x < nI 0
        · rw [if_pos hx]; rfl
        · rw [if_neg hx]
          have : nI 0 - nI 1 < x := by
            rw [Int32.lt_iff_toInt_lt] at hx ⊢
            have a : (nI 0).toInt = 0 := by decide
            have b : (nI 0 - nI 1).toInt = -1 := by decide
            omega
          rw [if_pos this]; rfl
      simp (disch := omega) only [q_lit, q_gi, q_gg, q_gl, q_cl, g17, hin, Option.bind_some, if_true, z_fails]
  · have hsub : nI ec - nI 1 = nI (ec - 1) := pk_sub (by omega)
    rcases z_arg x ec (by omega) (by omega) with ⟨j, hj, rfl⟩ | ⟨g1, g2⟩
    · have hin := z_inok (j := j) (a := 0) (b := ec - 1) (by omega) (by omega) (by omega)
      have hm : (le + 20 - j) % 20 < 20 := Nat.mod_lt _ (by omega)
      refine ⟨0, nI (w (18 + j)), nI (w (18 + j)), nI 0, ?_, ?_, EK.of (by simp), fun _ => rfl⟩
      · have hj0 : ¬ j < 0 := by omega
        rw [h4 j hj]
        simp (disch := omega) only [q_lit, q_ltI, hj0, if_false, hj, if_true, nI_add, pk_sub, pk_div, pk_mul, q_rem, q_mod, q_gi, q_gg, q_gl, q_cl, L_app]
      · simp (disch := omega) only [q_lit, q_gi, q_gg, q_gl, q_cl, g17, hsub, hin, Option.bind_some, q_eqI, z_done, nI_add, L_app]
        rfl
    · refine ⟨3, 0, 0, nI 1, ?_, ?_, EK.of (by simp), fun h => by omega⟩
      · rcases g2 with g2 | g2
        · rw [if_pos g2]
        · rw [if_neg g2.1, if_neg (z_lt (by omega) g2)]
      · simp (disch := omega) only [q_lit, q_gi, q_gg, q_gl, q_cl, g17, hsub, g1, Option.bind_some, if_true, z_fails]
