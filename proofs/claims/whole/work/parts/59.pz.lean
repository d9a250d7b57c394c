/-! PURE: smallest, powerBits, member -/
def clr (m j : Nat) : Nat := m &&& (255 ^^^ 2 ^ j)
theorem clr_lt {m j : Nat} (hm : m < 256) : clr m j < 256 := q_andlt _ hm
theorem q_clr2 {m j : Nat} (hm : m < 256) (hj : j < 8) : nI m &&& ((nI 1 <<< (nI j &&& nI 31)) ^^^ (-1)) = nI (clr m j) := by
  rw [q_shl1 j hj]
  exact q_clr m hm j hj
def PNd (OP : Nat → Bool) (j m : Nat) : Bool := m.testBit j && (OP m && !OP (clr m j))
def SMl (OP : Nat → Bool) (m : Nat) : Nat → Nat → Bool
  | 0, _ => true
  | k + 1, j => (!m.testBit j || !OP (clr m j)) && SMl OP m k (j + 1)
theorem z_isNeeded {op : Nat → Nat} {OP : Nat → Bool} {m j : Nat} (ho : ∀ q, q < 256 → op q = (OP q).toNat) (hm : m < 256) (hj : j < 8) : F_X10_isNeeded (L op) (nI j) (nI m) = some (nI (PNd OP j m).toNat) := by
  have h1 := ho m hm
  have h2 := ho (clr m j) (clr_lt hm)
  have hc := @clr_lt m j hm
  unfold F_X10_isNeeded F_X10_isNeeded_L36 F_X10_isNeeded_L37 PNd
  refine ob (z_contains (by omega) (by omega)) ?_
  cases hb : m.testBit j with
  | false =>
    refine (if_pos (show nI false.toNat = nI 0 from rfl)).trans ?_
    rw [Bool.false_and]
    decide
  | true =>
    refine (if_neg (show ¬ nI true.toNat = nI 0 by decide)).trans ?_
    rw [q_gi hm (by omega), q_gg, q_cl (by omega), L_app, h1]
    cases hO : OP m with
    | false =>
      refine (if_pos (show nI false.toNat = nI 0 from rfl)).trans ?_
      rw [Bool.false_and, Bool.and_false]
      decide
    | true =>
      refine (if_neg (show ¬ nI true.toNat = nI 0 by decide)).trans ?_
      have e := q_clr2 hm hj
      have e2 : nI m &&& ((1 <<< (nI j &&& 31)) ^^^ (-1)) = nI (clr m j) := e
      rw [e2, q_gi hc (by omega), q_gg, q_cl (by omega), L_app, h2]
      cases OP (clr m j) with
      | false =>
        refine (if_pos (show nI false.toNat = nI 0 from rfl)).trans ?_
        decide
      | true =>
        refine (if_neg (show ¬ nI true.toNat = nI 0 by decide)).trans ?_
        decide
theorem z_needs_L {op : Nat → Nat} {OP : Nat → Bool} {m : Nat} (ho : ∀ q, q < 256 → op q = (OP q).toNat) (hm : m < 256) : ∀ k n j, j + k = 8 → k < n → F_X10_needsAllMembers_L2 (L op) (nI m) n (nI j) = some (nI (OP m && SMl OP m k j).toNat) := by
  intro k
  induction k with
  | zero =>
    intro n j hj hn
    obtain ⟨n, rfl⟩ := z_fuel hn
    have h1 := ho m hm
    rw [F_X10_needsAllMembers_L2]
    refine (if_pos (show nI 8 ≤ nI j from nI_le (by omega) (by omega))).trans ?_
    rw [q_gi hm (by omega), q_gg, q_cl (by omega), L_app, h1, q_narb, q_gg]
    show _ = some (nI (OP m && true).toNat)
    rw [Bool.and_true]
  | succ k ih =>
    intro n j hj hn
    obtain ⟨n, rfl⟩ := z_fuel (show 0 < n by omega)
    have hnle : ¬ nI 8 ≤ nI j := nI_ge (by omega) (by omega)
    have hi := z_isNeeded (OP := OP) ho hm (show j < 8 by omega)
    rw [F_X10_needsAllMembers_L2]
    unfold F_X10_needsAllMembers_L27
    refine (if_neg hnle).trans ?_
    refine ob (z_contains (a := m) (k := j) (by omega) (by omega)) ?_
    rw [show nI j + 1 = nI (j + 1) from nI_1 j, ih n (j + 1) (by omega) (by omega)]
    show _ = some (nI (OP m && ((!m.testBit j || !OP (clr m j)) && SMl OP m k (j + 1))).toNat)
    cases hb : m.testBit j with
    | false =>
      refine (if_pos (show nI false.toNat = nI 0 from rfl)).trans ?_
      simp
    | true =>
      refine (if_neg (show ¬ nI true.toNat = nI 0 by decide)).trans ?_
      refine ob hi ?_
      unfold PNd
      rw [hb]
      cases hO : OP m with
      | false =>
        refine (if_pos (show nI (true && (false && !OP (clr m j))).toNat = nI 0 by simp)).trans ?_
        simp
        rfl
      | true =>
        cases hC : OP (clr m j) with
        | false =>
          refine (if_neg (show ¬ nI (true && (true && !false)).toNat = nI 0 by decide)).trans ?_
          simp
        | true =>
          refine (if_pos (show nI (true && (true && !true)).toNat = nI 0 by decide)).trans ?_
          simp
          rfl
theorem z_sm_L {w wt cm vs es : Nat → Nat} {pr s th ep m : Nat} {rule : Option Nat} {ful : Nat → Int32} {al : Nat → Bool} (hs : s < 4) (hH : HW w pr wt) (hm : m < 256) (hR : RS w s th ep cm vs es) (hF : HF w s rule ful al) : ∀ k n j (b : Bool) (nd : Nat → Nat) (x : Int32), j + k = 8 → k < n → ∃ nd' x', F_X11_isSmallest_L10 (L w) (nI s) (nI m) n (L nd) x (nI b.toNat) (nI j) = some (nI (b && SMl (OPn th ep cm vs es pr al) m k j).toNat, L nd', x') := by
  intro k
  induction k with
  | zero =>
    intro n j b nd x hj hn
    obtain ⟨n, rfl⟩ := z_fuel hn
    refine ⟨nd, x, ?_⟩
    rw [F_X11_isSmallest_L10]
    unfold F_X11_isSmallest_L58
    refine (if_pos (show nI 8 ≤ nI j from nI_le (by omega) (by omega))).trans ?_
    rw [q_narb, q_gg]
    show _ = some (nI (b && true).toNat, _, _)
    rw [Bool.and_true]
  | succ k ih =>
    intro n j b nd x hj hn
    obtain ⟨n, rfl⟩ := z_fuel (show 0 < n by omega)
    have hj8 : j < 8 := by omega
    have hnle : ¬ nI 8 ≤ nI j := nI_ge (by omega) (by omega)
    have hSM : SMl (OPn th ep cm vs es pr al) m (k + 1) j = ((!m.testBit j || !OPn th ep cm vs es pr al (clr m j)) && SMl (OPn th ep cm vs es pr al) m k (j + 1)) := rfl
    rw [hSM]
    cases b with
    | false =>
      refine ⟨nd, x, ?_⟩
      rw [F_X11_isSmallest_L10]
      unfold F_X11_isSmallest_L58
      refine (if_neg hnle).trans ?_
      refine (if_pos (show nI false.toNat = nI 0 from rfl)).trans ?_
      rw [q_narb, q_gg]
      rfl
    | true =>
      have e31 : ((nI m >>> (nI j &&& 31)) &&& 1) = nI (m / 2 ^ j % 2) := by
        have h1 : (nI m >>> (nI j &&& nI 31)) = nI (m / 2 ^ j) := q_shr (by omega) (by omega)
        have h2 : (nI m >>> (nI j &&& 31)) = nI (m / 2 ^ j) := h1
        rw [h2]
        exact q_and1 _
      have htb := q_tb m j
      cases hb : m.testBit j with
      | false =>
        have h0 : m / 2 ^ j % 2 = 0 := by
          rw [hb] at htb
          have : ¬ m / 2 ^ j % 2 = 1 := by rw [htb]; simp
          omega
        obtain ⟨nd', x', e1⟩ := ih n (j + 1) true nd x (by omega) (by omega)
        refine ⟨nd', x', ?_⟩
        rw [F_X11_isSmallest_L10]
        unfold F_X11_isSmallest_L46 F_X11_isSmallest_L51
        refine (if_neg hnle).trans ?_
        refine (if_neg (show ¬ nI true.toNat = nI 0 by decide)).trans ?_
        rw [e31, h0]
        refine (if_pos (show nI 0 = nI 0 from rfl)).trans ?_
        rw [show nI j + 1 = nI (j + 1) from nI_1 j]
        refine Eq.trans e1 ?_
        simp
      | true =>
        have h0 : m / 2 ^ j % 2 = 1 := by
          rw [htb]
          exact hb
        obtain ⟨nd1, o1, -⟩ := z_opens (nd := nd) (x := x) (m := clr m j) hs hH (clr_lt hm) hR hF
        have e := q_clr2 hm hj8
        have e2 : nI m &&& ((1 <<< (nI j &&& 31)) ^^^ (-1)) = nI (clr m j) := e
        obtain ⟨nd', x', e1⟩ := ih n (j + 1) (!OPn th ep cm vs es pr al (clr m j)) nd1 (nI (nGood th ep cm vs es (clr m j &&& pr))) (by omega) (by omega)
        refine ⟨nd', x', ?_⟩
        rw [F_X11_isSmallest_L10]
        unfold F_X11_isSmallest_L46 F_X11_isSmallest_L51
        refine (if_neg hnle).trans ?_
        refine (if_neg (show ¬ nI true.toNat = nI 0 by decide)).trans ?_
        rw [e31, h0]
        refine (if_neg (show ¬ nI 1 = nI 0 by decide)).trans ?_
        rw [e2, show nI j + 1 = nI (j + 1) from nI_1 j]
        refine ob o1 ?_
        cases hO : OPn th ep cm vs es pr al (clr m j) with
        | false =>
          rw [hO] at e1
          refine (if_pos (show nI false.toNat = nI 0 from rfl)).trans ?_
          refine Eq.trans e1 ?_
          simp
        | true =>
          rw [hO] at e1
          refine (if_neg (show ¬ nI true.toNat = nI 0 by decide)).trans ?_
          refine Eq.trans e1 ?_
          simp
theorem z_isSmallest {w wt cm vs es nd : Nat → Nat} {pr s th ep m : Nat} {x : Int32} {rule : Option Nat} {ful : Nat → Int32} {al : Nat → Bool} (hs : s < 4) (hH : HW w pr wt) (hm : m < 256) (hR : RS w s th ep cm vs es) (hF : HF w s rule ful al) : ∃ nd' x', F_X11_isSmallest (L w) (L nd) x (nI s) (nI m) = some (nI (OPn th ep cm vs es pr al m && SMl (OPn th ep cm vs es pr al) m 8 0).toNat, L nd', x') := by
  obtain ⟨nd1, o1, -⟩ := z_opens (nd := nd) (x := x) hs hH hm hR hF
  obtain ⟨nd', x', e1⟩ := z_sm_L hs hH hm hR hF 8 1000 0 (OPn th ep cm vs es pr al m) nd1 (nI (nGood th ep cm vs es (m &&& pr))) (by omega) (by omega)
  refine ⟨nd', x', ?_⟩
  unfold F_X11_isSmallest
  refine ob o1 ?_
  exact e1
theorem z_smX_L {w wt cm vs es gs op : Nat → Nat} {pr s th ep : Nat} {t y : Int32} {rule : Option Nat} {ful : Nat → Int32} {al : Nat → Bool} (hs : s < 4) (hH : HW w pr wt) (hR : RS w s th ep cm vs es) (hF : HF w s rule ful al) (ho : ∀ q, q < 256 → op q = (OPn th ep cm vs es pr al q).toNat) : ∀ k n m acc (nd : Nat → Nat) (x : Int32), m + k = 256 → k < n →
    ∃ e r b kk nd' x', F_X10_smallest_L18 y n (L gs) (L op) (nI acc) (nI m) = some (e, r, L gs, L op) ∧ F_X11_smallest_L22 (L w) (nI s) y n t (L nd) x (nI acc) (nI m) = some (b, kk, L nd', x') ∧ EK [(0, 0), (1, 1), (3, 2)] e kk ∧ (e = 0 → r = b) := by
  intro k
  induction k with
  | zero =>
    intro n m acc nd x hm hn
    obtain ⟨n, rfl⟩ := z_fuel hn
    have hle : nI 256 ≤ nI m := nI_le (by omega) (by omega)
    refine ⟨3, 0, 0, nI 2, nd, x, ?_, ?_, EK.of (by simp), fun h => by omega⟩
    · rw [F_X10_smallest_L18]
      exact if_pos hle
    · rw [F_X11_smallest_L22]
      exact if_pos hle
  | succ k ih =>
    intro n m acc nd x hm hn
    obtain ⟨n, rfl⟩ := z_fuel (show 0 < n by omega)
    have hm8 : m < 256 := by omega
    have hnle : ¬ nI 256 ≤ nI m := nI_ge (by omega) (by omega)
    have hna : F_X10_needsAllMembers (L op) (nI m) = some (nI (OPn th ep cm vs es pr al m && SMl (OPn th ep cm vs es pr al) m 8 0).toNat) := z_needs_L ho hm8 8 1000 0 (by omega) (by omega)
    obtain ⟨nd1, x1, s1⟩ := z_isSmallest (nd := nd) (x := x) hs hH hm8 hR hF
    rw [F_X10_smallest_L18, F_X11_smallest_L22]
    unfold F_X10_smallest_L46 F_X11_smallest_L56
    rw [show nI m + 1 = nI (m + 1) from nI_1 m, show nI acc + 1 = nI (acc + 1) from nI_1 acc]
    cases hb : (OPn th ep cm vs es pr al m && SMl (OPn th ep cm vs es pr al) m 8 0) with
    | false =>
      rw [hb] at hna s1
      obtain ⟨e, r, b, kk, nd', x', i1, i2, i3⟩ := ih n (m + 1) acc nd1 x1 (by omega) (by omega)
      refine ⟨e, r, b, kk, nd', x', ?_, ?_, i3⟩
      · refine (if_neg hnle).trans ?_
        refine ob hna ?_
        refine (if_pos (show nI false.toNat = nI 0 from rfl)).trans ?_
        exact i1
      · refine (if_neg hnle).trans ?_
        refine ob s1 ?_
        refine (if_pos (show nI false.toNat = nI 0 from rfl)).trans ?_
        exact i2
    | true =>
      rw [hb] at hna s1
      by_cases hy : nI acc = y
      · refine ⟨0, nI m, nI m, nI 0, nd1, x1, ?_, ?_, EK.of (by simp), fun _ => rfl⟩
        · refine (if_neg hnle).trans ?_
          refine ob hna ?_
          refine (if_neg (show ¬ nI true.toNat = nI 0 by decide)).trans ?_
          exact if_pos hy
        · refine (if_neg hnle).trans ?_
          refine ob s1 ?_
          refine (if_neg (show ¬ nI true.toNat = nI 0 by decide)).trans ?_
          exact if_pos hy
      · obtain ⟨e, r, b, kk, nd', x', i1, i2, i3⟩ := ih n (m + 1) (acc + 1) nd1 x1 (by omega) (by omega)
        refine ⟨e, r, b, kk, nd', x', ?_, ?_, i3⟩
        · refine (if_neg hnle).trans ?_
          refine ob hna ?_
          refine (if_neg (show ¬ nI true.toNat = nI 0 by decide)).trans ?_
          refine (if_neg hy).trans ?_
          exact i1
        · refine (if_neg hnle).trans ?_
          refine ob s1 ?_
          refine (if_neg (show ¬ nI true.toNat = nI 0 by decide)).trans ?_
          refine (if_neg hy).trans ?_
          exact i2
theorem m_smallest {w wt cm vs es nd gs op : Nat → Nat} {s c pr fi th ep : Nat} {t x y : Int32} {rule : Option Nat} {ful : Nat → Int32} {al : Nat → Bool} (hs : s < 4) (hH : HW w pr wt) (hR : RSl w s c fi th ep cm vs es) (hF : fi = 1 → HF w s rule ful al) (hS1 : F_X10_checkSlot (nI s) = some 0) (hS2 : F_X11_isSlot (nI s) = some (nI 1)) :
    ∃ e r b k gs' op' nd' nm, F_X10_smallest (L gs) (L op) (nI pr) (nI fi) (nI th) (nI ep) rule (L cm) (L vs) (L es) ful (nI s) y = some (e, r, L gs', L op') ∧ F_X11_smallest t (L w) (L nd) x (nI s) y = some (b, k, L nd', nm) ∧ EK [(0, 0), (1, 1), (3, 2)] e k ∧ (e = 0 → r = b) := by
  have hf := hR.1
  have hl := hR.lacks hs hS2
  have hsi := z_secretIn hs hf
  unfold F_X10_smallest F_X11_smallest
  have hcase : fi = 0 ∨ fi = 1 := by omega
  rcases hcase with rfl | rfl
  · refine ⟨3, 0, 0, nI 2, gs, op, nd, x, ?_, ?_, EK.of (by simp), fun h => by omega⟩
    · refine ob hS1 ?_
      exact ob hsi rfl
    · refine ob hl ?_
      exact if_neg (show ¬ nI 2 = nI 0 by decide)
  · have hRS := hR.2.2.2.2.2.2 rfl
    obtain ⟨gs', op', e1, e2⟩ := z_mark (gs := gs) (op := op) hH.1 hRS.2.1 (fun m hm => (hF rfl m hm).1)
    obtain ⟨e, r, b, kk, nd', x', i1, i2, i3, i4⟩ := z_smX_L (gs := gs') (t := t) (y := y) hs hH hRS (hF rfl) e2 256 1000 0 0 nd x (by omega) (by omega)
    refine ⟨e, r, b, kk, gs', op', nd', x', ?_, ?_, i3, i4⟩
    · refine ob hS1 ?_
      refine ob hsi ?_
      refine ob e1 ?_
      exact i1
    · refine ob hl ?_
      refine (if_pos rfl).trans ?_
      exact i2
/-! powerBits -/
def dchk (a : Nat) : Bool := gn64 (FP.ddiv (FP.i2d (nI a)) 4638707616191610880) && ((F_X0_ofDouble (FP.ddiv (FP.i2d (nI a)) 4638707616191610880)).isSome && decide (F_X0_ofDouble (FP.ddiv (FP.i2d (nI a)) 4638707616191610880) = F_Jxe99ae_doubleToLongBits_ccdee (FP.ddiv (FP.i2d (nI a)) 4638707616191610880)))
theorem z_dbl0 : ((List.range 257).all dchk) = true := by decide +kernel
theorem z_dbl (a : Nat) (ha : a < 257) : gn64 (FP.ddiv (FP.i2d (nI a)) 4638707616191610880) = true ∧ ∃ x, F_X0_ofDouble (FP.ddiv (FP.i2d (nI a)) 4638707616191610880) = some x ∧ F_Jxe99ae_doubleToLongBits_ccdee (FP.ddiv (FP.i2d (nI a)) 4638707616191610880) = some x := by
  have h3 := List.all_eq_true.mp z_dbl0 a (List.mem_range.mpr ha)
  unfold dchk at h3
  rw [Bool.and_eq_true, Bool.and_eq_true, decide_eq_true_eq] at h3
  obtain ⟨x, hx⟩ := Option.isSome_iff_exists.mp h3.2.1
  exact ⟨h3.1, x, hx, by rw [← h3.2.2]; exact hx⟩
theorem z_pb_L {w wt cm vs es gs op : Nat → Nat} {pr s th ep j : Nat} {t : Int32} {rule : Option Nat} {ful : Nat → Int32} {al : Nat → Bool} (hs : s < 4) (hj : j < 8) (hH : HW w pr wt) (hR : RS w s th ep cm vs es) (hF : HF w s rule ful al) (ho : ∀ q, q < 256 → op q = (OPn th ep cm vs es pr al q).toNat) : ∀ k n m acc (nd : Nat → Nat) (x : Int32), m + k = 256 → k < n → acc ≤ m →
    ∃ v nd' x', F_X10_powerBits_L22 (nI j) n (L gs) (L op) (nI acc) (nI m) = some (0, v, L gs, L op) ∧ F_X11_powerBits_L50 (L w) (nI s) (nI j) n t (L nd) x (nI acc) (nI m) = some (v, t, L nd', x') := by
  intro k
  induction k with
  | zero =>
    intro n m acc nd x hm hn ha
    obtain ⟨n, rfl⟩ := z_fuel hn
    have hle : nI 256 ≤ nI m := nI_le (by omega) (by omega)
    obtain ⟨d1, v, d2, d3⟩ := z_dbl acc (by omega)
    refine ⟨v, nd, x, ?_, ?_⟩
    · rw [F_X10_powerBits_L22]
      refine (if_pos hle).trans ?_
      rw [d1, q_gg]
      exact ob d2 rfl
    · rw [F_X11_powerBits_L50]
      refine (if_pos hle).trans ?_
      rw [d1, q_gg]
      exact ob d3 rfl
  | succ k ih =>
    intro n m acc nd x hm hn ha
    obtain ⟨n, rfl⟩ := z_fuel (show 0 < n by omega)
    have hm8 : m < 256 := by omega
    have hnle : ¬ nI 256 ≤ nI m := nI_ge (by omega) (by omega)
    have hi := z_isNeeded (OP := OPn th ep cm vs es pr al) ho hm8 hj
    have ebit : ((nI m >>> (nI j &&& 31)) &&& 1 = 1) = (m.testBit j = true) := q_bit (a := m) (k := j) (by omega) (by omega)
    have e := q_clr2 hm8 hj
    have e2 : nI m &&& ((1 <<< (nI j &&& 31)) ^^^ (-1)) = nI (clr m j) := e
    rw [F_X10_powerBits_L22, F_X11_powerBits_L50]
    unfold F_X10_powerBits_L46 F_X11_powerBits_L99 F_X11_powerBits_L100
    rw [show nI m + 1 = nI (m + 1) from nI_1 m, show nI acc + 1 = nI (acc + 1) from nI_1 acc, show nI acc + 0 = nI (acc + 0) from nI_add acc 0]
    cases hb : m.testBit j with
    | false =>
      have hp : PNd (OPn th ep cm vs es pr al) j m = false := by unfold PNd; rw [hb]; rfl
      rw [hp] at hi
      obtain ⟨v, nd', x', i1, i2⟩ := ih n (m + 1) (acc + 0) nd x (by omega) (by omega) (by omega)
      refine ⟨v, nd', x', ?_, ?_⟩
      · refine (if_neg hnle).trans ?_
        refine ob hi ?_
        refine (if_pos (show nI false.toNat = nI 0 from rfl)).trans ?_
        exact i1
      · refine (if_neg hnle).trans ?_
        refine (if_neg (by rw [ebit, hb]; simp)).trans ?_
        exact i2
    | true =>
      obtain ⟨nd1, o1, -⟩ := z_opens (nd := nd) (x := x) hs hH hm8 hR hF
      cases hO : OPn th ep cm vs es pr al m with
      | false =>
        have hp : PNd (OPn th ep cm vs es pr al) j m = false := by unfold PNd; rw [hO]; simp
        rw [hp] at hi
        rw [hO] at o1
        obtain ⟨v, nd', x', i1, i2⟩ := ih n (m + 1) (acc + 0) nd1 (nI (nGood th ep cm vs es (m &&& pr))) (by omega) (by omega) (by omega)
        refine ⟨v, nd', x', ?_, ?_⟩
        · refine (if_neg hnle).trans ?_
          refine ob hi ?_
          refine (if_pos (show nI false.toNat = nI 0 from rfl)).trans ?_
          exact i1
        · refine (if_neg hnle).trans ?_
          refine (if_pos (by rw [ebit, hb])).trans ?_
          refine ob o1 ?_
          refine (if_pos (show nI false.toNat = nI 0 from rfl)).trans ?_
          exact i2
      | true =>
        rw [hO] at o1
        obtain ⟨nd2, o2, -⟩ := z_opens (nd := nd1) (x := nI (nGood th ep cm vs es (m &&& pr))) (m := clr m j) hs hH (clr_lt hm8) hR hF
        cases hC : OPn th ep cm vs es pr al (clr m j) with
        | false =>
          have hp : PNd (OPn th ep cm vs es pr al) j m = true := by unfold PNd; rw [hO, hb, hC]; rfl
          rw [hp] at hi
          rw [hC] at o2
          obtain ⟨v, nd', x', i1, i2⟩ := ih n (m + 1) (acc + 1) nd2 (nI (nGood th ep cm vs es (clr m j &&& pr))) (by omega) (by omega) (by omega)
          refine ⟨v, nd', x', ?_, ?_⟩
          · refine (if_neg hnle).trans ?_
            refine ob hi ?_
            refine (if_neg (show ¬ nI true.toNat = nI 0 by decide)).trans ?_
            exact i1
          · refine (if_neg hnle).trans ?_
            refine (if_pos (by rw [ebit, hb])).trans ?_
            refine ob o1 ?_
            refine (if_neg (show ¬ nI true.toNat = nI 0 by decide)).trans ?_
            rw [e2]
            refine ob o2 ?_
            refine (if_pos (show nI false.toNat = nI 0 from rfl)).trans ?_
            exact i2
        | true =>
          have hp : PNd (OPn th ep cm vs es pr al) j m = false := by unfold PNd; rw [hC]; simp
          rw [hp] at hi
          rw [hC] at o2
          obtain ⟨v, nd', x', i1, i2⟩ := ih n (m + 1) (acc + 0) nd2 (nI (nGood th ep cm vs es (clr m j &&& pr))) (by omega) (by omega) (by omega)
          refine ⟨v, nd', x', ?_, ?_⟩
          · refine (if_neg hnle).trans ?_
            refine ob hi ?_
            refine (if_pos (show nI false.toNat = nI 0 from rfl)).trans ?_
            exact i1
          · refine (if_neg hnle).trans ?_
            refine (if_pos (by rw [ebit, hb])).trans ?_
            refine ob o1 ?_
            refine (if_neg (show ¬ nI true.toNat = nI 0 by decide)).trans ?_
            rw [e2]
            refine ob o2 ?_
            refine (if_neg (show ¬ nI true.toNat = nI 0 by decide)).trans ?_
            exact i2
theorem m_powerBits {w wt cm vs es nd gs op : Nat → Nat} {s c pr fi th ep : Nat} {t x y : Int32} {rule : Option Nat} {ful : Nat → Int32} {al : Nat → Bool} (hs : s < 4) (hH : HW w pr wt) (hR : RSl w s c fi th ep cm vs es) (hF : fi = 1 → HF w s rule ful al) (hS1 : F_X10_checkSlot (nI s) = some 0) (hS2 : F_X11_isSlot (nI s) = some (nI 1)) :
    ∃ e r b k gs' op' nd' nm, F_X10_powerBits (L gs) (L op) (nI pr) (nI fi) (nI th) (nI ep) rule (L cm) (L vs) (L es) ful (nI s) y = some (e, r, L gs', L op') ∧ F_X11_powerBits t (L w) (L nd) x (nI s) y = some (b, k, L nd', nm) ∧ EK [(0, 0), (1, 1), (3, 2)] e k ∧ (e = 0 → r = b) := by
  have hf := hR.1
  have hsi := z_secretIn hs hf
  have n10 : ¬ nI 1 = nI 0 := by decide
  unfold F_X10_powerBits F_X11_powerBits F_X11_powerBits_L15 F_X11_powerBits_L33
  rcases a_member y with ⟨j, hj, rfl, h1, h2⟩ | ⟨h1, h2⟩
  · have hcase : fi = 0 ∨ fi = 1 := by omega
    rcases hcase with rfl | rfl
    · refine ⟨3, 0, 0, nI 2, gs, op, nd, x, ?_, ?_, EK.of (by simp), fun h => by omega⟩
      · refine ob hS1 ?_
        refine ob h1 ?_
        exact ob hsi rfl
      · refine ob hS2 ?_
        refine (if_neg n10).trans ?_
        refine ob h2 ?_
        refine (if_neg n10).trans ?_
        refine ob (hR.has hs) ?_
        refine (if_pos rfl).trans ?_
        exact if_neg (show ¬ nI 2 = nI 0 by decide)
    · have hRS := hR.2.2.2.2.2.2 rfl
      obtain ⟨gs', op', e1, e2⟩ := z_mark (gs := gs) (op := op) hH.1 hRS.2.1 (fun m hm => (hF rfl m hm).1)
      obtain ⟨v, nd', x', i1, i2⟩ := z_pb_L (gs := gs') (t := nI 0) hs hj hH hRS (hF rfl) e2 256 1000 0 0 nd x (by omega) (by omega) (by omega)
      refine ⟨0, v, v, nI 0, gs', op', nd', x', ?_, ?_, EK.of (by simp), fun _ => rfl⟩
      · refine ob hS1 ?_
        refine ob h1 ?_
        refine ob hsi ?_
        refine ob e1 ?_
        exact i1
      · refine ob hS2 ?_
        refine (if_neg n10).trans ?_
        refine ob h2 ?_
        refine (if_neg n10).trans ?_
        refine ob (hR.has hs) ?_
        refine (if_neg n10).trans ?_
        refine (if_pos rfl).trans ?_
        exact i2
  · refine ⟨1, 0, 0, nI 1, gs, op, nd, x, ?_, ?_, EK.of (by simp), fun h => by omega⟩
    · refine ob hS1 ?_
      exact ob h1 rfl
    · refine ob hS2 ?_
      refine (if_neg n10).trans ?_
      refine ob h2 ?_
      refine (if_pos rfl).trans ?_
      exact if_neg n10
/-! member -/
theorem cnt_compl (A B : Nat → Bool) : ∀ k s, cntP A s k = cntP (fun p => A p && B p) s k + cntP (fun p => A p && !B p) s k := by
  intro k
  induction k with
  | zero => intro s; rfl
  | succ k ih =>
    intro s
    rw [cntP_s, cntP_s, cntP_s, ih (s + 1)]
    cases A s <;> cases B s <;> simp <;> omega
theorem z_mem73 {w cm vs es : Nat → Nat} {s c fi th ep m v : Nat} {thr : Int32} {K : Int32 → Int32 → Int32 → Option (Int32 × Int32)} (hs : s < 4) (hm : m < 8) (hR : RSl w s c fi th ep cm vs es) (hv : v = 2 ∨ v = 3) : ∀ k n i acc, i + k = 3 → k < n → F_X11_member_L73 (L w) (nI m) (nI v) K n thr (nI acc) (nI s) (nI (3 * m + 1 + i)) = K thr (nI (acc + cntP (fun p => decide (es p ≠ 0) && (decide (v = 2) || !decide (S_state th ep cm (vs p) (es p) p = 0))) (3 * m + 1 + i) k)) (nI (s + 1)) := by
  intro k
  induction k with
  | zero =>
    intro n i acc hi hn
    obtain ⟨n, rfl⟩ := z_fuel hn
    have e7 : nI 3 * nI m + nI 3 = nI (3 * m + 3) := by rw [pk_mul, nI_add]
    rw [F_X11_member_L73]
    refine (if_pos (show nI 3 * nI m + nI 3 < nI (3 * m + 1 + i) by rw [e7]; exact nI_lt (by omega) (by omega))).trans ?_
    rw [show nI s + 1 = nI (s + 1) from nI_1 s]
    rfl
  | succ k ih =>
    intro n i acc hi hn
    obtain ⟨n, rfl⟩ := z_fuel (show 0 < n by omega)
    have hp1 : 1 ≤ 3 * m + 1 + i := by omega
    have hp2 : 3 * m + 1 + i ≤ 24 := by omega
    have e7 : nI 3 * nI m + nI 3 = nI (3 * m + 3) := by rw [pk_mul, nI_add]
    have hhs := hR.2.2.1.has hs hp1 hp2
    have hst := @S_state_lt cm th ep (vs (3 * m + 1 + i)) (es (3 * m + 1 + i)) (3 * m + 1 + i)
    rw [F_X11_member_L73]
    refine (if_neg (show ¬ nI 3 * nI m + nI 3 < nI (3 * m + 1 + i) by rw [e7]; exact nI_nlt (by omega) (by omega))).trans ?_
    refine ob hhs ?_
    unfold F_X11_member_L115 F_X11_member_L111 F_X11_member_L116
    rw [show nI (3 * m + 1 + i) + 1 = nI (3 * m + 1 + (i + 1)) from nI_1 _, show nI acc + 1 = nI (acc + 1) from nI_1 acc, show nI acc + 0 = nI (acc + 0) from nI_add acc 0, ih n (i + 1) (acc + 0) (by omega) (by omega), ih n (i + 1) (acc + 1) (by omega) (by omega), cntP_s, show 3 * m + 1 + i + 1 = 3 * m + 1 + (i + 1) by omega]
    by_cases h0 : es (3 * m + 1 + i) = 0
    · rw [decide_eq_false (show ¬ es (3 * m + 1 + i) ≠ 0 by simp [h0])]
      refine (if_pos (show nI false.toNat = nI 0 from rfl)).trans ?_
      simp
    · rw [decide_eq_true h0]
      refine (if_neg (show ¬ nI true.toNat = nI 0 by decide)).trans ?_
      rcases hv with rfl | rfl
      · refine (if_pos (show nI 2 = nI 2 from rfl)).trans ?_
        simp [Nat.add_assoc]
      · refine (if_neg (show ¬ nI 3 = nI 2 by decide)).trans ?_
        have hfi : fi = 1 := by
          have := hR.1
          have : ¬ fi = 0 := fun h => h0 (hR.2.2.2.2.2.1 h _ hp1 hp2)
          omega
        subst hfi
        refine ob ((hR.2.2.2.2.2.2 rfl).st hs hp1 hp2) ?_
        by_cases h3 : S_state th ep cm (vs (3 * m + 1 + i)) (es (3 * m + 1 + i)) (3 * m + 1 + i) = 0
        · rw [h3]
          refine (if_pos (show nI 0 = nI 0 from rfl)).trans ?_
          simp
        · refine (if_neg (show ¬ nI _ = nI 0 by rw [q_eqI (by omega) (by omega)]; exact h3)).trans ?_
          rw [decide_eq_false h3]
          show K thr (nI (acc + 1 + _)) _ = K thr (nI (acc + (1 + _))) _
          rw [Nat.add_assoc acc 1]
theorem z_mem60 {w : Nat → Nat} {fi th ep : Nat → Nat} {cm vs es : Nat → Nat → Nat} {c m v : Nat} {thr : Int32} (hm : m < 8) (hR : ∀ s, s < 4 → RSl w s c (fi s) (th s) (ep s) (cm s) (vs s) (es s)) (hv : v = 2 ∨ v = 3) : ∀ k n s acc, s + k = 4 → k < n → F_X11_member_L60 (L w) (nI m) (nI v) n thr (nI acc) (nI s) = some (nI (acc + S_sum (fun s => cntP (fun p => decide (es s p ≠ 0) && (decide (v = 2) || !decide (S_state (th s) (ep s) (cm s) (vs s p) (es s p) p = 0))) (1 + 3 * m) 3) k s), nI 0) := by
  intro k
  induction k with
  | zero =>
    intro n s acc hs hn
    obtain ⟨n, rfl⟩ := z_fuel hn
    rw [F_X11_member_L60]
    refine (if_pos (show nI 4 ≤ nI s from nI_le (by omega) (by omega))).trans ?_
    rfl
  | succ k ih =>
    intro n s acc hs hn
    obtain ⟨n, rfl⟩ := z_fuel (show 0 < n by omega)
    have h3 := z_mem73 (thr := thr) (K := F_X11_member_L60 (L w) (nI m) (nI v) n) (show s < 4 by omega) hm (hR s (by omega)) hv 3 1000 0 acc (by omega) (by omega)
    have e7 : nI 3 * nI m + nI 1 = nI (3 * m + 1 + 0) := by rw [pk_mul, nI_add]
    rw [F_X11_member_L60]
    refine (if_neg (show ¬ nI 4 ≤ nI s from nI_ge (by omega) (by omega))).trans ?_
    have e8 : (3 : Int32) * nI m + 1 = nI (3 * m + 1 + 0) := e7
    rw [e8, h3, ih n (s + 1) _ (by omega) (by omega), show 3 * m + 1 + 0 = 1 + 3 * m by omega, Nat.add_assoc]
    rfl
theorem z_memX {vs es cm : Nat → Nat} {th ep m : Nat} (hm : m < 8) (ok : okS th ep cm vs es) : F_X7_shareCount (L es) (nI 1 <<< (nI m &&& nI 31)) = some (nI (cntP (fun p => decide (es p ≠ 0)) (1 + 3 * m) 3)) ∧ F_X7_shareCount_ (nI th) (nI ep) (L cm) (L vs) (L es) (nI 1 <<< (nI m &&& nI 31)) (nI 0) = some (nI (cntP (fun p => decide (es p ≠ 0) && decide (S_state th ep cm (vs p) (es p) p = 0)) (1 + 3 * m) 3)) := by
  rw [q_shl1 m hm, z_shareCount (q_m256 m hm) ok.2.2.2.2, z_shareCount_ ok (q_m256 m hm) (by omega)]
  have hb : (2 ^ m).testBit m = true := by rw [q_2m m hm m hm]; simp
  have g1 := cnt_grp (P := fun p => decide (es p ≠ 0)) hm (fun j => (2 ^ m).testBit j) (fun i hi hne => by show (2 ^ m).testBit i = false; rw [q_2m m hm i hi]; simp [hne])
  have g2 := cnt_grp (P := fun p => decide (es p ≠ 0) && decide (S_state th ep cm (vs p) (es p) p = 0)) hm (fun j => (2 ^ m).testBit j) (fun i hi hne => by show (2 ^ m).testBit i = false; rw [q_2m m hm i hi]; simp [hne])
  simp only [hb, Bool.true_and] at g1 g2
  exact ⟨congrArg (fun x => some (nI x)) g1, congrArg (fun x => some (nI x)) g2⟩
theorem m_member {w wt : Nat → Nat} {fi th ep : Nat → Nat} {cm vs es : Nat → Nat → Nat} {pr c : Nat} {t x y : Int32} (hH : HW w pr wt) (hR : ∀ s, s < 4 → RSl w s c (fi s) (th s) (ep s) (cm s) (vs s) (es s)) :
    ∃ e r b k, F_X10_member (nI pr) (L wt) (nI (th 0)) (nI (ep 0)) (L (cm 0)) (L (vs 0)) (L (es 0)) (nI (th 1)) (nI (ep 1)) (L (cm 1)) (L (vs 1)) (L (es 1)) (nI (th 2)) (nI (ep 2)) (L (cm 2)) (L (vs 2)) (L (es 2)) (nI (th 3)) (nI (ep 3)) (L (cm 3)) (L (vs 3)) (L (es 3)) x y = some (e, r) ∧ F_X11_member t (L w) x y = some (b, k) ∧ EK [(0, 0), (1, 1), (2, 2)] e k ∧ (e = 0 → r = b) := by
  have n10 : ¬ nI 1 = nI 0 := by decide
  unfold F_X10_member F_X10_member_L47 F_X10_member_L122 F_X11_member F_X11_member_L48
  rcases a_member x with ⟨m, hm, rfl, h1, h2⟩ | ⟨h1, h2⟩
  · rcases a_what y 3 (by omega) with ⟨v, hv, rfl, h3, h4⟩ | ⟨h3, h4⟩
    · have hv4 : v = 0 ∨ v = 1 ∨ v = 2 ∨ v = 3 := by omega
      have hpr := hH.1
      obtain ⟨b1, b2, b3⟩ := hH.2 m hm
      have X0 := z_memX (vs := vs 0) (es := es 0) (cm := cm 0) (th := th 0) (ep := ep 0) hm (hR 0 (by omega)).2.2.2.1
      have X1 := z_memX (vs := vs 1) (es := es 1) (cm := cm 1) (th := th 1) (ep := ep 1) hm (hR 1 (by omega)).2.2.2.1
      have X2 := z_memX (vs := vs 2) (es := es 2) (cm := cm 2) (th := th 2) (ep := ep 2) hm (hR 2 (by omega)).2.2.2.1
      have X3 := z_memX (vs := vs 3) (es := es 3) (cm := cm 3) (th := th 3) (ep := ep 3) hm (hR 3 (by omega)).2.2.2.1
      have M := fun v hv => z_mem60 (v := v) (thr := t) hm hR hv 4 1000 0 0 (by omega) (by omega)
      have C := fun s => cnt_compl (fun p => decide (es s p ≠ 0)) (fun p => decide (S_state (th s) (ep s) (cm s) (vs s p) (es s p) p = 0)) 3 (1 + 3 * m)
      rcases hv4 with rfl | rfl | rfl | rfl
      · refine ⟨0, nI (wt m), nI (wt m), nI 0, ?_, ?_, EK.of (by simp), fun _ => rfl⟩
        · refine ob h1 ?_
          refine (if_pos (show (0 : Nat) = 0 from rfl)).trans ?_
          refine ob h3 ?_
          refine (if_pos (show (0 : Nat) = 0 from rfl)).trans ?_
          refine (if_pos (show nI 0 = nI 0 from rfl)).trans ?_
          rw [q_gi hm (by omega), q_gg, q_cl (by omega)]
          rfl
        · refine ob h2 ?_
          refine (if_neg n10).trans ?_
          refine ob h4 ?_
          refine (if_neg n10).trans ?_
          refine (if_neg (show ¬ nI 2 ≤ nI 0 by decide)).trans ?_
          refine (if_pos (show nI 0 = nI 0 from rfl)).trans ?_
          have e8 : (1 : Int32) + nI m = nI (1 + m) := nI_add 1 m
          rw [e8, q_gi (show 1 + m < 534 by omega) (by omega), q_gg, q_cl (by omega), L_app, b2]
          rfl
      · refine ⟨0, nI (pr.testBit m).toNat, nI (pr.testBit m).toNat, nI 0, ?_, ?_, EK.of (by simp), fun _ => rfl⟩
        · refine ob h1 ?_
          refine (if_pos (show (0 : Nat) = 0 from rfl)).trans ?_
          refine ob h3 ?_
          refine (if_pos (show (0 : Nat) = 0 from rfl)).trans ?_
          refine (if_neg (show ¬ nI 1 = nI 0 by decide)).trans ?_
          refine (if_pos (show nI 1 = nI 1 from rfl)).trans ?_
          refine ob (z_contains (a := pr) (k := m) (by omega) (by omega)) ?_
          cases pr.testBit m with
          | false => exact if_pos rfl
          | true => exact if_neg (show ¬ nI true.toNat = nI 0 by decide)
        · refine ob h2 ?_
          refine (if_neg n10).trans ?_
          refine ob h4 ?_
          refine (if_neg n10).trans ?_
          refine (if_neg (show ¬ nI 2 ≤ nI 1 by decide)).trans ?_
          refine (if_neg (show ¬ nI 1 = nI 0 by decide)).trans ?_
          have e8 : (9 : Int32) + nI m = nI (9 + m) := nI_add 9 m
          rw [e8, q_gi (show 9 + m < 534 by omega) (by omega), q_gg, q_cl (by omega), L_app, b1]
          rfl
      · have M2 := M 2 (Or.inl rfl)
        refine ⟨0, nI (0 + (cntP (fun p => decide (es 0 p ≠ 0)) (1 + 3 * m) 3 + (cntP (fun p => decide (es 1 p ≠ 0)) (1 + 3 * m) 3 + (cntP (fun p => decide (es 2 p ≠ 0)) (1 + 3 * m) 3 + (cntP (fun p => decide (es 3 p ≠ 0)) (1 + 3 * m) 3 + 0))))), nI (0 + (cntP (fun p => decide (es 0 p ≠ 0)) (1 + 3 * m) 3 + (cntP (fun p => decide (es 1 p ≠ 0)) (1 + 3 * m) 3 + (cntP (fun p => decide (es 2 p ≠ 0)) (1 + 3 * m) 3 + (cntP (fun p => decide (es 3 p ≠ 0)) (1 + 3 * m) 3 + 0))))), nI 0, ?_, ?_, EK.of (by simp), fun _ => rfl⟩
        · refine ob h1 ?_
          refine (if_pos (show (0 : Nat) = 0 from rfl)).trans ?_
          refine ob h3 ?_
          refine (if_pos (show (0 : Nat) = 0 from rfl)).trans ?_
          refine (if_neg (show ¬ nI 2 = nI 0 by decide)).trans ?_
          refine (if_neg (show ¬ nI 2 = nI 1 by decide)).trans ?_
          refine ob X0.1 ?_
          refine ob X0.2 ?_
          refine ob X1.1 ?_
          refine ob X1.2 ?_
          refine ob X2.1 ?_
          refine ob X2.2 ?_
          refine ob X3.1 ?_
          refine ob X3.2 ?_
          refine (if_pos (show nI 2 = nI 2 from rfl)).trans ?_
          show some (0, nI 0 + nI _ + nI _ + nI _ + nI _) = _
          rw [nI_add, nI_add, nI_add, nI_add]
          congr 3
          omega
        · refine ob h2 ?_
          refine (if_neg n10).trans ?_
          refine ob h4 ?_
          refine (if_neg n10).trans ?_
          refine (if_pos (show nI 2 ≤ nI 2 by decide)).trans ?_
          refine Eq.trans M2 ?_
          simp only [decide_true, Bool.true_or, Bool.and_true]
          rfl
      · have M2 := M 3 (Or.inr rfl)
        refine ⟨0, nI (0 + (cntP (fun p => decide (es 0 p ≠ 0) && !decide (S_state (th 0) (ep 0) (cm 0) (vs 0 p) (es 0 p) p = 0)) (1 + 3 * m) 3 + (cntP (fun p => decide (es 1 p ≠ 0) && !decide (S_state (th 1) (ep 1) (cm 1) (vs 1 p) (es 1 p) p = 0)) (1 + 3 * m) 3 + (cntP (fun p => decide (es 2 p ≠ 0) && !decide (S_state (th 2) (ep 2) (cm 2) (vs 2 p) (es 2 p) p = 0)) (1 + 3 * m) 3 + (cntP (fun p => decide (es 3 p ≠ 0) && !decide (S_state (th 3) (ep 3) (cm 3) (vs 3 p) (es 3 p) p = 0)) (1 + 3 * m) 3 + 0))))), nI (0 + (cntP (fun p => decide (es 0 p ≠ 0) && !decide (S_state (th 0) (ep 0) (cm 0) (vs 0 p) (es 0 p) p = 0)) (1 + 3 * m) 3 + (cntP (fun p => decide (es 1 p ≠ 0) && !decide (S_state (th 1) (ep 1) (cm 1) (vs 1 p) (es 1 p) p = 0)) (1 + 3 * m) 3 + (cntP (fun p => decide (es 2 p ≠ 0) && !decide (S_state (th 2) (ep 2) (cm 2) (vs 2 p) (es 2 p) p = 0)) (1 + 3 * m) 3 + (cntP (fun p => decide (es 3 p ≠ 0) && !decide (S_state (th 3) (ep 3) (cm 3) (vs 3 p) (es 3 p) p = 0)) (1 + 3 * m) 3 + 0))))), nI 0, ?_, ?_, EK.of (by simp), fun _ => rfl⟩
        · refine ob h1 ?_
          refine (if_pos (show (0 : Nat) = 0 from rfl)).trans ?_
          refine ob h3 ?_
          refine (if_pos (show (0 : Nat) = 0 from rfl)).trans ?_
          refine (if_neg (show ¬ nI 3 = nI 0 by decide)).trans ?_
          refine (if_neg (show ¬ nI 3 = nI 1 by decide)).trans ?_
          refine ob X0.1 ?_
          refine ob X0.2 ?_
          refine ob X1.1 ?_
          refine ob X1.2 ?_
          refine ob X2.1 ?_
          refine ob X2.2 ?_
          refine ob X3.1 ?_
          refine ob X3.2 ?_
          refine (if_neg (show ¬ nI 3 = nI 2 by decide)).trans ?_
          show some (0, (nI 0 + nI _ + nI _ + nI _ + nI _) - (nI 0 + nI _ + nI _ + nI _ + nI _)) = _
          have C0 := C 0
          have C1 := C 1
          have C2 := C 2
          have C3 := C 3
          rw [nI_add, nI_add, nI_add, nI_add, nI_add, nI_add, nI_add, nI_add, pk_sub (by omega)]
          congr 3
          omega
        · refine ob h2 ?_
          refine (if_neg n10).trans ?_
          refine ob h4 ?_
          refine (if_neg n10).trans ?_
          refine (if_pos (show nI 2 ≤ nI 3 by decide)).trans ?_
          refine Eq.trans M2 ?_
          simp only [show decide ((3 : Nat) = 2) = false from rfl, Bool.false_or]
          rfl
    · refine ⟨2, 0, 0, nI 2, ?_, ?_, EK.of (by simp), fun h => by omega⟩
      · refine ob h1 ?_
        exact ob h3 rfl
      · refine ob h2 ?_
        refine (if_neg n10).trans ?_
        refine ob h4 ?_
        exact if_pos rfl
  · refine ⟨1, 0, 0, nI 1, ?_, ?_, EK.of (by simp), fun h => by omega⟩
    · refine ob h1 rfl
    · refine ob h2 ?_
      exact if_pos rfl
