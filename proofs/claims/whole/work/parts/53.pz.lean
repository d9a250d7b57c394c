/-! PURE: open, combine, agree, expel -/
theorem z_note_ob {le ec code : Nat} {ev : Nat → Nat} {w : Nat → Nat} (h : REv w le ec ev) : F_X9_note (nI le) (nI ec) (L ev) (nI code) = some (nI ((le + 1) % 20), nI (min (ec + 1) 20), L (evN le code ev)) := z_note h.1 h.2.1
theorem q_adds (a s : Nat) : nI a + nI s = nI (a + s) := nI_add a s
/-- the head of a call on a slot with a set: both sides come to the same place -/
theorem m_open {w wt ev cm vs es nd ch rc rd cd dt : Nat → Nat} {s c pr le ec fi th ep rs : Nat} {t x y : Int32} {rule : Option Nat} {ful : Nat → Int32} {al : Nat → Bool} (hs : s < 4) (hH : HW w pr wt) (hE : REv w le ec ev) (hR : RSl w s c fi th ep cm vs es) (hF : fi = 1 → HF w s rule ful al) (hRR : RRep rs rc rd cd dt) (hS1 : F_X10_checkSlot (nI s) = some 0) (hS2 : F_X11_isSlot (nI s) = some (nI 1)) :
    ∃ e r b k ch' le' ec' ev' rs' rc' rd' w' nd' nm cd' dt',
      F_X10_open (L ch) (nI pr) (nI le) (nI ec) (L ev) (nI fi) (nI th) (nI ep) rule (L cm) (L vs) (L es) (nI rs) (L rc) (L rd) ful (nI s) y = some (e, r, L ch', nI le', nI ec', L ev', nI rs', L rc', L rd') ∧
      F_X11_open t (L w) (L nd) x (L cd) (L dt) (nI rs) (nI s) y = some (b, k, L w', L nd', nm, L cd', L dt', nI rs') ∧ EK [(0, 0), (1, 1), (2, 2), (3, 3), (4, 4)] e k ∧ (e = 0 → r = b) ∧ REv w' le' ec' ev' ∧ RRep rs' rc' rd' cd' dt' ∧ ∀ i, (i < 17 ∨ 37 < i) → w' i = w i := by
  have hf := hR.1
  have hsi := z_secretIn hs hf
  have n10 : ¬ nI 1 = nI 0 := by decide
  have n40 : ¬ nI 4 = nI 0 := by decide
  unfold F_X10_open F_X11_open
  rcases a_set y with ⟨m, hm, rfl, h1, h2⟩ | ⟨h1, h2⟩
  · have hcase : fi = 0 ∨ fi = 1 := by omega
    rcases hcase with rfl | rfl
    · refine ⟨3, 0, 0, nI 3, ch, le, ec, ev, rs, rc, rd, w, nd, x, cd, dt, ?_, ?_, EK.of (by simp), fun h => by omega, hE, hRR, fun i _ => rfl⟩
      · refine ob hS1 ?_
        refine ob h1 ?_
        exact ob hsi rfl
      · have hl : F_X11_lacksOpen (L w) (L nd) x (L cd) (L dt) (nI rs) (nI s) (nI m) = some (nI 3, L nd, x, L cd, L dt, nI rs) := by
          unfold F_X11_lacksOpen
          refine ob hS2 ?_
          refine (if_neg n10).trans ?_
          refine ob h2 ?_
          refine (if_neg n10).trans ?_
          refine ob (hR.has hs) ?_
          exact if_pos rfl
        refine ob hl ?_
        exact if_neg (show ¬ nI 3 = nI 0 by decide)
    · have hRS := hR.2.2.2.2.2.2 rfl
      have hth := hRS.2.1.1
      cases hO : OPn th ep cm vs es pr al m with
      | true =>
        obtain ⟨ch', nd', nm, e1, e2, e3⟩ := z_lack_ok (ch := ch) (nd := nd) (rc := rc) (rd := rd) (cd := cd) (dt := dt) (rs := rs) (x := x) hs hH hm hR (hF rfl) hS2 h2 hO
        obtain ⟨w2, k1, k2, k3⟩ := z_happens (code := 700 + s) hE
        have hno := z_note_ob (code := 700 + s) hE
        rw [← (show (700 : Int32) + nI s = nI (700 + s) from nI_add 700 s)] at k1 hno
        have hv := z_valueThrough (nd := ch') (x := 0) (by omega) hth (fun j hj => by have := e3 j hj; omega) hRS.2.1.2.2.2.1
        have hR2 : RS w2 s th ep cm vs es := hRS.of (fun i a b => k3 i (by simp only [ix] at *; omega)) (fun i a b => k3 i (by simp only [ix] at *; omega))
        have hva := z_valueAt (nd := nd') (x := 0) hs hR2.1 (by omega) hth (fun j hj => by have := e3 j hj; omega) hRS.2.1.2.2.2.1
        rw [← S_val_congr (nd := ch') (nd' := nd') 0 (fun j hj => (e3 j hj).1) (fun j _ => rfl) th 0 0 (by omega)] at hva
        refine ⟨0, nI (S_val ch' vs th 0 th 0 0), nI (S_val ch' vs th 0 th 0 0), nI 0, ch', (le + 1) % 20, min (ec + 1) 20, evN le (700 + s) ev, rs, rc, rd, w2, nd', nI nm, cd, dt, ?_, ?_, EK.of (by simp), fun _ => rfl, k2, hRR, k3⟩
        · refine ob hS1 ?_
          refine ob h1 ?_
          refine ob hsi ?_
          refine ob e1 ?_
          refine ob hno ?_
          exact ob hv rfl
        · refine ob e2 ?_
          refine (if_pos rfl).trans ?_
          refine ob k1 ?_
          refine ob (hR2.k hs) ?_
          exact ob hva rfl
      | false =>
        obtain ⟨ch', nd', nm, rs', rc', rd', cd', dt', e1, e2, e3⟩ := z_lack_no (ch := ch) (nd := nd) (rc := rc) (rd := rd) (cd := cd) (dt := dt) (rs := rs) (x := x) hs hH hm hR (hF rfl) hS2 h2 hO
        refine ⟨4, 0, 0, nI 4, ch', le, ec, ev, rs', rc', rd', w, nd', nI nm, cd', dt', ?_, ?_, EK.of (by simp), fun h => by omega, hE, e3, fun i _ => rfl⟩
        · refine ob hS1 ?_
          refine ob h1 ?_
          refine ob hsi ?_
          exact ob e1 rfl
        · refine ob e2 ?_
          exact if_neg n40
  · refine ⟨2, 0, 0, nI 2, ch, le, ec, ev, rs, rc, rd, w, nd, x, cd, dt, ?_, ?_, EK.of (by simp), fun h => by omega, hE, hRR, fun i _ => rfl⟩
    · refine ob hS1 ?_
      exact ob h1 rfl
    · have hl : F_X11_lacksOpen (L w) (L nd) x (L cd) (L dt) (nI rs) (nI s) y = some (nI 2, L nd, x, L cd, L dt, nI rs) := by
        unfold F_X11_lacksOpen
        refine ob hS2 ?_
        refine (if_neg n10).trans ?_
        refine ob h2 ?_
        exact if_pos rfl
      refine ob hl ?_
      exact if_neg (show ¬ nI 2 = nI 0 by decide)
/-! combine, agree -/
theorem RSl.lacksSet {w : Nat → Nat} {s c fi th ep m : Nat} {cm vs es : Nat → Nat} (h : RSl w s c fi th ep cm vs es) (hs : s < 4) (hi : F_X11_isSlot (nI s) = some (nI 1)) (h2 : F_X11_isSet (nI m) = some (nI 1)) : F_X11_lacksSet (L w) (nI s) (nI m) = some (nI (if fi = 0 then 3 else 0)) := by
  have hf := h.1
  have n10 : ¬ nI 1 = nI 0 := by decide
  unfold F_X11_lacksSet F_X11_lacksSet_L36
  refine ob hi ?_
  refine (if_neg n10).trans ?_
  refine ob h2 ?_
  refine (if_neg n10).trans ?_
  refine ob (h.has hs) ?_
  by_cases h0 : fi = 0
  · subst h0
    exact if_pos rfl
  · have : fi = 1 := by omega
    subst this
    exact if_neg n10
theorem lacksSet_no {w : Nat → Nat} {s : Nat} {y : Int32} (hi : F_X11_isSlot (nI s) = some (nI 1)) (h2 : F_X11_isSet y = some (nI 0)) : F_X11_lacksSet (L w) (nI s) y = some (nI 2) := by
  have n10 : ¬ nI 1 = nI 0 := by decide
  unfold F_X11_lacksSet F_X11_lacksSet_L36
  refine ob hi ?_
  refine (if_neg n10).trans ?_
  refine ob h2 ?_
  exact if_pos rfl
theorem m_combine {w cm vs es nd ch : Nat → Nat} {s c fi th ep : Nat} {t x y : Int32} (hs : s < 4) (hR : RSl w s c fi th ep cm vs es) (hS1 : F_X10_checkSlot (nI s) = some 0) (hS2 : F_X11_isSlot (nI s) = some (nI 1)) :
    ∃ e r b k ch' nd' nm, F_X10_combine (L ch) (nI fi) (nI th) (nI ep) (L cm) (L vs) (L es) (nI s) y = some (e, r, L ch') ∧ F_X11_combine t (L w) (L nd) x (nI s) y = some (b, k, L nd', nm) ∧ EK [(0, 0), (1, 1), (2, 2), (3, 3), (5, 4)] e k ∧ (e = 0 → r = b) := by
  have hf := hR.1
  have hsi := z_secretIn hs hf
  unfold F_X10_combine F_X11_combine F_X11_combine_L61
  rcases a_set y with ⟨m, hm, rfl, h1, h2⟩ | ⟨h1, h2⟩
  · have hl := hR.lacksSet hs hS2 h2
    have hcase : fi = 0 ∨ fi = 1 := by omega
    rcases hcase with rfl | rfl
    · refine ⟨3, 0, 0, nI 3, ch, nd, x, ?_, ?_, EK.of (by simp), fun h => by omega⟩
      · refine ob hS1 ?_
        refine ob h1 ?_
        exact ob hsi rfl
      · refine ob hl ?_
        exact if_neg (show ¬ nI 3 = nI 0 by decide)
    · have hRS := hR.2.2.2.2.2.2 rfl
      have hth := hRS.2.1.1
      obtain ⟨nd', g1, g2⟩ := z_tellNodes hs hRS hm false nd x
      obtain ⟨ch', c1, c2⟩ := z_choose hRS.2.1 hm false ch
      generalize hN : (S_nodes (chP th ep cm vs es m false) 1 24) = NL at g1 g2 c1 c2
      have hlen : NL.length ≤ 24 := by rw [← hN, S_nodes_len]; exact cntP_le _ 24 1
      by_cases hlt : th ≤ NL.length
      · have hmin : min th NL.length = th := by omega
        rw [hmin] at c1
        have hin : ∀ i, i < th → ch' i = nd' i ∧ 1 ≤ nd' i ∧ nd' i ≤ 24 := by
          intro i hi
          have a1 := S_nodes_in (chP th ep cm vs es m false) 24 1 i (by rw [hN]; omega)
          rw [hN] at a1
          rw [c2 i hi (by omega), g2 i (by omega)]
          exact ⟨rfl, by omega, by omega⟩
        have hv := z_valueThrough (nd := ch') (x := 0) (by omega) hth (fun j hj => by have := hin j hj; omega) hRS.2.1.2.2.2.1
        have hva := z_valueAt (nd := nd') (x := 0) hs hRS.1 (by omega) hth (fun j hj => by have := hin j hj; omega) hRS.2.1.2.2.2.1
        rw [← S_val_congr (nd := ch') (nd' := nd') 0 (fun j hj => (hin j hj).1) (fun j _ => rfl) th 0 0 (by omega)] at hva
        have hle : nI th ≤ nI NL.length := nI_le hlt (by omega)
        refine ⟨0, nI (S_val ch' vs th 0 th 0 0), nI (S_val ch' vs th 0 th 0 0), nI 0, ch', nd', nI NL.length, ?_, ?_, EK.of (by simp), fun _ => rfl⟩
        · refine ob hS1 ?_
          refine ob h1 ?_
          refine ob hsi ?_
          refine ob c1 ?_
          refine (if_pos (nI_le (Nat.le_refl th) (by omega))).trans ?_
          exact ob hv rfl
        · refine ob hl ?_
          refine (if_pos rfl).trans ?_
          refine ob g1 ?_
          refine ob (hRS.k hs) ?_
          refine (if_pos hle).trans ?_
          refine ob (hRS.k hs) ?_
          exact ob hva rfl
      · have hmin : min th NL.length = NL.length := by omega
        rw [hmin] at c1
        have hnle : ¬ nI th ≤ nI NL.length := nI_ge (by omega) (by omega)
        refine ⟨5, 0, 0, nI 4, ch', nd', nI NL.length, ?_, ?_, EK.of (by simp), fun h => by omega⟩
        · refine ob hS1 ?_
          refine ob h1 ?_
          refine ob hsi ?_
          refine ob c1 ?_
          exact if_neg hnle
        · refine ob hl ?_
          refine (if_pos rfl).trans ?_
          refine ob g1 ?_
          refine ob (hRS.k hs) ?_
          exact if_neg hnle
  · refine ⟨2, 0, 0, nI 2, ch, nd, x, ?_, ?_, EK.of (by simp), fun h => by omega⟩
    · refine ob hS1 ?_
      exact ob h1 rfl
    · refine ob (lacksSet_no hS2 h2) ?_
      exact if_neg (show ¬ nI 2 = nI 0 by decide)
theorem z_agX_L {vs es ch : Nat → Nat} {th m : Nat} (hth : th ≤ 8) (hm : m < 256) (hn : ∀ j, j < th → ch j ≤ 24) (hv : ∀ p, p ≤ 24 → vs p < 1019) (he : ∀ p, p ≤ 24 → es p < 10000) : ∀ k n p, p + k = 25 → 1 ≤ p → k < n → F_X10_agree_L33 (nI th) (L vs) (L es) (nI m) n (L ch) (nI p) = some (0, nI (((S_nodes (fun p => m.testBit ((p - 1) / 3) && decide (es p ≠ 0)) p k).all fun q => decide (S_val ch vs th q th 0 0 = vs q)).toNat), L ch) := by
  intro k
  induction k with
  | zero =>
    intro n p hp h1 hk
    obtain ⟨n, rfl⟩ := z_fuel hk
    have h0 : 24 < p := by omega
    rw [F_X10_agree_L33]
    simp (disch := omega) only [q_lit, q_ltI, h0, if_true]
    rfl
  | succ k ih =>
    intro n p hp h1 hk
    obtain ⟨n, rfl⟩ := z_fuel (show 0 < n by omega)
    have h0 : ¬ 24 < p := by omega
    have h24 : p ≤ 24 := by omega
    have h5 := he p h24
    have h6 := hv p h24
    have h7 := z_valueThrough (nd := ch) (x := p) h24 hth hn hv
    have h8 := S_val_lt ch vs th p th 0 0 (by omega)
    rw [F_X10_agree_L33]
    unfold F_X10_agree_L83
    simp (disch := omega) only [q_lit, q_ltI, h0, if_false, z_ownerOf, Option.bind_some, z_contains, z_holds, q_b0, h7, q_gi, q_gg, q_cl, L_app, q_eqI, nI_add]
    rw [ih n (p + 1) (by omega) (by omega) (by omega), S_nodes_s]
    cases hb : m.testBit ((p - 1) / 3) with
    | false => simp
    | true =>
      by_cases h2 : es p = 0
      · simp [h2]
      · by_cases h3 : S_val ch vs th p th 0 0 = vs p
        · simp [h2, h3]
        · simp [h2, h3]
theorem q_bool (b : Bool) : (nI b.toNat = nI 0) = (b = false) := q_b0 b
theorem z_ag11_L {w vs es nd : Nat → Nat} {s th : Nat} {thr : Int32} (hs : s < 4) (hR : RSh w s vs es) (hk1 : F_X11_of (L w) (nI s) (nI 1) = some (nI th)) (hth : th ≤ 8) (hn : ∀ j, j < th → 1 ≤ nd j ∧ nd j ≤ 24) (hv : ∀ p, p ≤ 24 → vs p < 1019) (NL : List Nat) (hNL : ∀ i, i < NL.length → nd i = NL.getD i 0 ∧ 1 ≤ NL.getD i 0 ∧ NL.getD i 0 ≤ 24) (hl : NL.length ≤ 24) : ∀ k n i (b : Bool), i + k = NL.length → k < n → F_X11_agree_L36 (L w) (nI s) n thr (L nd) (nI NL.length) (nI b.toNat) (nI i) = some (nI (b && (NL.drop i).all fun q => decide (S_val nd vs th q th 0 0 = vs q)).toNat, thr, L nd, nI NL.length) := by
  intro k
  induction k with
  | zero =>
    intro n i b hi hk
    obtain ⟨n, rfl⟩ := z_fuel hk
    have h0 : NL.length ≤ i := by omega
    rw [F_X11_agree_L36, List.drop_eq_nil_of_le h0]
    simp (disch := omega) only [q_leI, h0, if_true, q_narb, q_gg]
    simp
  | succ k ih =>
    intro n i b hi hk
    obtain ⟨n, rfl⟩ := z_fuel (show 0 < n by omega)
    have h0 : ¬ NL.length ≤ i := by omega
    obtain ⟨g1, g2, g3⟩ := hNL i (by omega)
    have h7 := z_valueAt (nd := nd) (x := nd i) hs hR (by omega) hth hn hv
    have h8 := S_val_lt nd vs th (nd i) th 0 0 (by omega)
    have h9 := hv (nd i) (by omega)
    have h10 := hR.v hs (show 1 ≤ nd i by omega) (show nd i ≤ 24 by omega)
    have hd : NL.drop i = nd i :: NL.drop (i + 1) := by
      rw [List.drop_eq_getElem_cons (by omega), g1]
      congr 1
      rw [List.getD_eq_getElem?_getD, List.getElem?_eq_getElem (by omega)]
      rfl
    rw [F_X11_agree_L36]
    unfold F_X11_agree_L87 F_X11_agree_L88
    simp (disch := omega) only [q_lit, q_leI, h0, if_false, q_b0, hk1, Option.bind_some, q_gi, q_gg, q_cl, L_app, h7, h10, q_eqI, nI_add]
    have e0 := ih n (i + 1) false (by omega) (by omega)
    have e1 := ih n (i + 1) true (by omega) (by omega)
    rw [show nI false.toNat = nI 0 from rfl] at e0
    rw [show nI true.toNat = nI 1 from rfl] at e1
    rw [e0, e1, hd, List.all_cons]
    cases b with
    | false => simp
    | true =>
      by_cases h3 : S_val nd vs th (nd i) th 0 0 = vs (nd i)
      · simp [h3]
      · simp [h3]
