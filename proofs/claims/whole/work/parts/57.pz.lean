/-! PURE: enroll, reshare, fulfils -/
theorem chP_good {th ep m p : Nat} {cm vs es : Nat → Nat} (h : chP th ep cm vs es m true p = true) : es p ≠ 0 ∧ S_state th ep cm (vs p) (es p) p = 0 := by
  unfold chP at h
  simp only [Bool.not_true, Bool.false_or, Bool.and_eq_true, decide_eq_true_eq] at h
  exact h.2
theorem lacksOpen_empty {w nd : Nat → Nat} {s m c th ep : Nat} {cm vs es : Nat → Nat} {x lm : Int32} {cd dt : Nat → Int32} (hs : s < 4) (hR : RSl w s c 0 th ep cm vs es) (hS2 : F_X11_isSlot (nI s) = some (nI 1)) (h2 : F_X11_isSet (nI m) = some (nI 1)) : F_X11_lacksOpen (L w) (L nd) x cd dt lm (nI s) (nI m) = some (nI 3, L nd, x, cd, dt, lm) := by
  have n10 : ¬ nI 1 = nI 0 := by decide
  unfold F_X11_lacksOpen
  refine ob hS2 ?_
  refine (if_neg n10).trans ?_
  refine ob h2 ?_
  refine (if_neg n10).trans ?_
  refine ob (hR.has hs) ?_
  exact if_pos rfl
theorem lacksOpen_set {w nd : Nat → Nat} {s : Nat} {x y lm : Int32} {cd dt : Nat → Int32} (hS2 : F_X11_isSlot (nI s) = some (nI 1)) (h2 : F_X11_isSet y = some (nI 0)) : F_X11_lacksOpen (L w) (L nd) x cd dt lm (nI s) y = some (nI 2, L nd, x, cd, dt, lm) := by
  have n10 : ¬ nI 1 = nI 0 := by decide
  unfold F_X11_lacksOpen
  refine ob hS2 ?_
  refine (if_neg n10).trans ?_
  refine ob h2 ?_
  exact if_pos rfl
theorem m_enroll {w wt ev cm vs es nd ch rc rd cd dt gv : Nat → Nat} {s c pr le ec fi th ep rs : Nat} {t x y u : Int32} {rule : Option Nat} {ful : Nat → Int32} {al : Nat → Bool} (hs : s < 4) (hH : HW w pr wt) (hE : REv w le ec ev) (hR : RSl w s c fi th ep cm vs es) (hF : fi = 1 → HF w s rule ful al) (hRR : RRep rs rc rd cd dt) (hS1 : F_X10_checkSlot (nI s) = some 0) (hS2 : F_X11_isSlot (nI s) = some (nI 1)) :
    ∃ e r b k ch' le' ec' ev' vs' es' rs' rc' rd' w' nd' nm cd' dt' gv',
      F_X10_enroll (L ch) (nI pr) (nI le) (nI ec) (L wt) (L ev) (nI fi) (nI th) (nI ep) rule (L cm) (L vs) (L es) (nI rs) (L rc) (L rd) ful (nI s) y u = some (e, r, L ch', nI le', nI ec', L ev', L vs', L es', nI rs', L rc', L rd') ∧
      F_X11_enroll t (L w) (L nd) x (L cd) (L dt) (nI rs) (L gv) (nI s) y u = some (b, k, L w', L nd', nm, L cd', L dt', nI rs', L gv') ∧ EK [(0, 0), (1, 1), (2, 2), (3, 3), (4, 4)] e k ∧ (e = 0 → r = b) ∧ REv w' le' ec' ev' ∧ RSl w' s (c + 1) fi th ep cm vs' es' ∧ RRep rs' rc' rd' cd' dt' ∧ ∀ i, (i < 17 ∨ 37 < i) → (i < ix s 52 ∨ ix s 123 < i) → w' i = w i := by
  have hf := hR.1
  have hsi := z_secretIn hs hf
  have hsame := hR.of (c' := c + 1) (by omega) (fun _ _ _ => rfl) (fun _ _ _ => rfl)
  have n10 : ¬ nI 1 = nI 0 := by decide
  unfold F_X10_enroll F_X11_enroll F_X11_enroll_L14
  rcases a_member u with ⟨j, hj, rfl, h3, h4⟩ | ⟨h3, h4⟩
  · rcases a_set y with ⟨m, hm, rfl, h1, h2⟩ | ⟨h1, h2⟩
    · have hcase : fi = 0 ∨ fi = 1 := by omega
      rcases hcase with rfl | rfl
      · refine ⟨3, 0, 0, nI 3, ch, le, ec, ev, vs, es, rs, rc, rd, w, nd, x, cd, dt, gv, ?_, ?_, EK.of (by simp), fun h => by omega, hE, hsame, hRR, fun _ _ _ => rfl⟩
        · refine ob hS1 ?_
          refine ob h3 ?_
          refine ob h1 ?_
          exact ob hsi rfl
        · refine ob hS2 ?_
          refine (if_neg n10).trans ?_
          refine ob h4 ?_
          refine (if_neg n10).trans ?_
          refine ob (lacksOpen_empty hs hR hS2 h2) ?_
          exact if_neg (show ¬ nI 3 = nI 0 by decide)
      · have hRS := hR.2.2.2.2.2.2 rfl
        have hth := hRS.2.1.1
        cases hO : OPn th ep cm vs es pr al m with
        | true =>
          obtain ⟨ch', nd', nm, e1, e2, e3⟩ := z_lack_ok (ch := ch) (nd := nd) (rc := rc) (rd := rd) (cd := cd) (dt := dt) (rs := rs) (x := x) hs hH hm hR (hF rfl) hS2 h2 hO
          have hwt := (hH.2 j hj).2.2
          have hng : ∀ j, j < th → 1 ≤ nd' j ∧ nd' j ≤ 24 := fun j hj => ⟨(e3 j hj).2.1, (e3 j hj).2.2.1⟩
          obtain ⟨gv', g1, g2, -⟩ := z_given (thr := t) (nm := nI nm) (lm := nI rs) (l5 := nI 0) (cd := L cd) (dt := L dt) hs hj hRS.1 (hRS.k hs) hth hng hRS.2.1.2.2.2.1 3 1000 0 gv (by omega) (by omega)
          obtain ⟨cnt', vs2, es2, w2, i1, i2, i3, i4, i5⟩ := z_enr (nd := nd') (t := t) (nm := nI nm) (lm := nI rs) (rs := nI rs) (cd := L cd) (dt := L dt) (rc := L rc) (rd := L rd) (ch := ch') (vs0 := vs) (gv := gv') hs hj hth (fun j hj => by have := e3 j hj; omega) (fun q hq => by rw [g2 q (by omega) hq]; exact (S_val_congr _ (fun j hj => (e3 j hj).1) (fun _ _ => rfl) th 0 0 (by omega)).symm) (wt j) 1000 0 0 vs es w (by omega) (by omega) (by omega) hR hH hE (fun _ _ => rfl) (fun i hi => by
            have h9 := e3 i hi
            rw [h9.1]
            have h8 := chP_good h9.2.2.2
            exact ⟨rfl, h8.1, h8.2⟩)
          refine ⟨0, nI cnt', nI cnt', nI 0, ch', (le + 1) % 20, min (ec + 1) 20, evN le (500 + 10 * s + j) ev, vs2, es2, rs, rc, rd, w2, nd', nI nm, cd, dt, gv', ?_, ?_, EK.of (by simp), fun _ => rfl, i4, i3.of (by omega) (fun _ _ _ => rfl) (fun _ _ _ => rfl), hRR, i5⟩
          · refine ob hS1 ?_
            refine ob h3 ?_
            refine ob h1 ?_
            refine ob hsi ?_
            refine ob e1 ?_
            exact i1
          · refine ob hS2 ?_
            refine (if_neg n10).trans ?_
            refine ob h4 ?_
            refine (if_neg n10).trans ?_
            refine ob e2 ?_
            refine (if_pos rfl).trans ?_
            exact g1.trans i2
        | false =>
          obtain ⟨ch', nd', nm, rs', rc', rd', cd', dt', e1, e2, e3⟩ := z_lack_no (ch := ch) (nd := nd) (rc := rc) (rd := rd) (cd := cd) (dt := dt) (rs := rs) (x := x) hs hH hm hR (hF rfl) hS2 h2 hO
          refine ⟨4, 0, 0, nI 4, ch', le, ec, ev, vs, es, rs', rc', rd', w, nd', nI nm, cd', dt', gv, ?_, ?_, EK.of (by simp), fun h => by omega, hE, hsame, e3, fun _ _ _ => rfl⟩
          · refine ob hS1 ?_
            refine ob h3 ?_
            refine ob h1 ?_
            refine ob hsi ?_
            exact ob e1 rfl
          · refine ob hS2 ?_
            refine (if_neg n10).trans ?_
            refine ob h4 ?_
            refine (if_neg n10).trans ?_
            refine ob e2 ?_
            exact if_neg (show ¬ nI 4 = nI 0 by decide)
    · refine ⟨2, 0, 0, nI 2, ch, le, ec, ev, vs, es, rs, rc, rd, w, nd, x, cd, dt, gv, ?_, ?_, EK.of (by simp), fun h => by omega, hE, hsame, hRR, fun _ _ _ => rfl⟩
      · refine ob hS1 ?_
        refine ob h3 ?_
        exact ob h1 rfl
      · refine ob hS2 ?_
        refine (if_neg n10).trans ?_
        refine ob h4 ?_
        refine (if_neg n10).trans ?_
        refine ob (lacksOpen_set hS2 h2) ?_
        exact if_neg (show ¬ nI 2 = nI 0 by decide)
  · refine ⟨1, 0, 0, nI 1, ch, le, ec, ev, vs, es, rs, rc, rd, w, nd, x, cd, dt, gv, ?_, ?_, EK.of (by simp), fun h => by omega, hE, hsame, hRR, fun _ _ _ => rfl⟩
    · refine ob hS1 ?_
      exact ob h3 rfl
    · refine ob hS2 ?_
      refine (if_neg n10).trans ?_
      refine ob h4 ?_
      exact if_pos rfl
theorem m_fulfils {w cm vs es : Nat → Nat} {s c fi th ep : Nat} {t y : Int32} {rule : Option Nat} {ful : Nat → Int32} {al : Nat → Bool} (hs : s < 4) (hR : RSl w s c fi th ep cm vs es) (hF : fi = 1 → HF w s rule ful al) (hS1 : F_X10_checkSlot (nI s) = some 0) (hS2 : F_X11_isSlot (nI s) = some (nI 1)) :
    ∃ e r b k, F_X10_fulfils (nI fi) rule ful (nI s) y = some (e, r) ∧ F_X11_fulfils t (L w) (nI s) y = some (b, k) ∧ EK [(0, 0), (1, 1), (2, 2), (3, 3)] e k ∧ (e = 0 → r = b ∧ ∃ b' : Bool, r = nI b'.toNat) := by
  have hf := hR.1
  have hsi := z_secretIn hs hf
  unfold F_X10_fulfils F_X11_fulfils F_X11_fulfils_L30 F_X11_fulfils_L31
  rcases a_set y with ⟨m, hm, rfl, h1, h2⟩ | ⟨h1, h2⟩
  · have hl := hR.lacksSet hs hS2 h2
    have hcase : fi = 0 ∨ fi = 1 := by omega
    rcases hcase with rfl | rfl
    · refine ⟨3, 0, 0, nI 3, ?_, ?_, EK.of (by simp), fun h => by omega⟩
      · refine ob hS1 ?_
        refine ob h1 ?_
        exact ob hsi rfl
      · refine ob hl ?_
        exact if_neg (show ¬ nI 3 = nI 0 by decide)
    · obtain ⟨a1, a2⟩ := hF rfl m hm
      refine ⟨0, nI (al m).toNat, nI (al m).toNat, nI 0, ?_, ?_, EK.of (by simp), fun _ => ⟨rfl, _, rfl⟩⟩
      · refine ob hS1 ?_
        refine ob h1 ?_
        refine ob hsi ?_
        refine ob a1 ?_
        rw [q_narb, q_gg]
      · refine ob hl ?_
        refine (if_pos rfl).trans ?_
        refine ob a2 ?_
        cases al m with
        | false => exact if_pos rfl
        | true => exact if_neg (show ¬ nI true.toNat = nI 0 by decide)
  · refine ⟨2, 0, 0, nI 2, ?_, ?_, EK.of (by simp), fun h => by omega⟩
    · refine ob hS1 ?_
      exact ob h1 rfl
    · refine ob (lacksSet_no hS2 h2) ?_
      exact if_neg (show ¬ nI 2 = nI 0 by decide)
theorem m_reshare {w wt ev cm vs es nd ch rc rd cd dt co cf : Nat → Nat} {s c pr le ec fi th ep rs : Nat} {t x y u z : Int32} {rule : Option Nat} {ful : Nat → Int32} {al : Nat → Bool} (hs : s < 4) (hc : c < 8000) (hz : z = nI (w 0)) (hH : HW w pr wt) (hE : REv w le ec ev) (hR : RSl w s c fi th ep cm vs es) (hF : fi = 1 → HF w s rule ful al) (hRR : RRep rs rc rd cd dt) (hS1 : F_X10_checkSlot (nI s) = some 0) (hS2 : F_X11_isSlot (nI s) = some (nI 1)) :
    ∃ e r b k co' ch' z' le' ec' ev' th' ep' cm' vs' es' rs' rc' rd' w' cf' nd' nm cd' dt',
      F_X10_reshare (L co) (L ch) z (nI pr) (nI le) (nI ec) (L wt) (L ev) (nI fi) (nI th) (nI ep) rule (L cm) (L vs) (L es) (nI rs) (L rc) (L rd) ful (nI s) y u = some (e, r, L co', L ch', z', nI le', nI ec', L ev', nI th', nI ep', L cm', L vs', L es', nI rs', L rc', L rd') ∧
      F_X11_reshare t (L w) (L cf) (L nd) x (L cd) (L dt) (nI rs) (nI s) y u = some (b, k, L w', L cf', L nd', nm, L cd', L dt', nI rs') ∧ EK [(0, 0), (1, 1), (2, 2), (3, 3), (4, 4), (5, 5)] e k ∧ (e = 0 → r = b) ∧ z' = nI (w' 0) ∧ HW w' pr wt ∧ REv w' le' ec' ev' ∧ RSl w' s (c + 1) fi th' ep' cm' vs' es' ∧ RRep rs' rc' rd' cd' dt' ∧ Ag w w' (ix s 11) (ix s 51) ∧ Fr w w' s := by
  have hf := hR.1
  have hsi := z_secretIn hs hf
  have hsame := hR.of (c' := c + 1) (by omega) (fun _ _ _ => rfl) (fun _ _ _ => rfl)
  have n10 : ¬ nI 1 = nI 0 := by decide
  unfold F_X10_reshare F_X11_reshare F_X11_reshare_L30
  rcases a_set y with ⟨m, hm, rfl, h1, h2⟩ | ⟨h1, h2⟩
  · rcases a_thr u with ⟨k8, hk1, hk8, rfl, h3, h4⟩ | ⟨h3, h4⟩
    · have hcase : fi = 0 ∨ fi = 1 := by omega
      rcases hcase with rfl | rfl
      · refine ⟨3, 0, 0, nI 3, co, ch, z, le, ec, ev, th, ep, cm, vs, es, rs, rc, rd, w, cf, nd, x, cd, dt, ?_, ?_, EK.of (by simp), fun h => by omega, hz, hH, hE, hsame, hRR, fun _ _ _ => rfl, fun _ _ _ => rfl⟩
        · refine ob hS1 ?_
          refine ob h1 ?_
          refine ob h3 ?_
          exact ob hsi rfl
        · refine ob hS2 ?_
          refine (if_neg n10).trans ?_
          refine ob h2 ?_
          refine (if_neg n10).trans ?_
          refine ob h4 ?_
          refine (if_neg n10).trans ?_
          refine ob (lacksOpen_empty hs hR hS2 h2) ?_
          exact if_neg (show ¬ nI 3 = nI 0 by decide)
      · have hRS := hR.2.2.2.2.2.2 rfl
        have hth := hRS.2.1.1
        have hpl := z_dealtPlaces hH.1 (fun m hm => (hH.2 m hm).2.2)
        have hup := z_usedPlaces (w := w) (fun m hm => (hH.2 m hm).1)
        have hpe : S_places pr (fun m => w (1 + m)) 8 0 = S_places pr wt 8 0 := S_places_congr 8 0 (fun i _ hi => (hH.2 i (by omega)).2.1)
        rw [hpe] at hup
        have hple := S_places_le (pr := pr) (fun m hm => (hH.2 m hm).2.2) 8 0 (by omega)
        cases hO : OPn th ep cm vs es pr al m with
        | true =>
          obtain ⟨ch', nd', nm, e1, e2, e3⟩ := z_lack_ok (ch := ch) (nd := nd) (rc := rc) (rd := rd) (cd := cd) (dt := dt) (rs := rs) (x := x) hs hH hm hR (hF rfl) hS2 h2 hO
          by_cases hle : k8 ≤ S_places pr wt 8 0
          · have hle2 : nI k8 ≤ nI (S_places pr wt 8 0) := nI_le hle (by omega)
            have hv := z_valueThrough (nd := ch') (x := 0) (by omega) hth (fun j hj => by have := e3 j hj; omega) hRS.2.1.2.2.2.1
            have hva := z_valueAt (nd := nd') (x := 0) hs hRS.1 (by omega) hth (fun j hj => by have := e3 j hj; omega) hRS.2.1.2.2.2.1
            rw [← S_val_congr (nd := ch') (nd' := nd') 0 (fun j hj => (e3 j hj).1) (fun j _ => rfl) th 0 0 (by omega)] at hva
            have ha : S_val ch' vs th 0 th 0 0 < 1019 := S_val_lt _ _ _ _ _ _ _ (by omega)
            generalize S_val ch' vs th 0 th 0 0 = a at hv hva ha
            obtain ⟨cm', vs', es', d1, d2, d3, d4, d5⟩ := z_deal (pr := pr) (th := k8) (e := ep + 1) (a := a) (wt := wt) (co := co) (cm := cm) (vs := vs) (es := es) (z := z) (thI := nI th) (epI := nI ep) hH.1 (fun m hm => (hH.2 m hm).2.2) hk8 ha
            obtain ⟨w1, cf', f1, f2, f3, f4, f5, f6, f7, f8, f9⟩ := z_deals (s := s) (th := k8) (e := ep + 1) (a := a) (cf := cf) hs hk8 hk1 ha hH
            have hE1 : REv w1 le ec ev := hE.of (fun i g1 g2 => by rw [f9 i (by omega) (by simp only [ix]; omega)])
            obtain ⟨w2, k1, k2, k3⟩ := z_happens (code := 400 + s) hE1
            have hno := z_note_ob (code := 400 + s) hE
            have e7 : nI 400 + nI s = nI (400 + s) := nI_add _ _
            rw [← e7] at k1 hno
            rw [← hz] at f2 f6 f8
            have hb := (hsame.2.2.2.1)
            have hep1 := hRS.2.2.2.1
            have hepc := hR.2.2.2.2.1
            have hRd : RSl w1 s (c + 1) 1 k8 (ep + 1) cm' vs' es' := RSl_dealt (w := w) (pr := pr) (wt := wt) hk1 hk8 (by omega) (by omega) (by omega) ha hb.2.2.1 (hb.2.2.2.1 0 (by omega)) (hb.2.2.2.2 0 (by omega)) d2 d3 d4 d5 f3 f4 f5 f6 f8
            have hcp : F_X10_checkPlacesSuffice (nI pr) (L wt) (nI k8) = some 0 := by
              unfold F_X10_checkPlacesSuffice
              refine ob hpl ?_
              exact if_pos hle2
            refine ⟨0, nI (cntP (dealt pr wt) 1 24), nI (cntP (dealt pr wt) 1 24), nI 0, (S_dr0 k8 a z co).2, ch', (S_dr0 k8 a z co).1, (le + 1) % 20, min (ec + 1) 20, evN le (400 + s) ev, k8, ep + 1, cm', vs', es', rs, rc, rd, w2, cf', nd', nI nm, cd, dt, ?_, ?_, EK.of (by simp), fun _ => rfl, ?_, ?_, k2, ?_, hRR, fun i a b => ?_, fun i a b => ?_⟩
            · refine ob hS1 ?_
              refine ob h1 ?_
              refine ob h3 ?_
              refine ob hsi ?_
              refine ob e1 ?_
              refine ob hcp ?_
              refine ob hv ?_
              rw [show nI ep + 1 = nI (ep + 1) from nI_1 ep]
              refine ob d1 ?_
              exact ob hno rfl
            · refine ob hS2 ?_
              refine (if_neg n10).trans ?_
              refine ob h2 ?_
              refine (if_neg n10).trans ?_
              refine ob h4 ?_
              refine (if_neg n10).trans ?_
              refine ob e2 ?_
              refine (if_pos rfl).trans ?_
              refine ob hup ?_
              refine (if_pos hle2).trans ?_
              refine ob (hRS.k hs) ?_
              refine ob hva ?_
              refine ob (hRS.ep hs) ?_
              rw [show nI ep + 1 = nI (ep + 1) from nI_1 ep]
              refine ob f1 ?_
              exact ob k1 rfl
            · rw [k3 0 (by omega), f2, nI_tw]
              exact S_drw_z _ _ _ _ _
            · exact hH.of (fun i g1 g2 => by rw [k3 i (by omega), f9 i g1 (by simp only [ix]; omega)])
            · exact hRd.of (Nat.le_refl _) (fun i g1 g2 => k3 i (by simp only [ix] at *; omega)) (fun i g1 g2 => k3 i (by simp only [ix] at *; omega))
            · rw [k3 i (by simp only [ix] at *; omega), f9 i (by simp only [ix] at *; omega) (by simp only [ix] at *; omega)]
            · rw [k3 i (by omega), f9 i (by omega) (by simp only [ix] at *; omega)]
          · have hnle : ¬ nI k8 ≤ nI (S_places pr wt 8 0) := nI_ge (by omega) (by omega)
            have hcp : F_X10_checkPlacesSuffice (nI pr) (L wt) (nI k8) = some 5 := by
              unfold F_X10_checkPlacesSuffice
              refine ob hpl ?_
              exact if_neg hnle
            refine ⟨5, 0, 0, nI 5, co, ch', z, le, ec, ev, th, ep, cm, vs, es, rs, rc, rd, w, cf, nd', nI nm, cd, dt, ?_, ?_, EK.of (by simp), fun h => by omega, hz, hH, hE, hsame, hRR, fun _ _ _ => rfl, fun _ _ _ => rfl⟩
            · refine ob hS1 ?_
              refine ob h1 ?_
              refine ob h3 ?_
              refine ob hsi ?_
              refine ob e1 ?_
              exact ob hcp rfl
            · refine ob hS2 ?_
              refine (if_neg n10).trans ?_
              refine ob h2 ?_
              refine (if_neg n10).trans ?_
              refine ob h4 ?_
              refine (if_neg n10).trans ?_
              refine ob e2 ?_
              refine (if_pos rfl).trans ?_
              refine ob hup ?_
              exact if_neg hnle
        | false =>
          obtain ⟨ch', nd', nm, rs', rc', rd', cd', dt', e1, e2, e3⟩ := z_lack_no (ch := ch) (nd := nd) (rc := rc) (rd := rd) (cd := cd) (dt := dt) (rs := rs) (x := x) hs hH hm hR (hF rfl) hS2 h2 hO
          refine ⟨4, 0, 0, nI 4, co, ch', z, le, ec, ev, th, ep, cm, vs, es, rs', rc', rd', w, cf, nd', nI nm, cd', dt', ?_, ?_, EK.of (by simp), fun h => by omega, hz, hH, hE, hsame, e3, fun _ _ _ => rfl, fun _ _ _ => rfl⟩
          · refine ob hS1 ?_
            refine ob h1 ?_
            refine ob h3 ?_
            refine ob hsi ?_
            exact ob e1 rfl
          · refine ob hS2 ?_
            refine (if_neg n10).trans ?_
            refine ob h2 ?_
            refine (if_neg n10).trans ?_
            refine ob h4 ?_
            refine (if_neg n10).trans ?_
            refine ob e2 ?_
            exact if_neg (show ¬ nI 4 = nI 0 by decide)
    · refine ⟨2, 0, 0, nI 2, co, ch, z, le, ec, ev, th, ep, cm, vs, es, rs, rc, rd, w, cf, nd, x, cd, dt, ?_, ?_, EK.of (by simp), fun h => by omega, hz, hH, hE, hsame, hRR, fun _ _ _ => rfl, fun _ _ _ => rfl⟩
      · refine ob hS1 ?_
        refine ob h1 ?_
        exact ob h3 rfl
      · refine ob hS2 ?_
        refine (if_neg n10).trans ?_
        refine ob h2 ?_
        refine (if_neg n10).trans ?_
        refine ob h4 ?_
        exact if_pos rfl
  · refine ⟨2, 0, 0, nI 2, co, ch, z, le, ec, ev, th, ep, cm, vs, es, rs, rc, rd, w, cf, nd, x, cd, dt, ?_, ?_, EK.of (by simp), fun h => by omega, hz, hH, hE, hsame, hRR, fun _ _ _ => rfl, fun _ _ _ => rfl⟩
    · refine ob hS1 ?_
      exact ob h1 rfl
    · refine ob hS2 ?_
      refine (if_neg n10).trans ?_
      refine ob h2 ?_
      exact if_pos rfl
