/-! PURE: the methods on a slot -/
def Fr (w w' : Nat → Nat) (s : Nat) : Prop := ∀ i, 38 ≤ i → (i < ix s 0 ∨ ix s 123 < i) → w' i = w i
def Rl (w w' : Nat → Nat) (s : Nat) (rule rule' : Option Nat) : Prop := (rule' = rule ∧ Ag w w' (ix s 0) (ix s 51)) ∨ (rule' = none ∧ w' (ix s 11) = 0)
theorem Rl.rf (w : Nat → Nat) (s : Nat) (rule : Option Nat) : Rl w w s rule rule := Or.inl ⟨rfl, fun _ _ _ => rfl⟩
theorem z_secretIn {fi s : Nat} (hs : s < 4) (hf : fi ≤ 1) : F_X10_secretIn (nI fi) (nI s) = some (if fi = 0 then 3 else 0) := by
  unfold F_X10_secretIn
  simp (disch := omega) only [q_lit, q_gi, q_gg, q_eqI]
  split <;> rfl
theorem RSl.lacks {w : Nat → Nat} {s c fi th ep : Nat} {cm vs es : Nat → Nat} (h : RSl w s c fi th ep cm vs es) (hs : s < 4) (hi : F_X11_isSlot (nI s) = some (nI 1)) : F_X11_lacks (L w) (nI s) = some (nI (if fi = 0 then 2 else 0)) := by
  have hf := h.1
  unfold F_X11_lacks F_X11_lacks_L25
  simp (disch := omega) only [q_lit, hi, Option.bind_some, q_eqI, h.has hs]
  show (if 1 = 0 then _ else _) = _
  rw [if_neg (by omega)]
  split <;> rfl
theorem RSl_dealt {w w' : Nat → Nat} {s c th e pr a : Nat} {z : Int32} {co cf wt cm cm' vs vs' es es' : Nat → Nat} (hth : 1 ≤ th) (hth8 : th ≤ 8) (he : 1 ≤ e) (hec : e ≤ c) (hc : c < 9000) (ha : a < 1019) (hcm : ∀ j, j < 8 → cm j < 2039) (hv0 : vs 0 < 1019) (he0 : es 0 < 10000)
    (c1 : ∀ i, cm' i = if i < th then 4 ^ (S_dr0 th a z co).2 i % 2039 else cm i) (c2 : ∀ q, 1 ≤ q → q ≤ 24 → vs' q = (if dealt pr wt q = true then S_pol (S_dr0 th a z co).2 q th 0 else 0) ∧ es' q = (if dealt pr wt q = true then e else 0)) (c3 : vs' 0 = vs 0) (c4 : es' 0 = es 0)
    (d1 : w' (ix s 0) = 1) (d2 : w' (ix s 1) = th) (d3 : w' (ix s 2) = e) (d4 : ∀ i, i < th → w' (ix s (3 + i)) = 4 ^ (S_dr0 th a z cf).2 i % 2039)
    (d5 : ∀ q, 1 ≤ q → q ≤ 24 → w' (ix s (shx q 0)) = (dealt pr wt q).toNat ∧ w' (ix s (shx q 1)) = (if dealt pr wt q = true then S_pol (S_dr0 th a z cf).2 q th 0 else 0) ∧ w' (ix s (shx q 2)) = (if dealt pr wt q = true then e else 0)) : RSl w' s c 1 th e cm' vs' es' := by
  have hsh : RSh w' s vs' es' := by
    intro p h1 h2
    obtain ⟨g1, g2, g3⟩ := d5 p h1 h2
    obtain ⟨k1, k2⟩ := c2 p h1 h2
    rw [g1, g2, g3, k1, k2, S_pol_congr p th 0 (S_dr0_eq z cf co ha)]
    cases dealt pr wt p with
    | false => simp
    | true =>
      have : ¬ e = 0 := by omega
      simp [this]
  have hok : okS th e cm' vs' es' := by
    refine ⟨hth8, by omega, fun j hj => ?_, fun p hp => ?_, fun p hp => ?_⟩
    · rw [c1 j]
      split
      · exact Nat.mod_lt _ (by omega)
      · exact hcm j hj
    · by_cases h0 : p = 0
      · rw [h0, c3]; exact hv0
      · rw [(c2 p (by omega) hp).1]
        split
        · exact S_pol_lt _ _ _ _ (by omega)
        · omega
    · by_cases h0 : p = 0
      · rw [h0, c4]; exact he0
      · rw [(c2 p (by omega) hp).2]
        split <;> omega
  refine ⟨Nat.le_refl 1, d1, hsh, hok, hec, fun h => by omega, fun _ => ⟨hsh, hok, hth, he, d2, d3, fun j hj => ?_⟩⟩
  rw [d4 j hj, c1 j, if_pos hj, S_dr0_eq z cf co ha j hj]
theorem m_put {w wt ev co cf cm vs es : Nat → Nat} {s c pr le ec fi th ep : Nat} {z t x y : Int32} {rule : Option Nat} (hs : s < 4) (hc : c < 8000) (hz : z = nI (w 0)) (hH : HW w pr wt) (hE : REv w le ec ev) (hR : RSl w s c fi th ep cm vs es) (hS1 : F_X10_checkSlot (nI s) = some 0) (hS2 : F_X11_isSlot (nI s) = some (nI 1)) :
    ∃ e r b k co' z' le' ec' ev' fi' th' ep' rule' cm' vs' es' w' cf',
      F_X10_put (L co) z (nI pr) (nI le) (nI ec) (L wt) (L ev) (nI fi) (nI th) (nI ep) rule (L cm) (L vs) (L es) (nI s) x y = some (e, r, L co', z', nI le', nI ec', L ev', nI fi', nI th', nI ep', rule', L cm', L vs', L es') ∧
      F_X11_put t (L w) (L cf) (nI s) x y = some (b, k, L w', L cf') ∧ EK [(0, 0), (1, 1), (2, 2), (5, 3)] e k ∧ (e = 0 → r = b) ∧ z' = nI (w' 0) ∧ HW w' pr wt ∧ REv w' le' ec' ev' ∧ RSl w' s (c + 1) fi' th' ep' cm' vs' es' ∧ Rl w w' s rule rule' ∧ Fr w w' s := by
  have hsame := hR.of (c' := c + 1) (by omega) (fun _ _ _ => rfl) (fun _ _ _ => rfl)
  unfold F_X10_put F_X11_put F_X11_put_L34
  rcases a_value x with ⟨a, ha, rfl, h1, h2⟩ | ⟨h1, h2⟩
  · rcases a_thr y with ⟨k, hk1, hk8, rfl, h3, h4⟩ | ⟨h3, h4⟩
    · have hpl := z_dealtPlaces hH.1 (fun m hm => (hH.2 m hm).2.2)
      have hup := z_usedPlaces (w := w) (fun m hm => (hH.2 m hm).1)
      have hpe : S_places pr (fun m => w (1 + m)) 8 0 = S_places pr wt 8 0 := S_places_congr 8 0 (fun i _ hi => (hH.2 i (by omega)).2.1)
      rw [hpe] at hup
      have hple := S_places_le (pr := pr) (fun m hm => (hH.2 m hm).2.2) 8 0 (by omega)
      by_cases hle : k ≤ S_places pr wt 8 0
      · obtain ⟨cm', vs', es', e1, e2, e3, e4, e5⟩ := z_deal (pr := pr) (th := k) (e := 1) (a := a) (wt := wt) (co := co) (cm := cm) (vs := vs) (es := es) (z := z) (thI := nI th) (epI := nI ep) hH.1 (fun m hm => (hH.2 m hm).2.2) hk8 ha
        have hH1 : HW (updN w (ix s 11) 0) pr wt := hH.of (fun i _ _ => uN_n _ _ (by simp only [ix]; omega))
        obtain ⟨w1, cf', f1, f2, f3, f4, f5, f6, f7, f8, f9⟩ := z_deals (s := s) (th := k) (e := 1) (a := a) (cf := cf) hs hk8 hk1 ha hH1
        have hE1 : REv w1 le ec ev := hE.of (fun i g1 g2 => by rw [f9 i (by omega) (by simp only [ix]; omega), uN_n _ _ (by simp only [ix]; omega)])
        obtain ⟨w2, k1, k2, k3⟩ := z_happens (code := 100 + s) hE1
        have hz0 : nI (updN w (ix s 11) 0 0) = z := by rw [uN_n _ _ (by simp only [ix]; omega), hz]
        rw [hz0] at f2 f6 f8
        have hb := (hsame.2.2.2.1)
        have hRd : RSl w1 s (c + 1) 1 k 1 cm' vs' es' := RSl_dealt (w := w) (pr := pr) (wt := wt) hk1 hk8 (by omega) (by omega) (by omega) ha hb.2.2.1 (hb.2.2.2.1 0 (by omega)) (hb.2.2.2.2 0 (by omega)) e2 e3 e4 e5 f3 f4 f5 f6 f8
        refine ⟨0, nI (cntP (dealt pr wt) 1 24), nI (cntP (dealt pr wt) 1 24), nI 0, (S_dr0 k a z co).2, (S_dr0 k a z co).1, (le + 1) % 20, min (ec + 1) 20, evN le (100 + s) ev, 1, k, 1, none, cm', vs', es', w2, cf', ?_, ?_, EK.of (by simp), fun _ => rfl, ?_, ?_, k2, ?_, Or.inr ⟨rfl, ?_⟩, fun i g1 g2 => ?_⟩
        · simp only [hS1, h1, h3, Option.bind_some, if_true]
          unfold F_X10_checkPlacesSuffice
          simp (disch := omega) only [hpl, Option.bind_some, q_leI, hle, if_true, q_gi, q_gg, q_lit]
          rw [e1]
          simp only [Option.bind_some, nI_add, z_note hE.1 hE.2.1]
        · simp (disch := omega) only [q_lit, hS2, h2, h4, Option.bind_some, q_eqI, hup, q_leI, hle, if_true, z_sets]
          rw [if_neg (by omega), if_neg (by omega), if_neg (by omega), f1]
          simp only [Option.bind_some, nI_add, k1, z_done]
        · rw [k3 0 (by omega), f2, nI_tw]
          exact S_drw_z _ _ _ _ _
        · exact hH1.of (fun i g1 g2 => by rw [k3 i (by omega), f9 i g1 (by simp only [ix]; omega)])
        · exact hRd.of (Nat.le_refl _) (fun i g1 g2 => k3 i (by simp only [ix] at *; omega)) (fun i g1 g2 => k3 i (by simp only [ix] at *; omega))
        · rw [k3 _ (by simp only [ix]; omega), f9 _ (by simp only [ix]; omega) (by simp only [ix]; omega), uN_s]
        · rw [k3 i (by omega), f9 i (by omega) (by omega), uN_n _ _ (by simp only [ix] at *; omega)]
      · refine ⟨5, 0, 0, nI 3, co, z, le, ec, ev, fi, th, ep, rule, cm, vs, es, w, cf, ?_, ?_, EK.of (by simp), fun h => by omega, hz, hH, hE, hsame, Rl.rf _ _ _, fun i _ _ => rfl⟩
        · simp only [hS1, h1, h3, Option.bind_some, if_true]
          unfold F_X10_checkPlacesSuffice
          simp (disch := omega) only [hpl, Option.bind_some, q_leI, hle, if_false]
          rfl
        · simp (disch := omega) only [q_lit, hS2, h2, h4, Option.bind_some, q_eqI, hup, q_leI, hle, if_false, z_fails]
          rfl
    · refine ⟨2, 0, 0, nI 2, co, z, le, ec, ev, fi, th, ep, rule, cm, vs, es, w, cf, ?_, ?_, EK.of (by simp), fun h => by omega, hz, hH, hE, hsame, Rl.rf _ _ _, fun i _ _ => rfl⟩
      · simp only [hS1, h1, h3, Option.bind_some, if_true]
        rfl
      · simp (disch := omega) only [q_lit, hS2, h2, h4, Option.bind_some, q_eqI, z_fails]
        rfl
  · refine ⟨2, 0, 0, nI 2, co, z, le, ec, ev, fi, th, ep, rule, cm, vs, es, w, cf, ?_, ?_, EK.of (by simp), fun h => by omega, hz, hH, hE, hsame, Rl.rf _ _ _, fun i _ _ => rfl⟩
    · simp only [hS1, h1, Option.bind_some, if_true]
      rfl
    · simp (disch := omega) only [q_lit, hS2, h2, Option.bind_some, q_eqI, z_fails]
      rfl
/-! remove -/
theorem z_remove_L {s : Nat} {thr l3 : Int32} (hs : s < 4) : ∀ k n j (w : Nat → Nat), j + k = 124 → k < n → ∃ w', F_X11_remove_L26 (nI s) n thr (L w) l3 (nI j) = ((F_X11_happens (L w') (nI (200 + s))).bind fun v7 => (F_X11_done thr l3).bind fun v9 => some (v9.1, v9.2, v7)) ∧ (∀ i, j ≤ i → i < 124 → w' (ix s i) = 0) ∧ ∀ i, (i < ix s j ∨ ix s 123 < i) → w' i = w i := by
  intro k
  induction k with
  | zero =>
    intro n j w hj hn
    obtain ⟨n, rfl⟩ := z_fuel hn
    have h0 : 124 ≤ j := by omega
    refine ⟨w, ?_, fun i h1 h2 => by omega, fun i _ => rfl⟩
    rw [F_X11_remove_L26]
    simp (disch := omega) only [q_lit, q_leI, h0, if_true, nI_add]
  | succ k ih =>
    intro n j w hj hn
    obtain ⟨n, rfl⟩ := z_fuel (show 0 < n by omega)
    have h0 : ¬ 124 ≤ j := by omega
    obtain ⟨w', e1, e2, e3⟩ := ih n (j + 1) (updN w (ix s j) 0) (by omega) (by omega)
    refine ⟨w', ?_, fun i h1 h2 => ?_, fun i hi => ?_⟩
    · rw [F_X11_remove_L26]
      simp (disch := omega) only [q_lit, q_leI, h0, if_false, z_sets, Option.bind_some, nI_add]
      exact e1
    · by_cases h : i = j
      · subst h
        rw [e3 _ (by simp only [ix]; omega), uN_s]
      · exact e2 i (by omega) h2
    · rw [e3 i (by simp only [ix] at *; omega), uN_n _ _ (by simp only [ix] at *; omega)]
theorem m_remove {w ev cm vs es : Nat → Nat} {s c le ec fi th ep : Nat} {t : Int32} {rule : Option Nat} (hs : s < 4) (hE : REv w le ec ev) (hR : RSl w s c fi th ep cm vs es) (hS1 : F_X10_checkSlot (nI s) = some 0) (hS2 : F_X11_isSlot (nI s) = some (nI 1)) :
    ∃ e r b k le' ec' ev' fi' rule' vs' es' w',
      F_X10_remove (nI le) (nI ec) (L ev) (nI fi) (nI ep) rule (L vs) (L es) (nI s) = some (e, r, nI le', nI ec', L ev', nI fi', rule', L vs', L es') ∧
      F_X11_remove t (L w) (nI s) = some (b, k, L w') ∧ EK [(0, 0), (1, 1), (3, 2)] e k ∧ (e = 0 → r = b) ∧ (∀ i, i < 17 → w' i = w i) ∧ REv w' le' ec' ev' ∧ RSl w' s (c + 1) fi' th ep cm vs' es' ∧ Rl w w' s rule rule' ∧ Fr w w' s := by
  have hf := hR.1
  have hl := hR.lacks hs hS2
  have hsi := z_secretIn hs hf
  unfold F_X10_remove F_X11_remove
  have hcase : fi = 0 ∨ fi = 1 := by omega
  rcases hcase with rfl | rfl
  · refine ⟨3, 0, 0, nI 2, le, ec, ev, 0, rule, vs, es, w, ?_, ?_, EK.of (by simp), fun h => by omega, fun i _ => rfl, hE, hR.of (by omega) (fun _ _ _ => rfl) (fun _ _ _ => rfl), Rl.rf _ _ _, fun i _ _ => rfl⟩
    · simp only [hS1, hsi, Option.bind_some, if_true]
      rfl
    · simp only [hl, Option.bind_some, if_true, q_lit]
      simp (disch := omega) only [q_eqI, z_fails, Option.bind_some]
      rfl
  · have hRS := hR.2.2.2.2.2.2 rfl
    obtain ⟨vs', es', e1, e2, e3, e4⟩ := z_dropShares vs es
    obtain ⟨w1, f1, f2, f3⟩ := z_remove_L (thr := t) (l3 := nI ep) hs 124 1000 0 w (by omega) (by omega)
    have hE1 : REv w1 le ec ev := hE.of (fun i g1 g2 => f3 i (by simp only [ix]; omega))
    obtain ⟨w2, k1, k2, k3⟩ := z_happens (code := 200 + s) hE1
    obtain ⟨g1, g2, g3, g4, g5⟩ := hRS.2.1
    have hsh : RSh w1 s vs' es' := by
      intro p a b
      rw [(e2 p a b).1, (e2 p a b).2, f2 _ (by omega) (by simp only [shx]; omega), f2 _ (by omega) (by simp only [shx]; omega), f2 _ (by omega) (by simp only [shx]; omega)]
      simp
    have hok : okS th ep cm vs' es' := by
      refine ⟨g1, g2, g3, fun p hp => ?_, fun p hp => ?_⟩
      · by_cases h0 : p = 0
        · rw [h0, e3]; exact g4 0 (by omega)
        · rw [(e2 p (by omega) hp).1]; omega
      · by_cases h0 : p = 0
        · rw [h0, e4]; exact g5 0 (by omega)
        · rw [(e2 p (by omega) hp).2]; omega
    refine ⟨0, nI ep, nI ep, nI 0, (le + 1) % 20, min (ec + 1) 20, evN le (200 + s) ev, 0, none, vs', es', w2, ?_, ?_, EK.of (by simp), fun _ => rfl, fun i hi => ?_, k2, ?_, Or.inr ⟨rfl, ?_⟩, fun i a b => ?_⟩
    · simp only [hS1, hsi, Option.bind_some, if_true]
      show (if (0 : Nat) = 0 then _ else _) = _
      rw [if_pos rfl, e1]
      simp only [Option.bind_some, q_lit, nI_add, z_note hE.1 hE.2.1]
    · simp only [hl, Option.bind_some, q_lit]
      show (if nI 0 = nI 0 then _ else _) = _
      rw [if_pos rfl, hRS.ep hs]
      simp only [Option.bind_some]
      rw [f1, k1]
      rfl
    · rw [k3 i (by omega), f3 i (by simp only [ix]; omega)]
    · refine RSl.of (c := c + 1) ⟨by omega, f2 0 (by omega) (by omega), hsh, hok, by have := hR.2.2.2.2.1; omega, fun _ p a b => (e2 p a b).2, fun h => by omega⟩ (Nat.le_refl _) (fun i a b => k3 i (by simp only [ix] at *; omega)) (fun i a b => k3 i (by simp only [ix] at *; omega))
    · rw [k3 _ (by simp only [ix]; omega), f2 11 (by omega) (by omega)]
    · rw [k3 i (by omega), f3 i (by simp only [ix] at *; omega)]
/-! refresh -/
theorem m_refresh {w wt ev co cf cm vs es : Nat → Nat} {s c pr le ec fi th ep : Nat} {z t : Int32} (hs : s < 4) (hc : c < 8000) (hz : z = nI (w 0)) (hH : HW w pr wt) (hE : REv w le ec ev) (hR : RSl w s c fi th ep cm vs es) (hS1 : F_X10_checkSlot (nI s) = some 0) (hS2 : F_X11_isSlot (nI s) = some (nI 1)) :
    ∃ e r b k co' z' le' ec' ev' ep' cm' vs' es' w' cf',
      F_X10_refresh (L co) z (nI pr) (nI le) (nI ec) (L ev) (nI fi) (nI th) (nI ep) (L cm) (L vs) (L es) (nI s) = some (e, r, L co', z', nI le', nI ec', L ev', nI ep', L cm', L vs', L es') ∧
      F_X11_refresh t (L w) (L cf) (nI s) = some (b, k, L w', L cf') ∧ EK [(0, 0), (1, 1), (3, 2)] e k ∧ (e = 0 → r = b) ∧ z' = nI (w' 0) ∧ HW w' pr wt ∧ REv w' le' ec' ev' ∧ RSl w' s (c + 1) fi th ep' cm' vs' es' ∧ Ag w w' (ix s 11) (ix s 51) ∧ Fr w w' s := by
  have hf := hR.1
  have hl := hR.lacks hs hS2
  have hsi := z_secretIn hs hf
  unfold F_X10_refresh F_X11_refresh
  have hcase : fi = 0 ∨ fi = 1 := by omega
  rcases hcase with rfl | rfl
  · refine ⟨3, 0, 0, nI 2, co, z, le, ec, ev, ep, cm, vs, es, w, cf, ?_, ?_, EK.of (by simp), fun h => by omega, hz, hH, hE, hR.of (by omega) (fun _ _ _ => rfl) (fun _ _ _ => rfl), fun i _ _ => rfl, fun i _ _ => rfl⟩
    · simp only [hS1, hsi, Option.bind_some, if_true]
      rfl
    · simp only [hl, Option.bind_some, if_true, q_lit]
      simp (disch := omega) only [q_eqI, z_fails, Option.bind_some]
      rfl
  · have hRS := hR.2.2.2.2.2.2 rfl
    have hep := hR.2.2.2.2.1
    obtain ⟨g1, g2, g3, g4, g5⟩ := hRS.2.1
    obtain ⟨cm', vs', es', e1, e2, e3, e4, e5⟩ := z_renew (co := co) (z := z) hH.1 hRS.2.1
    obtain ⟨w1, cf', f1, f2, f3, f4, f5, f6⟩ := z_refresh (cf := cf) (thr := t) hs hH hRS
    rw [← hz] at f2 f3 f5
    have hE1 : REv w1 le ec ev := hE.of (fun i a b => f6 i (by omega) (by simp only [ix]; omega))
    obtain ⟨w2, k1, k2, k3⟩ := z_happens (code := 300 + s) hE1
    have hcc := S_dr0_eq z cf co (show 0 < 1019 by omega) (th := th)
    have hep1 : 1 ≤ ep := hRS.2.2.2.1
    have hsh : RSh w1 s vs' es' := by
      intro p a b
      obtain ⟨x1, x2, x3⟩ := f5 p a b
      obtain ⟨y1, y2⟩ := e3 p a b
      rw [x1, x2, x3, y1, y2, S_pol_congr p th 0 hcc]
      refine ⟨?_, rfl, rfl⟩
      cases hrn : rnP pr ep es p with
      | false => simp
      | true =>
        have : es p ≠ 0 := by
          simp only [rnP, Bool.and_eq_true, decide_eq_true_eq] at hrn
          exact hrn.2.1
        simp [this]
    have hok : okS th (ep + 1) cm' vs' es' := by
      refine ⟨g1, by omega, fun j hj => ?_, fun p hp => ?_, fun p hp => ?_⟩
      · rw [e2 j]
        split
        · exact Nat.mod_lt _ (by omega)
        · exact g3 j hj
      · by_cases h0 : p = 0
        · rw [h0, e4]; exact g4 0 (by omega)
        · rw [(e3 p (by omega) hp).1]
          split
          · exact Nat.mod_lt _ (by omega)
          · exact g4 p hp
      · by_cases h0 : p = 0
        · rw [h0, e5]; exact g5 0 (by omega)
        · rw [(e3 p (by omega) hp).2]
          split
          · omega
          · exact g5 p hp
    have hR1 : RSl w1 s (c + 1) 1 th (ep + 1) cm' vs' es' := by
      refine ⟨Nat.le_refl 1, ?_, hsh, hok, by omega, fun h => by omega, fun _ => ⟨hsh, hok, hRS.2.2.1, by omega, ?_, f4, fun j hj => ?_⟩⟩
      · rw [f6 _ (by simp only [ix]; omega) (by simp only [ix]; omega)]
        exact hR.2.1
      · rw [f6 _ (by simp only [ix]; omega) (by simp only [ix]; omega)]
        exact hRS.2.2.2.2.1
      · rw [f3 j hj, e2 j, if_pos hj, hcc j hj]
    refine ⟨0, nI (cntP (rnP pr ep es) 1 24), nI (cntP (rnP pr ep es) 1 24), nI 0, (S_dr0 th 0 z co).2, (S_dr0 th 0 z co).1, (le + 1) % 20, min (ec + 1) 20, evN le (300 + s) ev, ep + 1, cm', vs', es', w2, cf', ?_, ?_, EK.of (by simp), fun _ => rfl, ?_, ?_, k2, ?_, fun i a b => ?_, fun i a b => ?_⟩
    · simp only [hS1, hsi, Option.bind_some, if_true]
      show (if (0 : Nat) = 0 then _ else _) = _
      rw [if_pos rfl, e1]
      simp only [Option.bind_some, q_lit, nI_add, z_note hE.1 hE.2.1]
    · simp only [hl, Option.bind_some, q_lit]
      show (if nI 0 = nI 0 then _ else _) = _
      rw [if_pos rfl, hRS.k hs]
      simp only [Option.bind_some]
      rw [hRS.ep hs]
      simp (disch := omega) only [Option.bind_some, q_gi, q_gg, q_gl, q_cl, L_upd]
      rw [f1, k1]
      rfl
    · rw [k3 0 (by omega), f2, nI_tw]
      exact S_drw_z _ _ _ _ _
    · exact hH.of (fun i a b => by rw [k3 i (by omega), f6 i a (by simp only [ix]; omega)])
    · exact hR1.of (Nat.le_refl _) (fun i a b => k3 i (by simp only [ix] at *; omega)) (fun i a b => k3 i (by simp only [ix] at *; omega))
    · rw [k3 i (by simp only [ix] at *; omega), f6 i (by simp only [ix] at *; omega) (by simp only [ix] at *; omega)]
    · rw [k3 i (by omega), f6 i (by omega) (by simp only [ix] at *; omega)]
