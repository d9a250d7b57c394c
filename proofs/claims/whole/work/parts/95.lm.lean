/-! LAW: each method, on both sides, over the joint state -/
theorem JP.rl {cy : Nat → ClassId} {PW : va_W} {w w' : Nat → Nat} {s c c' f f' th th' ep ep' : Nat} {cm cm' vs vs' es es' : Nat → Nat} {r r' : Option Nat} (h : JP cy PW w s f r) (hR : RSl w s c f th ep cm vs es) (hR' : RSl w' s c' f' th' ep' cm' vs' es') (hr : Rl w w' s r r') : JP cy PW w' s f' r' := by
  rcases hr with ⟨h1, h2⟩ | ⟨h1, h2⟩
  · have e : f' = f := by rw [← hR.2.1, ← hR'.2.1, h2 _ (Nat.le_refl _) (by simp only [ix]; omega)]
    rw [h1, e]
    exact h.of (fun i g1 g2 => h2 i (by simp only [ix] at *; omega) g2) (fun _ hx => hx)
  · rw [h1]
    exact JP.none h2
theorem N_lacksOpen {g nd cd dt : Nat → Int32} {nm lm x y : Int32} (h : F_X11_isSlot x = some (nI 0)) : F_X11_lacksOpen g nd nm cd dt lm x y = some (1, nd, nm, cd, dt, lm) := by
  unfold F_X11_lacksOpen
  exact ob h (if_pos rfl)
section LM
variable {cy : Nat → ClassId} {PW : va_W} {w : Nat → Nat} {c : Nat} {z : Int32} {pr le ec : Nat} {wt ev : Nat → Nat} {fi th ep : Nat → Nat} {ru : Nat → Option Nat} {cm vs es : Nat → Nat → Nat} {s : Nat} {x y u t : Int32}
theorem M_put {co cf : Nat → Nat} (J : JS1 cy PW w c z pr le ec wt ev fi th ep ru cm vs es) (hc : c < 8000) (hx : SA x s) : ∃ e r b k co' z' le' ec' ev' fi' th' ep' ru' cm' vs' es' w' cf', F_X10_put (L co) z (nI pr) (nI le) (nI ec) (L wt) (L ev) (nI (fi s)) (nI (th s)) (nI (ep s)) (ru s) (L (cm s)) (L (vs s)) (L (es s)) x y u = some (e, r, L co', z', nI le', nI ec', L ev', nI fi', nI th', nI ep', ru', L cm', L vs', L es') ∧ F_X11_put t (L w) (L cf) x y u = some (b, k, L w', L cf') ∧ EK [(0, 0), (1, 1), (2, 2), (5, 3)] e k ∧ (e = 0 → r = b) ∧ JS1 cy PW w' (c + 1) z' pr le' ec' wt ev' (upA fi s fi') (upA th s th') (upA ep s ep') (upA ru s ru') (upA cm s cm') (upA vs s vs') (upA es s es') := by
  obtain ⟨hs, -, ⟨rfl, h1, h2⟩ | ⟨h1, h2⟩⟩ := hx
  · obtain ⟨e, r, b, k, co', z', le', ec', ev', fi', th', ep', ru', cm', vs', es', w', cf', g1, g2, g3, g4, g5, g6, g7, g8, g9, g10⟩ := m_put (t := t) (x := y) (y := u) (co := co) (cf := cf) (rule := ru s) hs hc J.Z J.H J.E (J.R hs) h1 h2
    exact ⟨e, r, b, k, co', z', le', ec', ev', fi', th', ep', ru', cm', vs', es', w', cf', g1, g2, g3, g4, J.slot (fun _ h => h) g5 g6 g7 g8 ((J.P hs).rl (J.R hs) g8 g9) g10⟩
  · refine ⟨1, 0, nI 0, nI 1, co, z, le, ec, ev, fi s, th s, ep s, ru s, cm s, vs s, es s, w, cf, ?_, ?_, EK.of (by simp), fun h => by omega, ?_⟩
    · unfold F_X10_put
      exact ob h1 (if_neg (show ¬ (1 : Nat) = 0 by decide))
    · unfold F_X11_put
      exact ob h2 ((if_pos rfl).trans rfl)
    · simp only [upA_id]
      exact J.same
theorem M_remove (J : JS1 cy PW w c z pr le ec wt ev fi th ep ru cm vs es) (hx : SA x s) : ∃ e r b k le' ec' ev' fi' ru' vs' es' w', F_X10_remove (nI le) (nI ec) (L ev) (nI (fi s)) (nI (ep s)) (ru s) (L (vs s)) (L (es s)) x = some (e, r, nI le', nI ec', L ev', nI fi', ru', L vs', L es') ∧ F_X11_remove t (L w) x = some (b, k, L w') ∧ EK [(0, 0), (1, 1), (3, 2)] e k ∧ (e = 0 → r = b) ∧ JS1 cy PW w' (c + 1) z pr le' ec' wt ev' (upA fi s fi') (upA th s (th s)) (upA ep s (ep s)) (upA ru s ru') (upA cm s (cm s)) (upA vs s vs') (upA es s es') := by
  obtain ⟨hs, -, ⟨rfl, h1, h2⟩ | ⟨h1, h2⟩⟩ := hx
  · obtain ⟨e, r, b, k, le', ec', ev', fi', ru', vs', es', w', g1, g2, g3, g4, g5, g6, g7, g8, g9⟩ := m_remove (t := t) (rule := ru s) hs J.E (J.R hs) h1 h2
    have := J.slot (z' := z) (fun _ h => h) (by rw [g5 0 (by omega)]; exact J.Z) (J.H.lo (fun i _ h => g5 i h)) g6 g7 ((J.P hs).rl (J.R hs) g7 g8) g9
    exact ⟨e, r, b, k, le', ec', ev', fi', ru', vs', es', w', g1, g2, g3, g4, this⟩
  · refine ⟨1, 0, nI 0, nI 1, le, ec, ev, fi s, ru s, vs s, es s, w, ?_, ?_, EK.of (by simp), fun h => by omega, ?_⟩
    · unfold F_X10_remove
      exact ob h1 (if_neg (show ¬ (1 : Nat) = 0 by decide))
    · unfold F_X11_remove
      exact ob (N_lacks h2) ((if_neg (show ¬ nI 1 = 0 by decide)).trans rfl)
    · simp only [upA_id]
      exact J.same
theorem M_refresh {co cf : Nat → Nat} (J : JS1 cy PW w c z pr le ec wt ev fi th ep ru cm vs es) (hc : c < 8000) (hx : SA x s) : ∃ e r b k co' z' le' ec' ev' ep' cm' vs' es' w' cf', F_X10_refresh (L co) z (nI pr) (nI le) (nI ec) (L ev) (nI (fi s)) (nI (th s)) (nI (ep s)) (L (cm s)) (L (vs s)) (L (es s)) x = some (e, r, L co', z', nI le', nI ec', L ev', nI ep', L cm', L vs', L es') ∧ F_X11_refresh t (L w) (L cf) x = some (b, k, L w', L cf') ∧ EK [(0, 0), (1, 1), (3, 2)] e k ∧ (e = 0 → r = b) ∧ JS1 cy PW w' (c + 1) z' pr le' ec' wt ev' (upA fi s (fi s)) (upA th s (th s)) (upA ep s ep') (upA ru s (ru s)) (upA cm s cm') (upA vs s vs') (upA es s es') := by
  obtain ⟨hs, -, ⟨rfl, h1, h2⟩ | ⟨h1, h2⟩⟩ := hx
  · obtain ⟨e, r, b, k, co', z', le', ec', ev', ep', cm', vs', es', w', cf', g1, g2, g3, g4, g5, g6, g7, g8, g9, g10⟩ := m_refresh (t := t) (co := co) (cf := cf) hs hc J.Z J.H J.E (J.R hs) h1 h2
    have := J.slot (fun _ h => h) g5 g6 g7 g8 ((J.P hs).of g9 (fun _ h => h)) g10
    exact ⟨e, r, b, k, co', z', le', ec', ev', ep', cm', vs', es', w', cf', g1, g2, g3, g4, this⟩
  · refine ⟨1, 0, nI 0, nI 1, co, z, le, ec, ev, ep s, cm s, vs s, es s, w, cf, ?_, ?_, EK.of (by simp), fun h => by omega, ?_⟩
    · unfold F_X10_refresh
      exact ob h1 (if_neg (show ¬ (1 : Nat) = 0 by decide))
    · unfold F_X11_refresh
      exact ob (N_lacks h2) ((if_neg (show ¬ nI 1 = 0 by decide)).trans rfl)
    · simp only [upA_id]
      exact J.same
theorem M_reshare {co cf ch nd rc rd cd dt tb : Nat → Nat} {rs tn : Nat} {nm pp pn pm : Int32} {ful : Nat → Int32} (J : JS1 cy PW w c z pr le ec wt ev fi th ep ru cm vs es) (hc : c < 8000) (hx : SA x s) (hpol : fi s = 1 → PolR w s (ru s) pp pn pm ful tn tb) (hRR : RRep rs rc rd cd dt) : ∃ e r b k co' ch' z' le' ec' ev' th' ep' cm' vs' es' rs' rc' rd' w' cf' nd' nm' cd' dt', F_X10_reshare (L co) (L ch) z (nI pr) (nI le) (nI ec) (L wt) (L ev) (nI (fi s)) (nI (th s)) (nI (ep s)) (ru s) (L (cm s)) (L (vs s)) (L (es s)) (nI rs) (L rc) (L rd) ful x y u = some (e, r, L co', L ch', z', nI le', nI ec', L ev', nI th', nI ep', L cm', L vs', L es', nI rs', L rc', L rd') ∧ F_X11_reshare t (L w) (L cf) (L nd) nm (L cd) (L dt) (nI rs) x y u = some (b, k, L w', L cf', L nd', nm', L cd', L dt', nI rs') ∧ EK [(0, 0), (1, 1), (2, 2), (3, 3), (4, 4), (5, 5)] e k ∧ (e = 0 → r = b) ∧ JS1 cy PW w' (c + 1) z' pr le' ec' wt ev' (upA fi s (fi s)) (upA th s th') (upA ep s ep') (upA ru s (ru s)) (upA cm s cm') (upA vs s vs') (upA es s es') ∧ RRep rs' rc' rd' cd' dt' := by
  obtain ⟨hs, -, ⟨rfl, h1, h2⟩ | ⟨h1, h2⟩⟩ := hx
  · obtain ⟨e, r, b, k, co', ch', z', le', ec', ev', th', ep', cm', vs', es', rs', rc', rd', w', cf', nd', nm', cd', dt', g1, g2, g3, g4, g5, g6, g7, g8, g9, g10, g11⟩ := m_reshare (t := t) (y := y) (u := u) (x := nm) (nd := nd) (ch := ch) (co := co) (cf := cf) hs hc J.Z J.H J.E (J.R hs) (fun h => (hpol h).hf hs) hRR h1 h2
    have := J.slot (fun _ h => h) g5 g6 g7 g8 ((J.P hs).of g10 (fun _ h => h)) g11
    exact ⟨e, r, b, k, co', ch', z', le', ec', ev', th', ep', cm', vs', es', rs', rc', rd', w', cf', nd', nm', cd', dt', g1, g2, g3, g4, this, g9⟩
  · refine ⟨1, 0, nI 0, nI 1, co, ch, z, le, ec, ev, th s, ep s, cm s, vs s, es s, rs, rc, rd, w, cf, nd, nm, cd, dt, ?_, ?_, EK.of (by simp), fun h => by omega, ?_, hRR⟩
    · unfold F_X10_reshare
      exact ob h1 (if_neg (show ¬ (1 : Nat) = 0 by decide))
    · unfold F_X11_reshare
      exact ob h2 ((if_pos rfl).trans rfl)
    · simp only [upA_id]
      exact J.same
theorem M_enroll {ch nd rc rd cd dt gv tb : Nat → Nat} {rs tn : Nat} {nm pp pn pm : Int32} {ful : Nat → Int32} (J : JS1 cy PW w c z pr le ec wt ev fi th ep ru cm vs es) (hx : SA x s) (hpol : fi s = 1 → PolR w s (ru s) pp pn pm ful tn tb) (hRR : RRep rs rc rd cd dt) : ∃ e r b k ch' le' ec' ev' vs' es' rs' rc' rd' w' nd' nm' cd' dt' gv', F_X10_enroll (L ch) (nI pr) (nI le) (nI ec) (L wt) (L ev) (nI (fi s)) (nI (th s)) (nI (ep s)) (ru s) (L (cm s)) (L (vs s)) (L (es s)) (nI rs) (L rc) (L rd) ful x y u = some (e, r, L ch', nI le', nI ec', L ev', L vs', L es', nI rs', L rc', L rd') ∧ F_X11_enroll t (L w) (L nd) nm (L cd) (L dt) (nI rs) (L gv) x y u = some (b, k, L w', L nd', nm', L cd', L dt', nI rs', L gv') ∧ EK [(0, 0), (1, 1), (2, 2), (3, 3), (4, 4)] e k ∧ (e = 0 → r = b) ∧ JS1 cy PW w' (c + 1) z pr le' ec' wt ev' (upA fi s (fi s)) (upA th s (th s)) (upA ep s (ep s)) (upA ru s (ru s)) (upA cm s (cm s)) (upA vs s vs') (upA es s es') ∧ RRep rs' rc' rd' cd' dt' := by
  obtain ⟨hs, -, ⟨rfl, h1, h2⟩ | ⟨h1, h2⟩⟩ := hx
  · obtain ⟨e, r, b, k, ch', le', ec', ev', vs', es', rs', rc', rd', w', nd', nm', cd', dt', gv', g1, g2, g3, g4, g5, g6, g7, g8⟩ := m_enroll (t := t) (y := y) (u := u) (x := nm) (nd := nd) (ch := ch) (gv := gv) hs J.H J.E (J.R hs) (fun h => (hpol h).hf hs) hRR h1 h2
    have hF : Fr w w' s := fun i a1 a2 => g8 i (by omega) (by simp only [ix] at *; omega)
    have := J.slot (z' := z) (fun _ h => h) (by rw [g8 0 (by omega) (by simp only [ix]; omega)]; exact J.Z) (J.H.lo (fun i _ h => g8 i (by omega) (by simp only [ix]; omega))) g5 g6 ((J.P hs).of (fun i a1 a2 => g8 i (by simp only [ix] at *; omega) (by simp only [ix] at *; omega)) (fun _ h => h)) hF
    exact ⟨e, r, b, k, ch', le', ec', ev', vs', es', rs', rc', rd', w', nd', nm', cd', dt', gv', g1, g2, g3, g4, this, g7⟩
  · refine ⟨1, 0, nI 0, nI 1, ch, le, ec, ev, vs s, es s, rs, rc, rd, w, nd, nm, cd, dt, gv, ?_, ?_, EK.of (by simp), fun h => by omega, ?_, hRR⟩
    · unfold F_X10_enroll
      exact ob h1 (if_neg (show ¬ (1 : Nat) = 0 by decide))
    · unfold F_X11_enroll
      exact ob h2 ((if_pos rfl).trans rfl)
    · simp only [upA_id]
      exact J.same
theorem M_expel (J : JS1 cy PW w c z pr le ec wt ev fi th ep ru cm vs es) (hx : SA x s) : ∃ e r b k le' ec' ev' vs' es' w', F_X10_expel (nI le) (nI ec) (L ev) (nI (fi s)) (L (vs s)) (L (es s)) x y = some (e, r, nI le', nI ec', L ev', L vs', L es') ∧ F_X11_expel t (L w) x y = some (b, k, L w') ∧ EK [(0, 0), (1, 1), (3, 2)] e k ∧ (e = 0 → r = b) ∧ JS1 cy PW w' (c + 1) z pr le' ec' wt ev' (upA fi s (fi s)) (upA th s (th s)) (upA ep s (ep s)) (upA ru s (ru s)) (upA cm s (cm s)) (upA vs s vs') (upA es s es') := by
  obtain ⟨hs, -, ⟨rfl, h1, h2⟩ | ⟨h1, h2⟩⟩ := hx
  · obtain ⟨e, r, b, k, le', ec', ev', vs', es', w', g1, g2, g3, g4, g5, g6, g8⟩ := m_expel (t := t) (y := y) hs J.E (J.R hs) h1 h2
    have hF : Fr w w' s := fun i a1 a2 => g8 i (by omega) (by simp only [ix] at *; omega)
    have := J.slot (z' := z) (fun _ h => h) (by rw [g8 0 (by omega) (by simp only [ix]; omega)]; exact J.Z) (J.H.lo (fun i _ h => g8 i (by omega) (by simp only [ix]; omega))) g5 g6 ((J.P hs).of (fun i a1 a2 => g8 i (by simp only [ix] at *; omega) (by simp only [ix] at *; omega)) (fun _ h => h)) hF
    exact ⟨e, r, b, k, le', ec', ev', vs', es', w', g1, g2, g3, g4, this⟩
  · refine ⟨1, 0, nI 0, nI 1, le, ec, ev, vs s, es s, w, ?_, ?_, EK.of (by simp), fun h => by omega, ?_⟩
    · unfold F_X10_expel
      exact ob h1 (if_neg (show ¬ (1 : Nat) = 0 by decide))
    · unfold F_X11_expel
      exact ob h2 ((if_pos rfl).trans rfl)
    · simp only [upA_id]
      exact J.same
theorem M_open {ch nd rc rd cd dt tb : Nat → Nat} {rs tn : Nat} {nm pp pn pm : Int32} {ful : Nat → Int32} (J : JS1 cy PW w c z pr le ec wt ev fi th ep ru cm vs es) (hx : SA x s) (hpol : fi s = 1 → PolR w s (ru s) pp pn pm ful tn tb) (hRR : RRep rs rc rd cd dt) : ∃ e r b k ch' le' ec' ev' rs' rc' rd' w' nd' nm' cd' dt', F_X10_open (L ch) (nI pr) (nI le) (nI ec) (L ev) (nI (fi s)) (nI (th s)) (nI (ep s)) (ru s) (L (cm s)) (L (vs s)) (L (es s)) (nI rs) (L rc) (L rd) ful x y = some (e, r, L ch', nI le', nI ec', L ev', nI rs', L rc', L rd') ∧ F_X11_open t (L w) (L nd) nm (L cd) (L dt) (nI rs) x y = some (b, k, L w', L nd', nm', L cd', L dt', nI rs') ∧ EK [(0, 0), (1, 1), (2, 2), (3, 3), (4, 4)] e k ∧ (e = 0 → r = b) ∧ JS1 cy PW w' (c + 1) z pr le' ec' wt ev' fi th ep ru cm vs es ∧ RRep rs' rc' rd' cd' dt' := by
  obtain ⟨hs, -, ⟨rfl, h1, h2⟩ | ⟨h1, h2⟩⟩ := hx
  · obtain ⟨e, r, b, k, ch', le', ec', ev', rs', rc', rd', w', nd', nm', cd', dt', g1, g2, g3, g4, g5, g6, g7⟩ := m_open (t := t) (y := y) (x := nm) (nd := nd) (ch := ch) hs J.H J.E (J.R hs) (fun h => (hpol h).hf hs) hRR h1 h2
    exact ⟨e, r, b, k, ch', le', ec', ev', rs', rc', rd', w', nd', nm', cd', dt', g1, g2, g3, g4, J.head (fun i h => g7 i (by omega)) (by rw [g7 0 (by omega)]; exact J.Z) (J.H.lo (fun i _ h => g7 i (by omega))) g5, g6⟩
  · refine ⟨1, 0, nI 0, nI 1, ch, le, ec, ev, rs, rc, rd, w, nd, nm, cd, dt, ?_, ?_, EK.of (by simp), fun h => by omega, J.same, hRR⟩
    · unfold F_X10_open
      exact ob h1 (if_neg (show ¬ (1 : Nat) = 0 by decide))
    · unfold F_X11_open
      exact ob (N_lacksOpen h2) ((if_neg (show ¬ (1 : Int32) = 0 by decide)).trans rfl)
theorem M_combine {ch nd : Nat → Nat} {nm : Int32} (J : JS1 cy PW w c z pr le ec wt ev fi th ep ru cm vs es) (hx : SA x s) : ∃ e r b k ch' nd' nm', F_X10_combine (L ch) (nI (fi s)) (nI (th s)) (nI (ep s)) (L (cm s)) (L (vs s)) (L (es s)) x y = some (e, r, L ch') ∧ F_X11_combine t (L w) (L nd) nm x y = some (b, k, L nd', nm') ∧ EK [(0, 0), (1, 1), (2, 2), (3, 3), (5, 4)] e k ∧ (e = 0 → r = b) := by
  obtain ⟨hs, -, ⟨rfl, h1, h2⟩ | ⟨h1, h2⟩⟩ := hx
  · exact m_combine hs (J.R hs) h1 h2
  · refine ⟨1, 0, nI 0, nI 1, ch, nd, nm, ?_, ?_, EK.of (by simp), fun h => by omega⟩
    · unfold F_X10_combine
      exact ob h1 (if_neg (show ¬ (1 : Nat) = 0 by decide))
    · unfold F_X11_combine
      exact ob (N_lacksSet h2) ((if_neg (show ¬ nI 1 = 0 by decide)).trans rfl)
theorem M_agree {ch nd : Nat → Nat} {nm : Int32} (J : JS1 cy PW w c z pr le ec wt ev fi th ep ru cm vs es) (hx : SA x s) : ∃ e r b k ch' nd' nm', F_X10_agree (L ch) (nI (fi s)) (nI (th s)) (nI (ep s)) (L (cm s)) (L (vs s)) (L (es s)) x y = some (e, r, L ch') ∧ F_X11_agree t (L w) (L nd) nm x y = some (b, k, L nd', nm') ∧ EK [(0, 0), (1, 1), (2, 2), (3, 3)] e k ∧ (e = 0 → r = b) := by
  obtain ⟨hs, -, ⟨rfl, h1, h2⟩ | ⟨h1, h2⟩⟩ := hx
  · obtain ⟨e, r, b, k, ch', nd', nm', g1, g2, g3, g4⟩ := m_agree (t := t) (y := y) (x := nm) (nd := nd) (ch := ch) hs (J.R hs) h1 h2
    exact ⟨e, r, b, k, ch', nd', nm', g1, g2, g3, fun h => (g4 h).1⟩
  · refine ⟨1, 0, nI 0, nI 1, ch, nd, nm, ?_, ?_, EK.of (by simp), fun h => by omega⟩
    · unfold F_X10_agree
      exact ob h1 (if_neg (show ¬ (1 : Nat) = 0 by decide))
    · unfold F_X11_agree
      exact ob (N_lacksSet h2) ((if_neg (show ¬ nI 1 = 0 by decide)).trans rfl)
theorem PolR.sec {w : Nat → Nat} {s : Nat} {rule : Option Nat} {pp pn pm : Int32} {ful : Nat → Int32} {tn : Nat} {tb : Nat → Nat} (h : PolR w s rule pp pn pm ful tn tb) : w (ix s 11) ≤ 40 ∧ (rule = none ↔ w (ix s 11) = 0) := by
  rcases h with ⟨h1, h2⟩ | ⟨q, tr, h1, p, -⟩
  · exact ⟨by omega, fun _ => h2, fun _ => h1⟩
  · have := fpr_pos tr 2 p.1
    refine ⟨by rw [p.2.1]; exact p.2.2.1, fun e => ?_, fun e => ?_⟩
    · rw [h1] at e
      exact absurd e (by simp)
    · rw [p.2.1] at e
      omega
theorem JP.pol {f : Nat} {r : Option Nat} (h : JP cy PW w s f r) : ∃ pp pn pm ful tn tb, f = 1 → PolR w s r pp pn pm ful tn tb := by
  obtain ⟨q1, t0, t1, pp, pn, pm, ful, hash, hz, tn, tb, h1, h2⟩ := h
  exact ⟨pp, pn, pm, ful, tn, tb, h2⟩
theorem M_secret (J : JS1 cy PW w c z pr le ec wt ev fi th ep ru cm vs es) (hx : SA x s) : ∃ e r b k, F_X10_secret (nI (fi s)) (nI (th s)) (nI (ep s)) (ru s) (L (cm s)) (L (vs s)) (L (es s)) x y = some (e, r) ∧ F_X11_secret t (L w) x y = some (b, k) ∧ EK [(0, 0), (1, 1), (2, 2), (3, 3)] e k ∧ (e = 0 → r = b) := by
  obtain ⟨hs, -, ⟨rfl, h1, h2⟩ | ⟨h1, h2⟩⟩ := hx
  · obtain ⟨pp, pn, pm, ful, tn, tb, hp⟩ := (J.P hs).pol
    exact m_secret hs (J.R hs) (fun h => (hp h).sec) h1 h2
  · refine ⟨1, 0, nI 0, nI 1, ?_, ?_, EK.of (by simp), fun h => by omega⟩
    · unfold F_X10_secret
      exact ob h1 (if_neg (show ¬ (1 : Nat) = 0 by decide))
    · unfold F_X11_secret
      exact ob h2 ((if_pos rfl).trans rfl)
theorem M_commitment (J : JS1 cy PW w c z pr le ec wt ev fi th ep ru cm vs es) (hx : SA x s) : ∃ e r b k, F_X10_commitment (nI (fi s)) (nI (th s)) (L (cm s)) x y = some (e, r) ∧ F_X11_commitment t (L w) x y = some (b, k) ∧ EK [(0, 0), (1, 1), (3, 2)] e k ∧ (e = 0 → r = b) := by
  obtain ⟨hs, -, ⟨rfl, h1, h2⟩ | ⟨h1, h2⟩⟩ := hx
  · exact m_commitment hs (J.R hs) h1 h2
  · refine ⟨1, 0, nI 0, nI 1, ?_, ?_, EK.of (by simp), fun h => by omega⟩
    · unfold F_X10_commitment
      exact ob h1 (if_neg (show ¬ (1 : Nat) = 0 by decide))
    · unfold F_X11_commitment
      exact ob (N_lacks h2) ((if_neg (show ¬ nI 1 = 0 by decide)).trans rfl)
theorem M_share (J : JS1 cy PW w c z pr le ec wt ev fi th ep ru cm vs es) (hx : SA x s) : ∃ e r b k, F_X10_share (nI (fi s)) (nI (th s)) (nI (ep s)) (L (cm s)) (L (vs s)) (L (es s)) x y u = some (e, r) ∧ F_X11_share t (L w) x y u = some (b, k) ∧ EK [(0, 0), (1, 1), (2, 2), (3, 3)] e k ∧ (e = 0 → r = b) := by
  obtain ⟨hs, -, ⟨rfl, h1, h2⟩ | ⟨h1, h2⟩⟩ := hx
  · exact m_share hs (J.R hs) h1 h2
  · refine ⟨1, 0, nI 0, nI 1, ?_, ?_, EK.of (by simp), fun h => by omega⟩
    · unfold F_X10_share
      exact ob h1 (if_neg (show ¬ (1 : Nat) = 0 by decide))
    · unfold F_X11_share
      exact ob h2 ((if_pos rfl).trans rfl)
theorem M_setShare (J : JS1 cy PW w c z pr le ec wt ev fi th ep ru cm vs es) (hx : SA x s) : ∃ e r b k vs' w', F_X10_setShare (nI (fi s)) (L (vs s)) (L (es s)) x y u = some (e, r, L vs') ∧ F_X11_setShare t (L w) x y u = some (b, k, L w') ∧ EK [(0, 0), (1, 1), (2, 2), (3, 3)] e k ∧ (e = 0 → r = b) ∧ JS1 cy PW w' (c + 1) z pr le ec wt ev (upA fi s (fi s)) (upA th s (th s)) (upA ep s (ep s)) (upA ru s (ru s)) (upA cm s (cm s)) (upA vs s vs') (upA es s (es s)) := by
  obtain ⟨hs, -, ⟨rfl, h1, h2⟩ | ⟨h1, h2⟩⟩ := hx
  · obtain ⟨e, r, b, k, vs', w', g1, g2, g3, g4, g5, g6, g7, g8⟩ := m_setShare (t := t) (x := y) (y := u) hs (J.R hs) h1 h2
    have := J.slot (z' := z) (fun _ h => h) (by rw [g6 0 (by omega)]; exact J.Z) (J.H.lo (fun i _ h => g6 i (by omega))) (J.E.lo (fun i _ h => g6 i h)) g5 ((J.P hs).of g7 (fun _ h => h)) g8
    exact ⟨e, r, b, k, vs', w', g1, g2, g3, g4, this⟩
  · refine ⟨1, 0, nI 0, nI 1, vs s, w, ?_, ?_, EK.of (by simp), fun h => by omega, ?_⟩
    · unfold F_X10_setShare
      exact ob h1 (if_neg (show ¬ (1 : Nat) = 0 by decide))
    · unfold F_X11_setShare
      exact ob h2 ((if_pos rfl).trans rfl)
    · simp only [upA_id]
      exact J.same
theorem M_shareText {N cap : Nat} {ml pq : Int32} {lf pp : Nat → Nat} (J : JS1 cy PW w c z pr le ec wt ev fi th ep ru cm vs es) (hL : Bf N cap lf) (hx : SA x s) : ∃ e r b k ml' N' cap' lf' pp' pq', F_X10_shareText (nI (fi s)) (L (vs s)) (L (es s)) ml (nI N) cap (L lf) x y u = some (e, r, ml', nI N', cap', L lf') ∧ F_X11_shareText t (L w) (L pp) pq x y u = some (b, k, L pp', pq') ∧ EK [(0, 0), (1, 1), (3, 2)] e k ∧ (e = 0 → r = b) ∧ Bf N' cap' lf' := by
  obtain ⟨hs, -, ⟨rfl, h1, h2⟩ | ⟨h1, h2⟩⟩ := hx
  · exact m_shareText hs (J.R hs) hL h1 h2
  · refine ⟨1, 0, nI 0, nI 1, ml, N, cap, lf, pp, pq, ?_, ?_, EK.of (by simp), fun h => by omega, hL⟩
    · unfold F_X10_shareText
      exact ob h1 (if_neg (show ¬ (1 : Nat) = 0 by decide))
    · unfold F_X11_shareText
      exact ob h2 ((if_pos rfl).trans rfl)
theorem M_importShare {N cap : Nat} {ml fa a1 a2 a3 a4 a5 : Int32} {bf tp : Nat → Nat} (J : JS1 cy PW w c z pr le ec wt ev fi th ep ru cm vs es) (hB : RBf N cap bf tp) (hx : SA x s) : ∃ e r b k fa' vs' es' ml' N' w' b1 b2 b3 b4 b5, F_X10_importShare fa (nI (fi s)) (L (vs s)) (L (es s)) ml (nI N) cap (L bf) x = some (e, r, fa', L vs', L es', ml', nI N', cap, L bf) ∧ F_X11_importShare t (L w) (L tp) (nI N) fa a1 a2 a3 a4 a5 x = some (b, k, L w', nI N', fa', b1, b2, b3, b4, b5) ∧ EK [(0, 0), (1, 1), (3, 2), (2, 3)] e k ∧ (e = 0 → r = b) ∧ JS1 cy PW w' (c + 1) z pr le ec wt ev (upA fi s (fi s)) (upA th s (th s)) (upA ep s (ep s)) (upA ru s (ru s)) (upA cm s (cm s)) (upA vs s vs') (upA es s es') ∧ RBf N' cap bf tp := by
  have h0 : RBf 0 cap bf tp := ⟨by omega, ⟨hB.2.1.1, by omega, hB.2.1.2.2⟩, fun i hi => by omega⟩
  obtain ⟨hs, -, ⟨rfl, h1, h2⟩ | ⟨h1, h2⟩⟩ := hx
  · obtain ⟨ml1, tf, hT, hX, -⟩ := z_take (ml := ml) hB
    obtain ⟨e, r, b, k, fa', vs', es', ml2, N', w', b1, b2, b3, b4, b5, g1, g2, g3, g4, g5, g6, g8⟩ := m_importShare (t := t) (fa := fa) (a1 := a1) (a2 := a2) (a3 := a3) (a4 := a4) (a5 := a5) hs (J.R hs) hX hT h1 h2
    have hF : Fr w w' s := fun i a1 a2 => g8 i (by simp only [ix] at *; omega)
    have := J.slot (z' := z) (fun _ h => h) (by rw [g8 0 (by simp only [ix]; omega)]; exact J.Z) (J.H.lo (fun i _ h => g8 i (by simp only [ix]; omega))) (J.E.lo (fun i _ h => g8 i (by simp only [ix]; omega))) (g6.of (Nat.le_succ c) (fun _ _ _ => rfl) (fun _ _ _ => rfl)) ((J.P hs).of (fun i a1 a2 => g8 i (by simp only [ix] at *; omega)) (fun _ h => h)) hF
    refine ⟨e, r, b, k, fa', vs', es', ml2, N', w', b1, b2, b3, b4, b5, g1, g2, g3, g4, this, ?_⟩
    rcases g5 with g | g
    · rw [g]; exact hB
    · rw [g]; exact h0
  · refine ⟨1, 0, nI 0, nI 1, fa, vs s, es s, ml, N, w, a1, a2, a3, a4, a5, ?_, ?_, EK.of (by simp), fun h => by omega, ?_, hB⟩
    · unfold F_X10_importShare
      exact ob h1 (if_neg (show ¬ (1 : Nat) = 0 by decide))
    · unfold F_X11_importShare
      exact ob (N_lacks h2) ((if_neg (show ¬ nI 1 = 0 by decide)).trans rfl)
    · simp only [upA_id]
      exact J.same
theorem M_bad (J : JS1 cy PW w c z pr le ec wt ev fi th ep ru cm vs es) (hx : SA x s) : ∃ e r b k, F_X10_bad (nI (fi s)) (nI (th s)) (nI (ep s)) (L (cm s)) (L (vs s)) (L (es s)) x y = some (e, r) ∧ F_X11_bad t (L w) x y = some (b, k) ∧ EK [(0, 0), (1, 1), (3, 2)] e k ∧ (e = 0 → r = b) := by
  obtain ⟨hs, -, ⟨rfl, h1, h2⟩ | ⟨h1, h2⟩⟩ := hx
  · exact m_bad hs (J.R hs) h1 h2
  · refine ⟨1, 0, nI 0, nI 1, ?_, ?_, EK.of (by simp), fun h => by omega⟩
    · unfold F_X10_bad
      exact ob h1 (if_neg (show ¬ (1 : Nat) = 0 by decide))
    · unfold F_X11_bad
      exact ob (N_lacks h2) ((if_neg (show ¬ nI 1 = 0 by decide)).trans rfl)
theorem M_healthBits (J : JS1 cy PW w c z pr le ec wt ev fi th ep ru cm vs es) (hx : SA x s) : ∃ e r b k, F_X10_healthBits (nI (fi s)) (nI (th s)) (nI (ep s)) (L (cm s)) (L (vs s)) (L (es s)) x = some (e, r) ∧ F_X11_healthBits t (L w) x = some (b, k) ∧ EK [(0, 0), (1, 1), (3, 2), (6, 3)] e k ∧ (e = 0 → r = b) := by
  obtain ⟨hs, -, ⟨rfl, h1, h2⟩ | ⟨h1, h2⟩⟩ := hx
  · exact m_healthBits hs (J.R hs) h1 h2
  · refine ⟨1, 0, nI 0, nI 1, ?_, ?_, EK.of (by simp), fun h => by omega⟩
    · unfold F_X10_healthBits
      exact ob h1 (if_neg (show ¬ (1 : Nat) = 0 by decide))
    · unfold F_X11_healthBits
      exact ob (N_lacks h2) ((if_neg (show ¬ nI 1 = 0 by decide)).trans rfl)
theorem M_fulfils {tb : Nat → Nat} {tn : Nat} {pp pn pm : Int32} {ful : Nat → Int32} (J : JS1 cy PW w c z pr le ec wt ev fi th ep ru cm vs es) (hx : SA x s) (hpol : fi s = 1 → PolR w s (ru s) pp pn pm ful tn tb) : ∃ e r b k, F_X10_fulfils (nI (fi s)) (ru s) ful x y = some (e, r) ∧ F_X11_fulfils t (L w) x y = some (b, k) ∧ EK [(0, 0), (1, 1), (2, 2), (3, 3)] e k ∧ (e = 0 → r = b) := by
  obtain ⟨hs, -, ⟨rfl, h1, h2⟩ | ⟨h1, h2⟩⟩ := hx
  · obtain ⟨e, r, b, k, g1, g2, g3, g4⟩ := m_fulfils (t := t) (y := y) hs (J.R hs) (fun h => (hpol h).hf hs) h1 h2
    exact ⟨e, r, b, k, g1, g2, g3, fun h => (g4 h).1⟩
  · refine ⟨1, 0, nI 0, nI 1, ?_, ?_, EK.of (by simp), fun h => by omega⟩
    · unfold F_X10_fulfils
      exact ob h1 (if_neg (show ¬ (1 : Nat) = 0 by decide))
    · unfold F_X11_fulfils
      exact ob (N_lacksSet h2) ((if_neg (show ¬ nI 1 = 0 by decide)).trans (by decide))
theorem M_policyText {tb pa : Nat → Nat} {tn : Nat} {pp pn pm pq : Int32} {ful : Nat → Int32} (J : JS1 cy PW w c z pr le ec wt ev fi th ep ru cm vs es) (hx : SA x s) (hpol : fi s = 1 → PolR w s (ru s) pp pn pm ful tn tb) : ∃ e r b k pa' pq', F_X10_policyText (nI (fi s)) (ru s) tn (L tb) x y = some (e, r) ∧ F_X11_policyText t (L w) (L pa) pq x y = some (b, k, L pa', pq') ∧ EK [(0, 0), (1, 1), (3, 2)] e k ∧ (e = 0 → r = b) := by
  obtain ⟨hs, -, ⟨rfl, h1, h2⟩ | ⟨h1, h2⟩⟩ := hx
  · refine m_policyText hs (J.R hs) (fun h => ?_) h1 h2
    rcases hpol h with h3 | ⟨q, tr, h3, h4, -⟩
    · exact Or.inl h3
    · exact Or.inr ⟨q, tr, h3, h4⟩
  · refine ⟨1, 0, nI 0, nI 1, pa, pq, ?_, ?_, EK.of (by simp), fun h => by omega⟩
    · unfold F_X10_policyText
      exact ob h1 (if_neg (show ¬ (1 : Nat) = 0 by decide))
    · unfold F_X11_policyText
      exact ob h2 ((if_pos rfl).trans rfl)
theorem M_policy {tb : Nat → Nat} {tn : Nat} {pp pn pm : Int32} {ful : Nat → Int32} (J : JS1 cy PW w c z pr le ec wt ev fi th ep ru cm vs es) (hx : SA x s) (hpol : fi s = 1 → PolR w s (ru s) pp pn pm ful tn tb) : ∃ e r b k, F_X10_policy (nI (fi s)) (ru s) pp pn pm x y = some (e, r) ∧ F_X11_policy t (L w) x y = some (b, k) ∧ EK [(0, 0), (1, 1), (2, 2), (3, 3)] e k ∧ (e = 0 → r = b) := by
  obtain ⟨hs, -, ⟨rfl, h1, h2⟩ | ⟨h1, h2⟩⟩ := hx
  · exact m_policy hs (J.R hs) hpol h1 h2
  · refine ⟨1, 0, nI 0, nI 1, ?_, ?_, EK.of (by simp), fun h => by omega⟩
    · unfold F_X10_policy
      exact ob h1 (if_neg (show ¬ (1 : Nat) = 0 by decide))
    · unfold F_X11_policy
      exact ob h2 ((if_pos rfl).trans rfl)
theorem M_groups {tb nd gs op : Nat → Nat} {tn : Nat} {nm pp pn pm : Int32} {ful : Nat → Int32} (J : JS1 cy PW w c z pr le ec wt ev fi th ep ru cm vs es) (hx : SA x s) (hpol : fi s = 1 → PolR w s (ru s) pp pn pm ful tn tb) : ∃ e r b k gs' op' nd' nm', F_X10_groups (L gs) (L op) (nI pr) (nI (fi s)) (nI (th s)) (nI (ep s)) (ru s) (L (cm s)) (L (vs s)) (L (es s)) ful x = some (e, r, L gs', L op') ∧ F_X11_groups t (L w) (L nd) nm x = some (b, k, L nd', nm') ∧ EK [(0, 0), (1, 1), (3, 2)] e k ∧ (e = 0 → r = b) := by
  obtain ⟨hs, -, ⟨rfl, h1, h2⟩ | ⟨h1, h2⟩⟩ := hx
  · exact m_groups hs J.H (J.R hs) (fun h => (hpol h).hf hs) h1 h2
  · refine ⟨1, 0, nI 0, nI 1, gs, op, nd, nm, ?_, ?_, EK.of (by simp), fun h => by omega⟩
    · unfold F_X10_groups
      exact ob h1 (if_neg (show ¬ (1 : Nat) = 0 by decide))
    · unfold F_X11_groups
      exact ob (N_lacks h2) ((if_neg (show ¬ nI 1 = 0 by decide)).trans rfl)
theorem M_smallest {tb nd gs op : Nat → Nat} {tn : Nat} {nm pp pn pm : Int32} {ful : Nat → Int32} (J : JS1 cy PW w c z pr le ec wt ev fi th ep ru cm vs es) (hx : SA x s) (hpol : fi s = 1 → PolR w s (ru s) pp pn pm ful tn tb) : ∃ e r b k gs' op' nd' nm', F_X10_smallest (L gs) (L op) (nI pr) (nI (fi s)) (nI (th s)) (nI (ep s)) (ru s) (L (cm s)) (L (vs s)) (L (es s)) ful x y = some (e, r, L gs', L op') ∧ F_X11_smallest t (L w) (L nd) nm x y = some (b, k, L nd', nm') ∧ EK [(0, 0), (1, 1), (3, 2)] e k ∧ (e = 0 → r = b) := by
  obtain ⟨hs, -, ⟨rfl, h1, h2⟩ | ⟨h1, h2⟩⟩ := hx
  · exact m_smallest hs J.H (J.R hs) (fun h => (hpol h).hf hs) h1 h2
  · refine ⟨1, 0, nI 0, nI 1, gs, op, nd, nm, ?_, ?_, EK.of (by simp), fun h => by omega⟩
    · unfold F_X10_smallest
      exact ob h1 (if_neg (show ¬ (1 : Nat) = 0 by decide))
    · unfold F_X11_smallest
      exact ob (N_lacks h2) ((if_neg (show ¬ nI 1 = 0 by decide)).trans rfl)
theorem M_powerBits {tb nd gs op : Nat → Nat} {tn : Nat} {nm pp pn pm : Int32} {ful : Nat → Int32} (J : JS1 cy PW w c z pr le ec wt ev fi th ep ru cm vs es) (hx : SA x s) (hpol : fi s = 1 → PolR w s (ru s) pp pn pm ful tn tb) : ∃ e r b k gs' op' nd' nm', F_X10_powerBits (L gs) (L op) (nI pr) (nI (fi s)) (nI (th s)) (nI (ep s)) (ru s) (L (cm s)) (L (vs s)) (L (es s)) ful x y = some (e, r, L gs', L op') ∧ F_X11_powerBits t (L w) (L nd) nm x y = some (b, k, L nd', nm') ∧ EK [(0, 0), (1, 1), (3, 2)] e k ∧ (e = 0 → r = b) := by
  obtain ⟨hs, -, ⟨rfl, h1, h2⟩ | ⟨h1, h2⟩⟩ := hx
  · exact m_powerBits hs J.H (J.R hs) (fun h => (hpol h).hf hs) h1 h2
  · refine ⟨1, 0, 0, nI 1, gs, op, nd, nm, ?_, ?_, EK.of (by simp), fun h => by omega⟩
    · unfold F_X10_powerBits
      exact ob h1 (if_neg (show ¬ (1 : Nat) = 0 by decide))
    · unfold F_X11_powerBits
      exact ob h2 ((if_pos rfl).trans rfl)
theorem M_setWeight (J : JS1 cy PW w c z pr le ec wt ev fi th ep ru cm vs es) : ∃ e r b k wt' w', F_X10_setWeight (L wt) x y = some (e, r, L wt') ∧ F_X11_setWeight t (L w) x y = some (b, k, L w') ∧ EK [(0, 0), (1, 1), (2, 2)] e k ∧ (e = 0 → r = b) ∧ JS1 cy PW w' (c + 1) z pr le ec wt' ev fi th ep ru cm vs es := by
  obtain ⟨e, r, b, k, wt', w', g1, g2, g3, g4, g5, g6⟩ := m_setWeight (t := t) (x := x) (y := y) J.H
  exact ⟨e, r, b, k, wt', w', g1, g2, g3, g4, J.head (fun i h => g6 i (by omega)) (by rw [g6 0 (by omega)]; exact J.Z) g5 (J.E.lo (fun i h _ => g6 i (by omega)))⟩
theorem M_setPresent (J : JS1 cy PW w c z pr le ec wt ev fi th ep ru cm vs es) : ∃ e r b k pr' w', F_X10_setPresent (nI pr) x y = some (e, r, nI pr') ∧ F_X11_setPresent t (L w) x y = some (b, k, L w') ∧ EK [(0, 0), (1, 1)] e k ∧ (e = 0 → r = b) ∧ JS1 cy PW w' (c + 1) z pr' le ec wt ev fi th ep ru cm vs es := by
  obtain ⟨e, r, b, k, pr', w', g1, g2, g3, g4, g5, g6⟩ := m_setPresent (t := t) (x := x) (y := y) J.H
  exact ⟨e, r, b, k, pr', w', g1, g2, g3, fun h => (g4 h).1, J.head (fun i h => g6 i (by omega)) (by rw [g6 0 (by omega)]; exact J.Z) g5 (J.E.lo (fun i h _ => g6 i (by omega)))⟩
theorem M_seed (J : JS1 cy PW w c z pr le ec wt ev fi th ep ru cm vs es) : ∃ w', F_X10_seed z x = some (z, x) ∧ F_X11_seed t (L w) x = some (z, nI 0, L w') ∧ JS1 cy PW w' (c + 1) x pr le ec wt ev fi th ep ru cm vs es := by
  obtain ⟨g1, g2, g3⟩ := m_seed (t := t) (x := x) J.Z
  exact ⟨_, g1, g2, J.head (fun i h => uN_n _ _ (by omega)) g3.symm (J.H.lo (fun i h _ => uN_n _ _ (by omega))) (J.E.lo (fun i h _ => uN_n _ _ (by omega)))⟩
theorem M_draw (J : JS1 cy PW w c z pr le ec wt ev fi th ep ru cm vs es) : ∃ w' r z', F_X10_draw z = some (r, z') ∧ F_X11_draw t (L w) = some (r, nI 0, L w') ∧ JS1 cy PW w' (c + 1) z' pr le ec wt ev fi th ep ru cm vs es := by
  obtain ⟨g1, g2, g3⟩ := m_draw (t := t) J.Z
  exact ⟨_, _, _, g1, g2, J.head (fun i h => uN_n _ _ (by omega)) g3.symm (J.H.lo (fun i h _ => uN_n _ _ (by omega))) (J.E.lo (fun i h _ => uN_n _ _ (by omega)))⟩
theorem M_event (J : JS1 cy PW w c z pr le ec wt ev fi th ep ru cm vs es) : ∃ e r b k, F_X10_event (nI le) (nI ec) (L ev) x = some (e, r) ∧ F_X11_event t (L w) x = some (b, k) ∧ EK [(0, 0), (3, 1)] e k ∧ (e = 0 → r = b) := m_event J.E
theorem M_member (J : JS1 cy PW w c z pr le ec wt ev fi th ep ru cm vs es) : ∃ e r b k, F_X10_member (nI pr) (L wt) (nI (th 0)) (nI (ep 0)) (L (cm 0)) (L (vs 0)) (L (es 0)) (nI (th 1)) (nI (ep 1)) (L (cm 1)) (L (vs 1)) (L (es 1)) (nI (th 2)) (nI (ep 2)) (L (cm 2)) (L (vs 2)) (L (es 2)) (nI (th 3)) (nI (ep 3)) (L (cm 3)) (L (vs 3)) (L (es 3)) x y = some (e, r) ∧ F_X11_member t (L w) x y = some (b, k) ∧ EK [(0, 0), (1, 1), (2, 2)] e k ∧ (e = 0 → r = b) := m_member J.H (fun s hs => J.R hs)
theorem M_setPolicy {N cap : Nat} {ml fa a0 : Int32} {bf tp tb : Nat → Nat} {tn : Nat} {pp pn pm : Int32} {ful : Nat → Int32} (J : JS1 cy PW w c z pr le ec wt ev fi th ep ru cm vs es) (hB : RBf N cap bf tp) (hx : SA x s) (hpol : fi s = 1 → PolR w s (ru s) pp pn pm ful tn tb) : ∃ e r b k fa' ml' N' np' w' a1, F_X10_setPolicy fa (nI (fi s)) (ru s) ml (nI N) cap (L bf) x = some (e, r, fa', ml', nI N', cap, L bf, np') ∧ F_X11_setPolicy t (L w) (L tp) (nI N) fa a0 x = some (b, k, L w', nI N', fa', a1) ∧ EK [(0, 0), (1, 1), (3, 2), (2, 3)] e k ∧ (e = 0 → r = b) ∧ RBf N' cap bf tp ∧ ∀ q a b' d, JS1 cy (PW ++ gNPw cy np' q a b' d) w' (c + 1) z pr le ec wt ev (upA fi s (fi s)) (upA th s (th s)) (upA ep s (ep s)) (upA ru s (gNPr np' q (ru s))) (upA cm s (cm s)) (upA vs s (vs s)) (upA es s (es s)) := by
  have h0 : RBf 0 cap bf tp := ⟨by omega, ⟨hB.2.1.1, by omega, hB.2.1.2.2⟩, fun i hi => by omega⟩
  obtain ⟨hs, -, ⟨rfl, h1, h2⟩ | ⟨h1, h2⟩⟩ := hx
  · obtain ⟨e, r, b, k, fa', ml', N', np', w', a1, g1, g2, g3, g4, g5, g6, g7, g8⟩ := m_setPolicy (t := t) (fa := fa) (ml := ml) (a0 := a0) hs (J.R hs) hB hpol h1 h2
    refine ⟨e, r, b, k, fa', ml', N', np', w', a1, g1, g2, g3, g4, ?_, fun q a b' d => ?_⟩
    · rcases g5 with g | g
      · rw [g]; exact hB
      · rw [g]; exact h0
    · have hF : Fr w w' s := fun i a1 a2 => g7 i (by simp only [ix] at *; omega)
      have hJP : JP cy (PW ++ gNPw cy np' q a b' d) w' s (fi s) (gNPr np' q (ru s)) := by
        rcases np' with _ | _ | ⟨x1, x2, x3, x4, x5, x6, x7, x8⟩
        · have g9 : w' = w := g8
          rw [g9]
          exact (J.P hs).of (fun _ _ _ => rfl) (fun x hx => List.mem_append_left _ hx)
        · exact JP.none g8.2
        · obtain ⟨g9, tr, tb', e1, e2, e3, e4, e5, e6⟩ := g8
          subst e1
          refine ⟨a, b', d, x1, x2, x3, x4, x5, x6, x7, tb', fun q0 hq x hx => ?_, fun _ => Or.inr ⟨q, tr, rfl, e2, e3, e4, e5, e6⟩⟩
          have hq2 : q = q0 := Option.some.inj hq
          subst hq2
          exact List.mem_append_right _ hx
      have := J.slot (z' := z) (fun x hx => List.mem_append_left _ hx) (by rw [g7 0 (by simp only [ix]; omega)]; exact J.Z) (J.H.lo (fun i _ h => g7 i (by simp only [ix]; omega))) (J.E.lo (fun i _ h => g7 i (by simp only [ix]; omega))) (g6.of (Nat.le_succ c) (fun _ _ _ => rfl) (fun _ _ _ => rfl)) hJP hF
      exact this
  · refine ⟨1, 0, nI 0, nI 1, fa, ml, N, none, w, a0, ?_, ?_, EK.of (by simp), fun h => by omega, hB, fun q a b' d => ?_⟩
    · unfold F_X10_setPolicy
      exact ob h1 (if_neg (show ¬ (1 : Nat) = 0 by decide))
    · unfold F_X11_setPolicy
      exact ob (N_lacks h2) ((if_neg (show ¬ nI 1 = 0 by decide)).trans rfl)
    · have h9 := J.same.full s
      show JS1 cy (PW ++ []) w (c + 1) z pr le ec wt ev (upA fi s (fi s)) (upA th s (th s)) (upA ep s (ep s)) (upA ru s (ru s)) (upA cm s (cm s)) (upA vs s (vs s)) (upA es s (es s))
      rw [List.append_nil]
      exact h9
theorem M_append {N cap : Nat} {bf tp : Nat → Nat} (hB : RBf N cap bf tp) : ∃ e r b k N' cap' bf' tp', F_X10_append (nI N) cap (L bf) x = some (e, r, nI N', cap', L bf') ∧ F_X11_append t (L tp) (nI N) x = some (b, k, L tp', nI N') ∧ EK [(0, 0), (2, 1), (5, 2)] e k ∧ (e = 0 → r = b) ∧ RBf N' cap' bf' tp' := m_append hB
theorem M_report {rs : Nat} {rc rd cd dt : Nat → Nat} (hRR : RRep rs rc rd cd dt) : ∃ e r b k, F_X10_report (nI rs) (L rc) (L rd) x y = some (e, r) ∧ F_X11_report t (L cd) (L dt) (nI rs) x y = some (b, k) ∧ EK [(0, 0), (3, 1), (2, 2)] e k ∧ (e = 0 → r = b) := m_report hRR
end LM
section LK
variable {cy : Nat → ClassId} {PW : va_W} {w sv : Nat → Nat} {c : Nat} {z kz : Int32} {pr le ec kpr kle kec : Nat} {wt ev kwt kev : Nat → Nat} {fi th ep kfi kth kep : Nat → Nat} {ru kru : Nat → Option Nat} {cm vs es kcm kvs kes : Nat → Nat → Nat} {s : Nat} {t : Int32}
theorem JS1.ext (J : JS1 cy PW w c z pr le ec wt ev fi th ep ru cm vs es) {w' : Nat → Nat} {wt' ev' : Nat → Nat} {cm' vs' es' : Nat → Nat → Nat} (hw : ∀ i, i < 534 → w' i = w i) (h1 : ∀ m, m < 8 → wt' m = wt m) (h2 : ∀ m, m < 20 → ev' m = ev m) (h3 : ∀ s, s < 4 → ∀ j, j < 8 → cm' s j = cm s j) (h4 : ∀ s, s < 4 → ∀ p, p < 25 → vs' s p = vs s p) (h5 : ∀ s, s < 4 → ∀ p, p < 25 → es' s p = es s p) : JS1 cy PW w' c z pr le ec wt' ev' fi th ep ru cm' vs' es' :=
  ⟨by rw [hw 0 (by omega)]; exact J.Z, J.H.ext hw h1, J.E.ext hw h2, fun s hs => (J.R hs).ext hs hw (h3 s hs) (h4 s hs) (h5 s hs), fun s hs => (J.P hs).of (fun i a1 a2 => hw i (by simp only [ix] at *; omega)) (fun _ h => h)⟩
theorem M_save (J : JS1 cy PW w c z pr le ec wt ev fi th ep ru cm vs es) {hx ak : Int32} : ∃ sv', F_X10_save ak z (nI pr) (nI le) (nI ec) (L wt) (L ev) (nI (fi 0)) (nI (th 0)) (nI (ep 0)) (ru 0) (L (cm 0)) (L (vs 0)) (L (es 0)) (nI (fi 1)) (nI (th 1)) (nI (ep 1)) (ru 1) (L (cm 1)) (L (vs 1)) (L (es 1)) (nI (fi 2)) (nI (th 2)) (nI (ep 2)) (ru 2) (L (cm 2)) (L (vs 2)) (L (es 2)) (nI (fi 3)) (nI (th 3)) (nI (ep 3)) (ru 3) (L (cm 3)) (L (vs 3)) (L (es 3)) kz (nI kpr) (nI kle) (nI kec) (L kwt) (L kev) (nI (kfi 0)) (nI (kth 0)) (nI (kep 0)) (kru 0) (L (kcm 0)) (L (kvs 0)) (L (kes 0)) (nI (kfi 1)) (nI (kth 1)) (nI (kep 1)) (kru 1) (L (kcm 1)) (L (kvs 1)) (L (kes 1)) (nI (kfi 2)) (nI (kth 2)) (nI (kep 2)) (kru 2) (L (kcm 2)) (L (kvs 2)) (L (kes 2)) (nI (kfi 3)) (nI (kth 3)) (nI (kep 3)) (kru 3) (L (kcm 3)) (L (kvs 3)) (L (kes 3)) = some (nI (fi 0 + fi 1 + fi 2 + fi 3), 1, z, nI pr, nI le, nI ec, L (cpN wt kwt 8), L (cpN ev kev 20), nI (fi 0), nI (th 0), nI (ep 0), ru 0, L (cpN (cm 0) (kcm 0) 8), L (cpN (vs 0) (kvs 0) 25), L (cpN (es 0) (kes 0) 25), nI (fi 1), nI (th 1), nI (ep 1), ru 1, L (cpN (cm 1) (kcm 1) 8), L (cpN (vs 1) (kvs 1) 25), L (cpN (es 1) (kes 1) 25), nI (fi 2), nI (th 2), nI (ep 2), ru 2, L (cpN (cm 2) (kcm 2) 8), L (cpN (vs 2) (kvs 2) 25), L (cpN (es 2) (kes 2) 25), nI (fi 3), nI (th 3), nI (ep 3), ru 3, L (cpN (cm 3) (kcm 3) 8), L (cpN (vs 3) (kvs 3) 25), L (cpN (es 3) (kes 3) 25)) ∧ F_X11_save t (L w) (L sv) hx = some (nI (fi 0 + fi 1 + fi 2 + fi 3), nI 0, L sv', 1) ∧ JS1 cy PW sv' c z pr le ec (cpN wt kwt 8) (cpN ev kev 20) fi th ep ru (fun s => cpN (cm s) (kcm s) 8) (fun s => cpN (vs s) (kvs s) 25) (fun s => cpN (es s) (kes s) 25) := by
  obtain ⟨sv', g1, g2, g3⟩ := m_save (z := z) (kz := kz) (pr := pr) (le := le) (ec := ec) (kpr := kpr) (kle := kle) (kec := kec) (wt := wt) (ev := ev) (kwt := kwt) (kev := kev) (fi := fi) (th := th) (ep := ep) (kfi := kfi) (kth := kth) (kep := kep) (rule := ru) (krule := kru) (cm := cm) (vs := vs) (es := es) (kcm := kcm) (kvs := kvs) (kes := kes) (w := w) (sv := sv) (t := t) (h := hx) (ak := ak) (fun s hs => ⟨(J.R hs).1, (J.R hs).2.1⟩)
  exact ⟨sv', g1, g2, J.ext g3 (fun m hm => cpN_in hm) (fun m hm => cpN_in hm) (fun s _ j hj => cpN_in hj) (fun s _ j hj => cpN_in hj) (fun s _ j hj => cpN_in hj)⟩
theorem M_restore {hs : Nat} (J : JS1 cy PW w c z pr le ec wt ev fi th ep ru cm vs es) (h1 : hs ≤ 1) (JK : hs = 1 → JS1 cy PW sv c kz kpr kle kec kwt kev kfi kth kep kru kcm kvs kes) : ∃ e r b k z' pr' le' ec' wt' ev' fi' th' ep' ru' cm' vs' es' w', F_X10_restore (nI hs) z (nI pr) (nI le) (nI ec) (L wt) (L ev) (nI (fi 0)) (nI (th 0)) (nI (ep 0)) (ru 0) (L (cm 0)) (L (vs 0)) (L (es 0)) (nI (fi 1)) (nI (th 1)) (nI (ep 1)) (ru 1) (L (cm 1)) (L (vs 1)) (L (es 1)) (nI (fi 2)) (nI (th 2)) (nI (ep 2)) (ru 2) (L (cm 2)) (L (vs 2)) (L (es 2)) (nI (fi 3)) (nI (th 3)) (nI (ep 3)) (ru 3) (L (cm 3)) (L (vs 3)) (L (es 3)) kz (nI kpr) (nI kle) (nI kec) (L kwt) (L kev) (nI (kfi 0)) (nI (kth 0)) (nI (kep 0)) (kru 0) (L (kcm 0)) (L (kvs 0)) (L (kes 0)) (nI (kfi 1)) (nI (kth 1)) (nI (kep 1)) (kru 1) (L (kcm 1)) (L (kvs 1)) (L (kes 1)) (nI (kfi 2)) (nI (kth 2)) (nI (kep 2)) (kru 2) (L (kcm 2)) (L (kvs 2)) (L (kes 2)) (nI (kfi 3)) (nI (kth 3)) (nI (kep 3)) (kru 3) (L (kcm 3)) (L (kvs 3)) (L (kes 3)) = some (e, r, z', nI pr', nI le', nI ec', L wt', L ev', nI (fi' 0), nI (th' 0), nI (ep' 0), ru' 0, L (cm' 0), L (vs' 0), L (es' 0), nI (fi' 1), nI (th' 1), nI (ep' 1), ru' 1, L (cm' 1), L (vs' 1), L (es' 1), nI (fi' 2), nI (th' 2), nI (ep' 2), ru' 2, L (cm' 2), L (vs' 2), L (es' 2), nI (fi' 3), nI (th' 3), nI (ep' 3), ru' 3, L (cm' 3), L (vs' 3), L (es' 3)) ∧ F_X11_restore t (L w) (L sv) (nI hs) = some (b, k, L w') ∧ EK [(0, 0), (5, 1)] e k ∧ (e = 0 → r = b) ∧ JS1 cy PW w' c z' pr' le' ec' wt' ev' fi' th' ep' ru' cm' vs' es' := by
  by_cases h0 : hs = 0
  · subst h0
    obtain ⟨g1, g2⟩ := m_restore0 (z := z) (kz := kz) (pr := pr) (le := le) (ec := ec) (kpr := kpr) (kle := kle) (kec := kec) (wt := wt) (ev := ev) (kwt := kwt) (kev := kev) (fi := fi) (th := th) (ep := ep) (kfi := kfi) (kth := kth) (kep := kep) (rule := ru) (krule := kru) (cm := cm) (vs := vs) (es := es) (kcm := kcm) (kvs := kvs) (kes := kes) (w := w) (sv := sv) (t := t) (h := 0) (ak := 0)
    exact ⟨5, 0, nI 0, nI 1, z, pr, le, ec, wt, ev, fi, th, ep, ru, cm, vs, es, w, g1, g2, EK.of (by simp), fun h => by omega, J⟩
  · obtain rfl : hs = 1 := by omega
    have K := JK rfl
    obtain ⟨w', g1, g2, g3⟩ := m_restore (z := z) (kz := kz) (pr := pr) (le := le) (ec := ec) (kpr := kpr) (kle := kle) (kec := kec) (wt := wt) (ev := ev) (kwt := kwt) (kev := kev) (fi := fi) (th := th) (ep := ep) (kfi := kfi) (kth := kth) (kep := kep) (rule := ru) (krule := kru) (cm := cm) (vs := vs) (es := es) (kcm := kcm) (kvs := kvs) (kes := kes) (w := w) (sv := sv) (t := t) (h := 0) (ak := 0) (fun s hs => ⟨(K.R hs).1, (K.R hs).2.1⟩)
    exact ⟨0, _, _, nI 0, kz, kpr, kle, kec, cpN kwt wt 8, cpN kev ev 20, kfi, kth, kep, kru, fun s => cpN (kcm s) (cm s) 8, fun s => cpN (kvs s) (vs s) 25, fun s => cpN (kes s) (es s) 25, w', g1, g2, EK.of (by simp), fun _ => rfl, K.ext g3 (fun m hm => cpN_in hm) (fun m hm => cpN_in hm) (fun s _ j hj => cpN_in hj) (fun s _ j hj => cpN_in hj) (fun s _ j hj => cpN_in hj)⟩
end LK
