/-! PURE: the reference writes fW: parts, and all -/
theorem nx_sv {w : Nat → Nat} {s a : Nat} {t : Fm} (hs : s < 4) (hk : fok 2 t) (hS : Sg (Tx w s) a (fpr 2 t)) (hl : a + (fpr 2 t).length ≤ 40) : (fsv t = false → F_X11_next (L w) (nI s) (nI a) (nI (a + (fpr 2 t).length)) (nI 124) = some (nI (a + (fpr 2 t).length))) ∧ (fsv t = true → ∃ q, q < a + (fpr 2 t).length ∧ F_X11_next (L w) (nI s) (nI a) (nI (a + (fpr 2 t).length)) (nI 124) = some (nI q)) := by
  cases t with
  | append h t =>
    obtain ⟨h1, h2, h3⟩ := hk
    replace h1 : 1 < 3 := h1
    replace h2 : fok 1 h := h2
    replace h3 : fnil t = true ∨ (fnil t = false ∧ fok 2 t) := h3
    rcases h3 with h3 | ⟨h3, h4⟩
    · have e1 : fpr 2 (.append h t) = fpr 1 h := fpr_a1 h3
      rw [e1] at hS hl ⊢
      refine ⟨fun _ => next_none (k := 1) (sg := 124) hs h2 hS hl (by simp) (fun j j1 j2 => by
        have : j = 1 := by omega
        subst this; decide), fun e => ?_⟩
      simp [fsv, h3] at e
    · have e1 : fpr 2 (.append h t) = fpr 1 h ++ fsep 2 :: fpr 2 t := fpr_a2 h3
      have hlen : (fpr 2 (.append h t)).length = (fpr 1 h).length + 1 + (fpr 2 t).length := by rw [e1, List.length_append, List.length_cons]; omega
      rw [e1, Sg_app, Sg_cons] at hS
      rw [hlen] at hl ⊢
      refine ⟨fun e => ?_, fun _ => ⟨a + (fpr 1 h).length, by omega, next_sep (k := 1) hs h2 h1 hS.1 hS.2.1 (by omega) hl⟩⟩
      simp [fsv, h3] at e
  | _ => exact absurd hk (by simp [fok])
theorem cw_nest {w : Nat → Nat} {s : Nat} {i : Int} {f : Fm} (hs : s < 4) (hk : fok 0 (.nest i f)) : CW w s (.nest i f) 0 := by
  intro a d P pp hS hl hd hP
  refine ⟨fun _ b => ?_, fun e => by omega, fun e => by omega, fun e => by omega⟩
  have h1 : i.toNat ≤ 7 := hk
  have hlen : (fpr 0 (.nest i f)).length = 1 := rfl
  rw [hlen] at hl hd hP ⊢
  have hT : Tx w s a = 48 + i.toNat := (Sg_cons.mp hS).1
  obtain ⟨d, rfl⟩ := z_fuel (show 0 < d by omega)
  have o1 := z_ofT (w := w) (s := s) (k := a) hs (by omega)
  rw [hT] at o1
  rw [F_X11_writesPart]
  unfold FB_X11_writesPart FB_X11_writesPart_L218
  rw [show (12 : Int32) + nI a = nI (12 + a) from nI_add 12 a]
  refine ob o1 ((if_neg (fun e => absurd ((q_eqI (b := 40) (by omega) (by omega)).mp e) (by omega))).trans (ob (z_isCount0 (w := w) (s := s) (by omega)) ((if_pos rfl).trans ?_)))
  exact wrd_b (wrd_1 (by omega) (by omega)) (by rw [fW]; rfl)
theorem cw_tag {w : Nat → Nat} {s : Nat} {c : Nat} {l : Fm} (hs : s < 4) (hk : fok 0 (.tag c l)) (ih : CW w s l 3) : CW w s (.tag c l) 0 := by
  intro a d P pp hS hl hd hP
  refine ⟨fun _ b => ?_, fun e => by omega, fun e => by omega, fun e => by omega⟩
  have h9 : (1 ≤ c ∧ c ≤ 9) ∧ fok 3 l := hk
  obtain ⟨h0, h1⟩ := h9
  have hlen : (fpr 0 (.tag c l)).length = (fpr 3 l).length + 5 := by simp [fpr]
  rw [hlen] at hl hd hP ⊢
  have hS2 : Tx w s a = 48 + c ∧ Tx w s (a + 1) = 111 ∧ Sg (Tx w s) (a + 4) (fpr 3 l) := by
    unfold fpr at hS
    rw [Sg_cons, Sg_cons, Sg_cons, Sg_cons, Sg_app] at hS
    exact ⟨hS.1, hS.2.1, hS.2.2.2.2.1⟩
  obtain ⟨d, rfl⟩ := z_fuel (show 0 < d by omega)
  have o1 := z_ofT (w := w) (s := s) (k := a) hs (by omega)
  rw [hS2.1] at o1
  have e1 := z_isCount1 (w := w) (s := s) (a := a) (to := a + ((fpr 3 l).length + 5)) hs (by omega) hl (by omega)
  rw [hS2.2.1] at e1
  have i1 := (ih (a + 4) d (P + 4) (wrt pp P [48 + c, 111, 102, 40]) hS2.2.2 (by omega) (by omega) (by omega)).2.2.2 rfl 1000 (by omega) (by omega)
  rw [show a + 4 + (fpr 3 l).length + 1 = a + ((fpr 3 l).length + 5) by omega] at i1
  rw [F_X11_writesPart]
  unfold FB_X11_writesPart
  rw [show (12 : Int32) + nI a = nI (12 + a) from nI_add 12 a]
  refine ob o1 ((if_neg (fun e => absurd ((q_eqI (b := 40) (by omega) (by omega)).mp e) (by omega))).trans (ob e1 ((if_neg (by decide)).trans ?_)))
  refine wrd_b (wrd_1 (by omega) (by omega)) ?_
  refine wrd_c (l := [48 + c]) (c := 111) (by simp only [List.length_singleton]; omega) (by omega) ?_
  refine wrd_c (l := [48 + c, 111]) (c := 102) (by simp only [List.length_cons, List.length_nil]; omega) (by omega) ?_
  refine wrd_c (l := [48 + c, 111, 102]) (c := 40) (by simp only [List.length_cons, List.length_nil]; omega) (by omega) ?_
  show FB_X11_writesPart_L150 _ _ _ _ 1000 (L (wrt pp P [48 + c, 111, 102, 40])) (nI (P + 4)) (nI a + nI 4) = _
  rw [nI_add]
  refine i1.trans ?_
  exact wrd_app (a := [48 + c, 111, 102, 40])
theorem cw_group {w : Nat → Nat} {s : Nat} {Q : Fm} {bh : Std.Format.FlattenBehavior} (hs : s < 4) (hk : fok 0 (.group Q bh)) (ih : CW w s Q 2) : CW w s (.group Q bh) 0 := by
  intro a d P pp hS hl hd hP
  refine ⟨fun _ b => ?_, fun e => by omega, fun e => by omega, fun e => by omega⟩
  have h1 : fok 2 Q := hk
  have hlen : (fpr 0 (.group Q bh)).length = (fpr 2 Q).length + 2 := by simp [fpr]
  rw [hlen] at hl hd hP ⊢
  have hS2 : Tx w s a = 40 ∧ Sg (Tx w s) (a + 1) (fpr 2 Q) := by
    unfold fpr at hS
    rw [Sg_cons, Sg_app] at hS
    exact ⟨hS.1, hS.2.1⟩
  obtain ⟨d, rfl⟩ := z_fuel (show 0 < d by omega)
  have o1 := z_ofT (w := w) (s := s) (k := a) hs (by omega)
  rw [hS2.1] at o1
  have nx := nx_sv (a := a + 1) hs h1 hS2.2 (by omega)
  have hfl := fW_len Q 2 h1
  rw [F_X11_writesPart]
  unfold FB_X11_writesPart
  rw [show (12 : Int32) + nI a = nI (12 + a) from nI_add 12 a, show nI a + 1 = nI (a + 1) from nI_1 a, show nI (a + ((fpr 2 Q).length + 2)) - 1 = nI (a + 1 + (fpr 2 Q).length) by
    rw [show nI (a + ((fpr 2 Q).length + 2)) - 1 = nI (a + ((fpr 2 Q).length + 2) - 1) from pk_sub (b := 1) (by omega)]
    exact congrArg nI (by omega)]
  refine ob o1 ((if_pos rfl).trans ?_)
  unfold FB_X11_writesPart_L42 FB_X11_writesPart_L60 FB_X11_writesPart_L92 FB_X11_writesPart_L108 FB_X11_writesPart_L218
  rw [show nI a + 1 = nI (a + 1) from nI_1 a, show nI (a + ((fpr 2 Q).length + 2)) - 1 = nI (a + 1 + (fpr 2 Q).length) by
    rw [show nI (a + ((fpr 2 Q).length + 2)) - 1 = nI (a + ((fpr 2 Q).length + 2) - 1) from pk_sub (b := 1) (by omega)]
    exact congrArg nI (by omega)]
  have o0 : ¬ (1 : Int32) = 0 := by decide
  have o9 : ¬ nI true.toNat = 0 := by decide
  cases hs2 : fsv Q with
  | false =>
    have hF : fW 0 b (.group Q bh) = fW 2 b Q := by rw [fW, hs2]; simp
    have i1 := ((ih (a + 1) d P pp hS2.2 (by omega) (by omega) (by omega)).2.2.1 rfl).2 hs2 b
    rw [hF]
    exact ob (nx.1 hs2) ((if_pos (nI_le (Nat.le_refl _) (by omega))).trans ((if_pos rfl).trans ((if_pos rfl).trans (wrd_b i1 ((if_pos rfl).trans rfl)))))
  | true =>
    obtain ⟨q, q1, q2⟩ := nx.2 hs2
    cases b with
    | false =>
      have hF : fW 0 false (.group Q bh) = fW 2 false Q := by rw [fW, hs2]; simp
      have i1 := ((ih (a + 1) d P pp hS2.2 (by omega) (by omega) (by omega)).2.2.1 rfl).1 1000 (by omega)
      have i1' : F_X11_writesPolicy (F_X11_writesPart d) (L w) (L pp) (nI P) (nI s) (nI (a + 1)) (nI (a + 1 + (fpr 2 Q).length)) = _ := i1
      rw [hF]
      exact ob q2 ((if_neg (nI_ge (by omega) (by omega))).trans ((if_neg o0).trans ((if_pos rfl).trans ((if_neg o0).trans (wrd_b i1' ((if_neg o0).trans ((if_pos rfl).trans rfl)))))))
    | true =>
      have hF : fW 0 true (.group Q bh) = [40] ++ fW 2 false Q ++ [41] := by rw [fW, hs2]; simp
      have i1 := ((ih (a + 1) d (P + 1) (wrt pp P [40]) hS2.2 (by omega) (by omega) (by omega)).2.2.1 rfl).1 1000 (by omega)
      have i1' : F_X11_writesPolicy (F_X11_writesPart d) (L w) (L (wrt pp P [40])) (nI (P + 1)) (nI s) (nI (a + 1)) (nI (a + 1 + (fpr 2 Q).length)) = wrd pp P ([40] ++ fW 2 false Q) := i1.trans (wrd_app (a := [40]))
      have hf2 := hfl false
      rw [hF]
      refine ob q2 ((if_neg (nI_ge (by omega) (by omega))).trans ((if_neg o0).trans ((if_neg o9).trans (wrd_b (wrd_1 (c := 40) (by omega) (by omega)) ((if_neg o0).trans (wrd_b i1' ((if_neg o0).trans ((if_neg o9).trans (wrd_c (c := 41) (by simp only [List.length_append, List.length_singleton]; omega) (by omega) ?_)))))))))
      rfl
theorem cw_all {w : Nat → Nat} {s : Nat} (hs : s < 4) : ∀ (t : Fm) (k : Nat), fok k t → CW w s t k := by
  intro t
  induction t with
  | nest i f ih =>
    intro k hk
    cases k with
    | zero => exact cw_nest hs hk
    | succ k => exact absurd hk (by simp [fok])
  | group Q b ih =>
    intro k hk
    cases k with
    | zero => exact cw_group hs hk (ih 2 hk)
    | succ k => exact absurd hk (by simp [fok])
  | tag c l ih =>
    intro k hk
    cases k with
    | zero => exact cw_tag hs hk (ih 3 hk.2)
    | succ k => exact absurd hk (by simp [fok])
  | append a b iha ihb =>
    intro k hk
    cases k with
    | zero => exact absurd hk (by simp [fok])
    | succ k =>
      have hk0 := hk
      obtain ⟨h1, h2, h3⟩ := hk
      have h3' : fnil b = false → fok (k + 1) b := fun e => by
        rcases h3 with h3 | h3
        · rw [e] at h3; exact absurd h3 (by decide)
        · exact h3.2
      have hka : k = 0 ∨ k = 1 ∨ k = 2 := by omega
      rcases hka with rfl | rfl | rfl
      · exact cw_1 hs hk0 (iha 0 h2) (fun e => ihb 1 (h3' e))
      · exact cw_2 hs hk0 (iha 1 h2) (fun e => ihb 2 (h3' e))
      · exact cw_3 hs hk0 (iha 2 h2) (fun e => ihb 3 (h3' e))
  | _ => intro k hk; cases k <;> exact absurd hk (by simp [fok])
