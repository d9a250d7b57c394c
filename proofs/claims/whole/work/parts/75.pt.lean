/-! PURE: the reference writes fW: all trees -/
theorem wrd_c {pp : Nat → Nat} {P c : Nat} {l : List Nat} {β : Type} {f : (Nat → Int32) × Int32 → Option β} {v : Option β} (hP : P + l.length < 100) (hc : c < 127) (k : f (L (wrt pp P (l ++ [c])), nI (P + (l ++ [c]).length)) = v) : (F_X11_writes (L (wrt pp P l)) (nI (P + l.length)) (nI c)).bind f = v := by
  refine wrd_b (wrd_1 hP hc) ?_
  show f (L (wrt (wrt pp P l) (P + l.length) [c]), nI (P + l.length + 1)) = v
  rw [← wrt_app, ← k, List.length_append, List.length_singleton, Nat.add_assoc]
theorem cw_2 {w : Nat → Nat} {s : Nat} {h t : Fm} (hs : s < 4) (hk : fok 2 (.append h t)) (ch : CW w s h 1) (ct : fnil t = false → CW w s t 2) : CW w s (.append h t) 2 := by
  intro a d P pp hS hl hd hP
  obtain ⟨h1, h2, h3⟩ := hk
  replace h1 : 1 < 3 := h1
  replace h2 : fok 1 h := h2
  replace h3 : fnil t = true ∨ (fnil t = false ∧ fok 2 t) := h3
  have hp1 := fpr_pos h 1 h2
  refine ⟨fun e => by omega, fun e => by omega, fun _ => ⟨fun n hn => ?_, fun hf b => ?_⟩, fun e => by omega⟩
  rotate_left 1
  · have h5 : fnil t = true := by
      simp only [fsv] at hf
      cases hh : fnil t with
      | true => rfl
      | false => rw [hh] at hf; exact absurd hf (by decide)
    have e1 : fpr 2 (.append h t) = fpr 1 h := fpr_a1 h5
    rw [e1] at hS hl hd hP ⊢
    rw [fW_a1 h5, show (decide (2 ≤ 2) && b) = b by simp]
    exact ((ch a d P pp hS hl hd hP).2.1 rfl).2 b
  obtain ⟨n, rfl⟩ := z_fuel (show 0 < n by omega)
  rw [F_X11_writesPolicy_L3]
  have hfl := fW_len h 1 h2 false
  rcases h3 with h3 | ⟨h3, h4⟩
  · have e1 : fpr 2 (.append h t) = fpr 1 h := fpr_a1 h3
    rw [e1] at hS hl hd hP hn ⊢
    have n2 := next_none (k := 1) (sg := 124) hs h2 hS hl (by simp) (fun j j1 j2 => by
      have : j = 1 := by omega
      subst this; decide)
    have i0 := ((ch a d P pp hS hl hd hP).2.1 rfl).2 false
    rw [fW_a1 h3]
    refine (if_neg (show ¬ nI (a + (fpr 1 h).length) ≤ nI a from nI_ge (by omega) (by omega))).trans (ob n2 (wrd_b i0 ((if_pos (nI_le (Nat.le_refl _) (by omega))).trans ?_)))
    unfold F_X11_writesPolicy_L43
    obtain ⟨n, rfl⟩ := z_fuel (show 0 < n by omega)
    rw [F_X11_writesPolicy_L3]
    refine (if_pos ?_).trans ?_
    · rw [show nI (a + (fpr 1 h).length) + 1 = nI (a + (fpr 1 h).length + 1) from nI_1 _]
      exact nI_le (by omega) (by omega)
    · rfl
  · have e1 : fpr 2 (.append h t) = fpr 1 h ++ fsep 2 :: fpr 2 t := fpr_a2 h3
    have hlen : (fpr 2 (.append h t)).length = (fpr 1 h).length + 1 + (fpr 2 t).length := by rw [e1, List.length_append, List.length_cons]; omega
    rw [e1, Sg_app, Sg_cons] at hS
    obtain ⟨g1, g2, g3⟩ := hS
    have hp2 := fpr_pos t 2 h4
    rw [hlen] at hl hd hP hn ⊢
    have ns := next_sep (k := 1) (to := a + ((fpr 1 h).length + 1 + (fpr 2 t).length)) hs h2 h1 g1 g2 (by omega) (by omega)
    have i0 := ((ch a d P pp g1 (by omega) (by omega) (by omega)).2.1 rfl).2 false
    have i2 := ((ct h3 (a + (fpr 1 h).length + 1) d (P + List.length (fW 1 false h ++ [124])) (wrt pp P (fW 1 false h ++ [124])) g3 (by omega) (by omega) (by rw [List.length_append, List.length_singleton]; omega)).2.2.1 rfl).1 n (by omega)
    rw [show a + (fpr 1 h).length + 1 + (fpr 2 t).length = a + ((fpr 1 h).length + 1 + (fpr 2 t).length) by omega, wrd_app] at i2
    refine (if_neg (show ¬ nI (a + ((fpr 1 h).length + 1 + (fpr 2 t).length)) ≤ nI a from nI_ge (by omega) (by omega))).trans (ob ns (wrd_b i0 ((if_neg (nI_ge (by omega) (by omega))).trans (wrd_c (c := 124) (by omega) (by omega) ?_))))
    unfold F_X11_writesPolicy_L43
    show F_X11_writesPolicy_L3 _ _ _ _ n _ _ (nI (a + (fpr 1 h).length) + 1) = _
    rw [show nI (a + (fpr 1 h).length) + 1 = nI (a + (fpr 1 h).length + 1) from nI_1 _, fW_a2 h3]
    refine i2.trans ?_
    rw [List.append_assoc]
    rfl
theorem cw_3 {w : Nat → Nat} {s : Nat} {h t : Fm} (hs : s < 4) (hk : fok 3 (.append h t)) (ch : CW w s h 2) (ct : fnil t = false → CW w s t 3) : CW w s (.append h t) 3 := by
  intro a d P pp hS hl hd hP
  obtain ⟨h1, h2, h3⟩ := hk
  replace h1 : 2 < 3 := h1
  replace h2 : fok 2 h := h2
  replace h3 : fnil t = true ∨ (fnil t = false ∧ fok 3 t) := h3
  have hp1 := fpr_pos h 2 h2
  refine ⟨fun e => by omega, fun e => by omega, fun e => by omega, fun _ n hn hl2 => ?_⟩
  obtain ⟨n, rfl⟩ := z_fuel (show 0 < n by omega)
  have hfl := fW_len h 2 h2 false
  have hsub : ∀ q, 1 ≤ q → q < 1000 → nI q - 1 = nI (q - 1) := fun q h9 _ => pk_sub (a := q) (b := 1) h9
  rw [FB_X11_writesPart_L150, hsub _ (by omega) (by omega), Nat.add_sub_cancel]
  rcases h3 with h3 | ⟨h3, h4⟩
  · have e1 : fpr 3 (.append h t) = fpr 2 h := fpr_a1 h3
    rw [e1] at hS hl hd hP hn hl2 ⊢
    have n2 := next_none (k := 2) (sg := 44) hs h2 hS hl (by simp) (fun j j1 j2 => by
      have : j = 1 ∨ j = 2 := by omega
      rcases this with rfl | rfl <;> decide)
    have i0 := ((ch a d P pp hS hl hd hP).2.2.1 rfl).1 1000 (by omega)
    have i0' : F_X11_writesPolicy (F_X11_writesPart d) (L w) (L pp) (nI P) (nI s) (nI a) (nI (a + (fpr 2 h).length)) = _ := i0
    rw [fW_a1 h3]
    refine (if_neg (show ¬ nI (a + (fpr 2 h).length) ≤ nI a from nI_ge (by omega) (by omega))).trans (ob n2 (wrd_b i0' ((if_pos (nI_le (Nat.le_refl _) (by omega))).trans ?_)))
    unfold FB_X11_writesPart_L197
    refine wrd_c (c := 41) (by omega) (by omega) ?_
    obtain ⟨n, rfl⟩ := z_fuel (show 0 < n by omega)
    rw [FB_X11_writesPart_L150, hsub _ (by omega) (by omega), Nat.add_sub_cancel]
    refine (if_pos ?_).trans ?_
    · rw [show nI (a + (fpr 2 h).length) + 1 = nI (a + (fpr 2 h).length + 1) from nI_1 _]
      exact nI_le (by omega) (by omega)
    · rfl
  · have e1 : fpr 3 (.append h t) = fpr 2 h ++ fsep 3 :: fpr 3 t := fpr_a2 h3
    have hlen : (fpr 3 (.append h t)).length = (fpr 2 h).length + 1 + (fpr 3 t).length := by rw [e1, List.length_append, List.length_cons]; omega
    rw [e1, Sg_app, Sg_cons] at hS
    obtain ⟨g1, g2, g3⟩ := hS
    have hp2 := fpr_pos t 3 h4
    rw [hlen] at hl hd hP hn hl2 ⊢
    have ns := next_sep (k := 2) (to := a + ((fpr 2 h).length + 1 + (fpr 3 t).length)) hs h2 h1 g1 g2 (by omega) (by omega)
    have i0 := ((ch a d P pp g1 (by omega) (by omega) (by omega)).2.2.1 rfl).1 1000 (by omega)
    have i0' : F_X11_writesPolicy (F_X11_writesPart d) (L w) (L pp) (nI P) (nI s) (nI a) (nI (a + (fpr 2 h).length)) = _ := i0
    have i2 := (ct h3 (a + (fpr 2 h).length + 1) d (P + List.length (fW 2 false h ++ [44])) (wrt pp P (fW 2 false h ++ [44])) g3 (by omega) (by omega) (by rw [List.length_append, List.length_singleton]; omega)).2.2.2 rfl n (by omega) (by omega)
    rw [show a + (fpr 2 h).length + 1 + (fpr 3 t).length = a + ((fpr 2 h).length + 1 + (fpr 3 t).length) by omega, wrd_app] at i2
    refine (if_neg (show ¬ nI (a + ((fpr 2 h).length + 1 + (fpr 3 t).length)) ≤ nI a from nI_ge (by omega) (by omega))).trans (ob ns (wrd_b i0' ((if_neg (nI_ge (by omega) (by omega))).trans ?_)))
    unfold FB_X11_writesPart_L197
    refine wrd_c (c := 44) (by omega) (by omega) ?_
    show FB_X11_writesPart_L150 _ _ _ _ n _ _ (nI (a + (fpr 2 h).length) + 1) = _
    rw [show nI (a + (fpr 2 h).length) + 1 = nI (a + (fpr 2 h).length + 1) from nI_1 _, fW_a2 h3]
    refine i2.trans ?_
    simp only [List.append_assoc, List.cons_append, List.nil_append]
    rfl
