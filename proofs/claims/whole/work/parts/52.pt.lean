/-! PURE: the reference's 'holds' is what the tree says -/
theorem z_isCount0 {w : Nat → Nat} {s a : Nat} (ha : a < 40) : F_X11_isCount (L w) (nI s) (nI a) (nI (a + 1)) = some (nI 0) := by
  unfold F_X11_isCount F_X11_isCount_L27 F_X11_isCount_L28
  simp (disch := omega) only [q_lit, nI_add, q_leI, Nat.le_refl, if_true, q_nar0, q_gg]
theorem z_isCount1 {w : Nat → Nat} {s a to : Nat} (hs : s < 4) (ha : a + 1 < to) (hto : to ≤ 40) (hc : Tx w s (a + 1) < 127) : F_X11_isCount (L w) (nI s) (nI a) (nI to) = some (nI (decide (Tx w s (a + 1) = 111)).toNat) := by
  have h0 : ¬ to ≤ a + 1 := by omega
  unfold F_X11_isCount F_X11_isCount_L27 F_X11_isCount_L28
  simp (disch := omega) only [q_lit, nI_add, q_leI, h0, if_false, Nat.add_assoc, z_ofT, Option.bind_some, q_eqI, q_nar0, q_nar1, q_gg]
  by_cases h : Tx w s (a + 1) = 111 <;> simp [h]
theorem z_holds_t {w : Nat → Nat} {s m : Nat} (hs : s < 4) (hm : m < 256) : ∀ (t : Fm) (k : Nat), fok k t →
    (k ≤ 2 → ∀ a d, Sg (Tx w s) a (fpr k t) → a + (fpr k t).length ≤ 40 → (fpr k t).length < d → F_X11_holds d (L w) (nI s) (nI a) (nI (a + (fpr k t).length)) (nI m) = some (nI (fv m k t))) ∧
    (k = 3 → ∀ a d n cnt c, Sg (Tx w s) a (fpr 3 t) → a + (fpr 3 t).length + 1 ≤ 40 → (fpr 3 t).length < d → (fpr 3 t).length < n → 48 ≤ c → c < 60 → cnt + (fpr 3 t).length ≤ 200 → FB_X11_holds_L172 (F_X11_holds d) (L w) (nI s) (nI (a + (fpr 3 t).length + 1)) (nI m) n (nI c) (nI cnt) (nI a) = some (nI (decide (c - 48 ≤ cnt + fv m 3 t)).toNat)) := by
  intro t
  induction t with
  | nil => intro k h; cases k <;> exact absurd h (by simp [fok])
  | line => intro k h; cases k <;> exact absurd h (by simp [fok])
  | align => intro k h; cases k <;> exact absurd h (by simp [fok])
  | text => intro k h; cases k <;> exact absurd h (by simp [fok])
  | nest i f ih =>
    intro k h
    cases k with
    | succ k => exact absurd h (by simp [fok])
    | zero =>
      refine ⟨fun _ a d hS hl hd => ?_, fun hx => by omega⟩
      have h1 : i.toNat ≤ 7 := h
      have n1 := next_none (sg := 124) hs h hS hl (by simp) (by omega)
      have n2 := next_none (sg := 38) hs h hS hl (by simp) (by omega)
      have hlen : (fpr 0 (.nest i f)).length = 1 := rfl
      rw [hlen] at n1 n2 hl hd ⊢
      have hT : Tx w s a = 48 + i.toNat := by
        have := (Sg_cons.mp hS).1
        exact this
      obtain ⟨d, rfl⟩ := z_fuel (show 0 < d by omega)
      have h40 : ¬ 48 + i.toNat = 40 := by omega
      rw [F_X11_holds]
      unfold FB_X11_holds FB_X11_holds_L163
      simp (disch := omega) only [q_lit, n1, n2, Option.bind_some, q_leI, Nat.le_refl, if_true, nI_add, z_ofT, hT, q_eqI, h40, if_false, z_isCount0, q_nar0, q_nar1, q_gg, pk_sub, show 48 + i.toNat - 48 = i.toNat by omega, q_bit]
      show _ = some (nI (m.testBit i.toNat).toNat)
      cases m.testBit i.toNat <;> simp
  | group P b ih =>
    intro k h
    cases k with
    | succ k => exact absurd h (by simp [fok])
    | zero =>
      refine ⟨fun _ a d hS hl hd => ?_, fun hx => by omega⟩
      have h1 : fok 2 P := h
      have n1 := next_none (sg := 124) hs h hS hl (by simp) (by omega)
      have n2 := next_none (sg := 38) hs h hS hl (by simp) (by omega)
      have hlen : (fpr 0 (.group P b)).length = (fpr 2 P).length + 2 := by simp [fpr]
      rw [hlen] at n1 n2 hl hd ⊢
      have hS2 : Tx w s a = 40 ∧ Sg (Tx w s) (a + 1) (fpr 2 P) := by
        unfold fpr at hS
        rw [Sg_cons, Sg_app] at hS
        exact ⟨hS.1, hS.2.1⟩
      obtain ⟨d, rfl⟩ := z_fuel (show 0 < d by omega)
      have i1 := (ih 2 h1).1 (by omega) (a + 1) d hS2.2 (by omega) (by omega)
      have i2 := (fv_le m P 2 h1).1 (by omega)
      rw [F_X11_holds]
      unfold FB_X11_holds
      simp (disch := omega) only [q_lit, n1, n2, Option.bind_some, q_leI, Nat.le_refl, if_true, nI_add, z_ofT, hS2.1, q_eqI, pk_sub, show a + ((fpr 2 P).length + 2) - 1 = a + 1 + (fpr 2 P).length by omega, i1, q_narl, q_gg]
      rfl
  | tag c l ih =>
    intro k h
    cases k with
    | succ k => exact absurd h (by simp [fok])
    | zero =>
      refine ⟨fun _ a d hS hl hd => ?_, fun hx => by omega⟩
      have h9 : (1 ≤ c ∧ c ≤ 9) ∧ fok 3 l := h
      obtain ⟨h0, h1⟩ := h9
      have n1 := next_none (sg := 124) hs h hS hl (by simp) (by omega)
      have n2 := next_none (sg := 38) hs h hS hl (by simp) (by omega)
      have hlen : (fpr 0 (.tag c l)).length = (fpr 3 l).length + 5 := by simp [fpr]
      rw [hlen] at n1 n2 hl hd ⊢
      have hS2 : Tx w s a = 48 + c ∧ Tx w s (a + 1) = 111 ∧ Sg (Tx w s) (a + 4) (fpr 3 l) := by
        unfold fpr at hS
        rw [Sg_cons, Sg_cons, Sg_cons, Sg_cons, Sg_app] at hS
        exact ⟨hS.1, hS.2.1, hS.2.2.2.2.1⟩
      obtain ⟨d, rfl⟩ := z_fuel (show 0 < d by omega)
      have i1 := (ih 3 h1).2 rfl (a + 4) d 1000 0 (48 + c) hS2.2.2 (by omega) (by omega) (by omega) (by omega) (by omega) (by omega)
      rw [show a + 4 + (fpr 3 l).length + 1 = a + ((fpr 3 l).length + 5) by omega] at i1
      have h40 : ¬ 48 + c = 40 := by omega
      have e1 := z_isCount1 (w := w) (s := s) (a := a) (to := a + ((fpr 3 l).length + 5)) hs (by omega) hl (by omega)
      rw [hS2.2.1] at e1
      have hb1 : ¬ (true = false) := by simp
      rw [F_X11_holds]
      unfold FB_X11_holds
      simp (disch := omega) only [q_lit, n1, n2, Option.bind_some, q_leI, Nat.le_refl, if_true, nI_add, z_ofT, hS2.1, q_eqI, h40, if_false, e1, decide_true, q_b0, hb1, i1]
      rw [Nat.zero_add, show 48 + c - 48 = c by omega]
      rfl
  | append h t ih1 ih2 =>
    intro k hk
    cases k with
    | zero => exact absurd hk (by simp [fok])
    | succ k =>
      have hk0 := hk
      obtain ⟨h1, h2, h3⟩ := hk
      have hp1 := fpr_pos h k h2
      have v1 := fv_le m h k h2
      refine ⟨fun hk2 a d hS hl hd => ?_, fun hk3 a d n cnt c hS hl hd hn hc hc2 hcnt => ?_⟩
      · rcases h3 with h3 | ⟨h3, h4⟩
        · have e1 : fpr (k + 1) (.append h t) = fpr k h := fpr_a1 h3
          have e2 : fv m (k + 1) (.append h t) = fv m k h := fv_a1 h3
          rw [e1] at hS hl hd ⊢
          rw [e2]
          exact (ih1 k h2).1 (by omega) a d hS hl hd
        · have e1 : fpr (k + 1) (.append h t) = fpr k h ++ fsep (k + 1) :: fpr (k + 1) t := fpr_a2 h3
          have e2 : fv m (k + 1) (.append h t) = fcb (k + 1) (fv m k h) (fv m (k + 1) t) := fv_a2 h3
          have hlen : (fpr (k + 1) (.append h t)).length = (fpr k h).length + 1 + (fpr (k + 1) t).length := by rw [e1, List.length_append, List.length_cons]; omega
          rw [e2]
          have hS2 := hS
          rw [e1, Sg_app, Sg_cons] at hS2
          obtain ⟨g1, g2, g3⟩ := hS2
          have hp2 := fpr_pos t (k + 1) h4
          obtain ⟨d, rfl⟩ := z_fuel (show 0 < d by omega)
          have i1 := (ih1 k h2).1 (by omega) a d g1 (by omega) (by omega)
          have i2 := (ih2 (k + 1) h4).1 (by omega) (a + (fpr k h).length + 1) d g3 (by omega) (by omega)
          rw [show a + (fpr k h).length + 1 + (fpr (k + 1) t).length = a + ((fpr k h).length + 1 + (fpr (k + 1) t).length) by omega] at i2
          have v2 := (fv_le m t (k + 1) h4).1 (by omega)
          have v3 := v1.1 (by omega)
          have ns := next_sep (to := a + ((fpr k h).length + 1 + (fpr (k + 1) t).length)) hs h2 h1 g1 g2 (by omega) (by omega)
          have hnl : ¬ a + ((fpr k h).length + 1 + (fpr (k + 1) t).length) ≤ a + (fpr k h).length := by omega
          rw [hlen]
          rw [hlen] at hl
          have hk01 : k = 0 ∨ k = 1 := by omega
          rcases hk01 with rfl | rfl
          · have n1 := next_none (sg := 124) hs hk0 hS (by omega) (by simp) (by
              intro j j1 j2
              have : j = 1 := by omega
              subst this; decide)
            rw [hlen] at n1
            rw [show fsep (0 + 1) = 38 from rfl] at ns
            rw [F_X11_holds]
            unfold FB_X11_holds FB_X11_holds_L100 FB_X11_holds_L101
            simp (disch := omega) only [q_lit, n1, ns, Option.bind_some, q_leI, Nat.le_refl, if_true, hnl, if_false, nI_add, i1, i2, q_eqI, q_nar0, q_nar1, q_gg]
            simp only [fcb, if_true]
            have a1 : fv m 0 h = 0 ∨ fv m 0 h = 1 := by omega
            have v2' : fv m 1 t ≤ 1 := v2
            have a2 : fv m 1 t = 0 ∨ fv m 1 t = 1 := by omega
            rcases a1 with a1 | a1 <;> rcases a2 with a2 | a2 <;> simp [a1, a2]
          · rw [show fsep (1 + 1) = 124 from rfl] at ns
            rw [F_X11_holds]
            unfold FB_X11_holds FB_X11_holds_L45 FB_X11_holds_L50
            simp (disch := omega) only [q_lit, ns, Option.bind_some, q_leI, hnl, if_false, nI_add, i1, i2, q_eqI, q_nar0, q_nar1, q_gg]
            simp only [fcb]
            have a1 : fv m 1 h = 0 ∨ fv m 1 h = 1 := by omega
            have v2' : fv m 2 t ≤ 1 := v2
            have a2 : fv m 2 t = 0 ∨ fv m 2 t = 1 := by omega
            rcases a1 with a1 | a1 <;> rcases a2 with a2 | a2 <;> simp [a1, a2]
      · have hk2 : k = 2 := by omega
        subst hk2
        have v3 := v1.1 (by omega)
        obtain ⟨n, rfl⟩ := z_fuel (show 0 < n by omega)
        rcases h3 with h3 | ⟨h3, h4⟩
        · have e1 : fpr 3 (.append h t) = fpr 2 h := fpr_a1 h3
          have e2 : fv m 3 (.append h t) = fv m 2 h := fv_a1 h3
          rw [e1] at hS hl hd hn hcnt ⊢
          rw [e2]
          have i1 := (ih1 2 h2).1 (by omega) a d hS (by omega) hd
          have n1 := next_none (sg := 44) hs h2 hS (by omega) (by simp) (by
            intro j j1 j2
            have : j = 1 ∨ j = 2 := by omega
            rcases this with rfl | rfl <;> decide)
          have hnl : ¬ a + (fpr 2 h).length ≤ a := by omega
          have fin : ∀ x, x ≤ 200 → FB_X11_holds_L172 (F_X11_holds d) (L w) (nI s) (nI (a + (fpr 2 h).length + 1)) (nI m) n (nI c) (nI x) (nI (a + (fpr 2 h).length + 1)) = some (nI (decide (c - 48 ≤ x)).toNat) := by
            intro x hx
            obtain ⟨n', rfl⟩ := z_fuel (show 0 < n by omega)
            have h5 : a + (fpr 2 h).length + 1 - 1 ≤ a + (fpr 2 h).length + 1 := by omega
            rw [FB_X11_holds_L172]
            unfold FB_X11_holds_L242
            simp (disch := omega) only [q_lit, pk_sub, q_leI, h5, if_true, q_ltI, q_nar0, q_nar1, q_gg]
            by_cases h6 : c - 48 ≤ x
            · have h7 : ¬ x < c - 48 := by omega
              simp [h6, h7]
            · have h7 : x < c - 48 := by omega
              simp [h6, h7]
          rw [FB_X11_holds_L172]
          unfold FB_X11_holds_L215
          simp (disch := omega) only [q_lit, pk_sub, Nat.add_sub_cancel, q_leI, hnl, if_false, n1, Option.bind_some, i1, q_eqI, nI_add]
          rw [fin _ (by omega), fin _ (by omega)]
          have a1 : fv m 2 h = 0 ∨ fv m 2 h = 1 := by omega
          rcases a1 with a1 | a1 <;> simp [a1]
        · have e1 : fpr 3 (.append h t) = fpr 2 h ++ 44 :: fpr 3 t := fpr_a2 h3
          have e2 : fv m 3 (.append h t) = fv m 2 h + fv m 3 t := fv_a2 h3
          have hlen : (fpr 3 (.append h t)).length = (fpr 2 h).length + 1 + (fpr 3 t).length := by rw [e1, List.length_append, List.length_cons]; omega
          rw [e2]
          have hS2 := hS
          rw [e1, Sg_app, Sg_cons] at hS2
          obtain ⟨g1, g2, g3⟩ := hS2
          have hp2 := fpr_pos t 3 h4
          have i1 := (ih1 2 h2).1 (by omega) a d g1 (by omega) (by omega)
          have i2 := fun (x : Nat) (hx : x + (fpr 3 t).length ≤ 200) => (ih2 3 h4).2 rfl (a + (fpr 2 h).length + 1) d n x c g3 (by omega) (by omega) (by omega) hc hc2 hx
          rw [hlen] at hl ⊢
          rw [show a + (fpr 2 h).length + 1 + (fpr 3 t).length + 1 = a + ((fpr 2 h).length + 1 + (fpr 3 t).length) + 1 by omega] at i2
          have ns := next_sep (to := a + ((fpr 2 h).length + 1 + (fpr 3 t).length)) hs h2 (by omega) g1 g2 (by omega) (by omega)
          rw [show fsep (2 + 1) = 44 from rfl] at ns
          have hnl : ¬ a + ((fpr 2 h).length + 1 + (fpr 3 t).length) ≤ a := by omega
          rw [hlen] at hcnt
          rw [FB_X11_holds_L172]
          unfold FB_X11_holds_L215
          simp (disch := omega) only [q_lit, pk_sub, Nat.add_sub_cancel, q_leI, hnl, if_false, ns, Option.bind_some, i1, q_eqI, nI_add]
          rw [i2 (cnt + 0) (by omega), i2 (cnt + 1) (by omega)]
          have a1 : fv m 2 h = 0 ∨ fv m 2 h = 1 := by omega
          rcases a1 with a1 | a1 <;> simp [a1, Nat.add_assoc]
