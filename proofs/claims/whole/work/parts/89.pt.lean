/-! PURE: the class's text without needless parentheses -/
theorem flt_in {nd T : Nat → Nat} {P : Nat → Prop} : ∀ n a, (∀ i, a ≤ i → i < a + n → P (T i)) → ∀ c, c ∈ flt nd T a n → P c := by
  intro n
  induction n with
  | zero => intro a _ c hc; exact absurd hc (by simp [flt])
  | succ n ih =>
    intro a h c hc
    rw [flt] at hc
    split at hc
    · rw [List.mem_cons] at hc
      rcases hc with hc | hc
      · rw [hc]; exact h a (Nat.le_refl a) (by omega)
      · exact ih (a + 1) (fun i h1 h2 => h i (by omega) (by omega)) c hc
    · exact ih (a + 1) (fun i h1 h2 => h i (by omega) (by omega)) c hc
theorem flt_y {nd T : Nat → Nat} {a n : Nat} (h : nI (nd a) = 0) : flt nd T a (n + 1) = T a :: flt nd T (a + 1) n := by rw [flt, if_pos h]
theorem flt_n {nd T : Nat → Nat} {a n : Nat} (h : ¬ nI (nd a) = 0) : flt nd T a (n + 1) = flt nd T (a + 1) n := by rw [flt, if_neg h]
theorem prv_0 (T : Nat → Nat) : prv T 0 = 0 := if_pos rfl
theorem gD_app {l l' : List Nat} {i : Nat} (h : i < l.length) : (l ++ l').getD i 0 = l.getD i 0 := by
  rw [List.getD_eq_getElem?_getD, List.getD_eq_getElem?_getD, List.getElem?_append_left h]
theorem gD_end {l : List Nat} {c : Nat} : (l ++ [c]).getD l.length 0 = c := by
  rw [List.getD_eq_getElem?_getD, List.getElem?_append_right (Nat.le_refl _), Nat.sub_self]
  rfl
theorem z_wo {N : Nat} {tf tp nd : Nat → Nat} {ml : Int32} (h : TX N tf tp) : ∀ k n a M cap (bf : Nat → Nat) (acc : List Nat), a + k = N → k < n → M ≤ a → Bf M cap bf → acc.length = M → (∀ i, i < M → bf i = acc.getD i 0) → ∃ tb, F_X5_without_L10 N (L nd) N (L tf) n ml (nI M) cap (L bf) (nI a) = some (0, 0, (acc ++ flt nd tp a k).length, L tb) ∧ (∀ i, i < (acc ++ flt nd tp a k).length → tb i = (acc ++ flt nd tp a k).getD i 0) ∧ ∀ i, tb i ≤ 126 := by
  have hN := h.1
  intro k
  induction k with
  | zero =>
    intro n a M cap bf acc ha hn hM hB hl hb
    obtain ⟨n, rfl⟩ := z_fuel hn
    obtain ⟨tb, e1, e2, e3⟩ := z_toStr (ml := ml) hB
    refine ⟨tb, ?_, ?_, e3⟩
    · rw [F_X5_without_L10]
      unfold F_X5_without_L46
      rw [flt, List.append_nil, hl]
      exact ob z_tLen ((if_pos (nI_le (by omega) (by omega))).trans (ob e1 rfl))
    · rw [flt, List.append_nil, hl]
      intro i hi
      rw [e2 i hi, hb i hi]
  | succ k ih =>
    intro n a M cap bf acc ha hn hM hB hl hb
    obtain ⟨n, rfl⟩ := z_fuel (show 0 < n by omega)
    have haN : a < N := by omega
    obtain ⟨h3, h4, h5⟩ := h.2 a haN
    have hch := z_tChar (N := N) (i := a) (tf := tf) (by omega) haN (by omega)
    rw [h3] at hch
    rw [F_X5_without_L10]
    unfold F_X5_without_L40
    rw [show nI a + 1 = nI (a + 1) from nI_1 a, q_gi (show a < N by omega) (by omega), q_gg, q_cl (show a < 2 ^ 31 by omega), L_app]
    by_cases hz : nI (nd a) = 0
    · obtain ⟨cap', bf', e1, e2, e3, e4⟩ := z_appc hB (show M < 70 by omega) h5
      obtain ⟨tb, f1, f2, f3⟩ := ih n (a + 1) (M + 1) cap' bf' (acc ++ [tp a]) (by omega) (by omega) (by omega) e2 (by rw [List.length_append, hl]; rfl) (fun i hi => by
        by_cases hi2 : i = M
        · rw [hi2, e4, ← hl, gD_end]
        · rw [e3 i (by omega), hb i (by omega), gD_app (by omega)])
      rw [flt_y hz]
      rw [List.append_assoc, List.singleton_append] at f1 f2
      refine ⟨tb, ?_, f2, f3⟩
      exact ob z_tLen ((if_neg (nI_ge haN (by omega))).trans ((if_neg (show ¬ nI N ≤ nI a from nI_ge haN (by omega))).trans ((if_pos hz).trans (ob hch (ob e1 f1)))))
    · obtain ⟨tb, f1, f2, f3⟩ := ih n (a + 1) M cap bf acc (by omega) (by omega) (by omega) hB hl hb
      rw [flt_n hz]
      refine ⟨tb, ?_, f2, f3⟩
      exact ob z_tLen ((if_neg (nI_ge haN (by omega))).trans ((if_neg (show ¬ nI N ≤ nI a from nI_ge haN (by omega))).trans ((if_neg hz).trans f1)))
theorem sfx_Sg {N : Nat} {T : Nat → Nat} : ∀ k a, a + k = N → Sg T a (sfx N T a) := by
  intro k
  induction k with
  | zero =>
    intro a h
    rw [sfx_nil (by omega)]
    exact Sg_nil
  | succ k ih =>
    intro a h
    rw [sfx_cons (by omega), Sg_cons]
    exact ⟨rfl, ih (a + 1) (by omega)⟩
theorem z_wnp {N : Nat} {tf tp : Nat → Nat} {t : Fm} (h : TX N tf tp) (hk : fok 2 t) (hs : sfx N tp 0 = fpr 2 t) : ∃ tb, F_X5_withoutNeedlessParentheses N (L tf) = some (0, 0, (fO 2 false t).length, L tb) ∧ (∀ i, i < (fO 2 false t).length → tb i = (fO 2 false t).getD i 0) ∧ ∀ i, tb i ≤ 126 := by
  have hN := h.1
  have hlen : (fpr 2 t).length = N := by rw [← hs, sfx_len, Nat.sub_zero]
  have hS : Sg tp 0 (fpr 2 t) := by
    rw [← hs]
    exact sfx_Sg N 0 (by omega)
  obtain ⟨nd, st, al, g1, g2, g3, g4, g5, g6, g7⟩ := WT_tree h t 2 hk false 0 0 (fun _ => 0) (fun _ => 0) (fun _ => 0) hS (by omega) (Nat.le_refl 0) (by rw [prv_0]; decide) (Nat.zero_le _) (fun _ _ _ => rfl) (fun q => by omega) (fun _ => ⟨by rw [prv_0]; decide, by rw [hlen, sfx_nil (by omega)]; decide, rfl⟩)
  rw [hlen] at g1 g7
  obtain ⟨tb, e1, e2, e3⟩ := z_wo (nd := nd) (ml := 0) h N 64 0 0 16 (fun _ => 0) [] (by omega) (by omega) (Nat.le_refl 0) ⟨Or.inl rfl, Nat.zero_le _, fun _ => Nat.zero_le _⟩ rfl (fun i hi => by omega)
  rw [List.nil_append, g7] at e1 e2
  refine ⟨tb, ?_, e2, e3⟩
  have hin : F_J4_init_da8c8 = some (0, 0, 16, L fun _ => 0) := by
    unfold F_J4_init_da8c8 F_J5_init_d00df F_J5_init_d00df_L38
    rw [show gnw 16 64 = true by decide, q_gg, q_gl, show Int32.toNatClampNeg 16 = 16 by decide]
    rfl
  have hwo : F_X5_without N (L nd) N (L tf) = some (0, 0, (fO 2 false t).length, L tb) := by
    unfold F_X5_without
    exact ob hin e1
  have hgn : ∀ m, m < 60 → gnw (nI m) 64 = true := by
    intro m hm
    unfold gnw
    rw [q_cl (by omega)]
    have : ¬ nI m < 0 := nI_nlt (show 0 ≤ m by omega) (by omega)
    simp [this]
    omega
  have hend : ∀ n, Wl N tf (n + 1) N 0 nd st al = some (0, 0, (fO 2 false t).length, L tb) := by
    intro n
    unfold Wl
    rw [F_X5_withoutNeedlessParentheses_L31]
    exact ob z_tLen ((if_pos (nI_le (Nat.le_refl N) (by omega))).trans (ob hwo rfl))
  have hgo := g1 (999 - N + 1)
  rw [show 999 - N + 1 + N = 1000 by omega, Nat.zero_add, hend] at hgo
  unfold F_X5_withoutNeedlessParentheses
  refine ob z_tLen ?_
  rw [hgn N (by omega), q_gg, q_gl]
  refine ob z_tLen ?_
  rw [show nI N + 1 = nI (N + 1) from nI_1 N, hgn (N + 1) (by omega), q_gg, q_gl]
  refine ob z_tLen ?_
  rw [show nI N + 1 = nI (N + 1) from nI_1 N, hgn (N + 1) (by omega), q_gg, q_gl, q_cl (show N < 2 ^ 31 by omega), q_cl (show N + 1 < 2 ^ 31 by omega)]
  exact hgo
