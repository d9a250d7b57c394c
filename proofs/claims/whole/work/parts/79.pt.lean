/-! PURE: the class counts parts and names members -/
theorem fO_ch : ∀ (t : Fm) (k : Nat), fok k t → ∀ s c, c ∈ fO k s t → 33 ≤ c ∧ c ≤ 126 := by
  intro t
  induction t with
  | nest i f ih =>
    intro k hk s c hc
    cases k with
    | zero =>
      have h1 : i.toNat ≤ 7 := hk
      rw [fO, List.mem_singleton] at hc
      omega
    | succ k => exact absurd hk (by simp [fok])
  | group P b ih =>
    intro k hk s c hc
    cases k with
    | succ k => exact absurd hk (by simp [fok])
    | zero =>
      rw [fO] at hc
      split at hc
      · rw [List.mem_cons, List.mem_append, List.mem_singleton] at hc
        rcases hc with hc | hc | hc
        · omega
        · exact ih 2 hk _ _ hc
        · omega
      · exact ih 2 hk _ _ hc
  | tag d l ih =>
    intro k hk s c hc
    cases k with
    | succ k => exact absurd hk (by simp [fok])
    | zero =>
      have h9 : (1 ≤ d ∧ d ≤ 9) ∧ fok 3 l := hk
      rw [fO] at hc
      simp only [List.mem_cons, List.mem_append, List.not_mem_nil, or_false] at hc
      rcases hc with hc | hc | hc | hc | hc | hc
      · omega
      · omega
      · omega
      · omega
      · exact ih 3 h9.2 _ _ hc
      · omega
  | append a b iha ihb =>
    intro k hk s c hc
    cases k with
    | zero => exact absurd hk (by simp [fok])
    | succ k =>
      obtain ⟨h1, h2, h3⟩ := hk
      by_cases hb : fnil b = true
      · rw [fO_a1 hb] at hc
        exact iha k h2 _ _ hc
      · have hb' : fnil b = false := by simpa using hb
        have h3' : fok (k + 1) b := by
          rcases h3 with h3 | h3
          · rw [hb'] at h3; exact absurd h3 (by decide)
          · exact h3.2
        have hsp : 33 ≤ fsep (k + 1) ∧ fsep (k + 1) ≤ 126 := by unfold fsep; split <;> omega
        rw [fO_a2 hb', List.mem_append, List.mem_cons] at hc
        rcases hc with hc | hc | hc
        · exact iha k h2 _ _ hc
        · rw [hc]; exact hsp
        · exact ihb (k + 1) h3' _ _ hc
  | _ => intro k hk; cases k <;> exact absurd hk (by simp [fok])
theorem z_L56 {N : Nat} {tf tp : Nat → Nat} {h1 h2 : Int32} {ful : Nat → Int32} (h : TX N tf tp) : ∀ k n a p m, a + k = N → k < n → F_X3_from_L56 n h1 h2 N (L tf) ful (nI p) (nI m) (nI a) = (F_X5_nestingOf N (L tf)).bind fun v14 => (F_X3_init (nI (sc1 (sfx N tp a) p m).1) v14 (nI (sc1 (sfx N tp a) p m).2)).bind fun v16 => some (v16.1, v16.2.1, v16.2.2, ful, h1, h2, N, L tf) := by
  have hN := h.1
  intro k
  induction k with
  | zero =>
    intro n a p m ha hn
    obtain ⟨n, rfl⟩ := z_fuel hn
    rw [F_X3_from_L56, sfx_nil (by omega)]
    exact ob z_tLen (if_pos (nI_le (by omega) (by omega)))
  | succ k ih =>
    intro n a p m ha hn
    obtain ⟨n, rfl⟩ := z_fuel (show 0 < n by omega)
    have haN : a < N := by omega
    obtain ⟨h3, h4, h5⟩ := h.2 a haN
    have hch := z_tChar (N := N) (i := a) (tf := tf) (by omega) haN (by omega)
    rw [h3] at hch
    have hct := z_isCnt h haN
    have hmb := z_isMem h haN
    have nx : nI a + 1 = nI (a + 1) := nI_1 a
    rw [F_X3_from_L56, sfx_cons haN, sc1]
    refine ob z_tLen ((if_neg (nI_ge haN (by omega))).trans (ob hmb ?_))
    by_cases c1 : (decide (48 ≤ tp a) && (decide (tp a ≤ 55) && !isCnt (tp a) (sfx N tp (a + 1)))) = true
    · rw [c1, if_pos rfl]
      have c2 : 48 ≤ tp a ∧ tp a ≤ 55 := by
        simp only [Bool.and_eq_true, decide_eq_true_eq] at c1
        exact ⟨c1.1, c1.2.1⟩
      refine (if_neg (show ¬ nI 1 = 0 by decide)).trans (ob hch ?_)
      rw [q_gl]
      unfold F_X3_from_L108
      have e1 : (nI m ||| ((1 : Int32) <<< ((nI (tp a) - 48) &&& 31))) = nI (m ||| 2 ^ (tp a - 48)) := by
        rw [show nI (tp a) - 48 = nI (tp a - 48) from pk_sub (a := tp a) (b := 48) c2.1]
        show nI m ||| (nI 1 <<< (nI (tp a - 48) &&& nI 31)) = _
        rw [q_shl1 (tp a - 48) (by omega), q_or]
      rw [e1, nx, show nI p + 1 = nI (p + 1) from nI_1 p]
      exact ih n (a + 1) (p + 1) _ (by omega) (by omega)
    · have c1' : (decide (48 ≤ tp a) && (decide (tp a ≤ 55) && !isCnt (tp a) (sfx N tp (a + 1)))) = false := by simpa using c1
      rw [c1', if_neg (show ¬ false = true by decide)]
      refine (if_pos rfl).trans (ob hct ?_)
      unfold F_X3_from_L108
      cases hcn : isCnt (tp a) (sfx N tp (a + 1)) with
      | true =>
        refine (if_neg (show ¬ nI 1 = 0 by decide)).trans ?_
        rw [nx, show nI p + 1 = nI (p + 1) from nI_1 p, if_pos (show true = true from rfl)]
        exact ih n (a + 1) (p + 1) m (by omega) (by omega)
      | false =>
        refine (if_pos rfl).trans ?_
        rw [nx, if_neg (show ¬ false = true by decide)]
        exact ih n (a + 1) p m (by omega) (by omega)
