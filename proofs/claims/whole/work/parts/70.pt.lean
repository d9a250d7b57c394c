/-! PURE: the reference's reader of policies is rP -/
theorem rP_0 (f : Nat) (l : List Nat) : rP (f + 1) 0 l = if hd l = 40 then
      (if (rP f 2 l.tail).1 = true then (if hd (rP f 2 l.tail).2 = 41 then (true, (rP f 2 l.tail).2.tail) else (false, (rP f 2 l.tail).2)) else (false, (rP f 2 l.tail).2))
    else if isD (hd l) = false then (false, l)
    else if hd l.tail = 111 ∧ hd l ≠ 48 then
      (if hd l.tail.tail = 102 then (if hd l.tail.tail.tail = 40 then
        (if (rP f 3 l.tail.tail.tail.tail).1 = true then (if hd (rP f 3 l.tail.tail.tail.tail).2 = 41 then (true, (rP f 3 l.tail.tail.tail.tail).2.tail) else (false, (rP f 3 l.tail.tail.tail.tail).2)) else (false, (rP f 3 l.tail.tail.tail.tail).2))
        else (false, l.tail.tail.tail)) else (false, l.tail.tail))
    else (decide (hd l ≤ 55), l.tail) := by rw [rP]
theorem rP_k (f k : Nat) (l : List Nat) : rP (f + 1) (k + 1) l = if (rP f k l).1 = true then (if hd (rP f k l).2 = fsep (k + 1) then rP f (k + 1) (rP f k l).2.tail else (true, (rP f k l).2)) else (false, (rP f k l).2) := by rw [rP]
theorem fsep_0 (k : Nat) : fsep k ≠ 0 := by
  unfold fsep
  split <;> omega
theorem rP_fuel : ∀ f k l, 4 * l.length + k + 1 ≤ f → rP (f + 1) k l = rP f k l := by
  intro f
  induction f with
  | zero => intro k l h; omega
  | succ f ih =>
    intro k l h
    cases k with
    | zero =>
      cases l with
      | nil => rw [rP_0, rP_0]; rfl
      | cons c r =>
        have hl : (c :: r).length = r.length + 1 := rfl
        have t4 : (c :: r).tail.tail.tail.tail.length ≤ r.length := by simp only [List.length_tail]; omega
        rw [rP_0, rP_0, ih 2 (c :: r).tail (by simp only [List.length_tail]; omega), ih 3 (c :: r).tail.tail.tail.tail (by omega)]
    | succ k =>
      have hr := rP_len f k l
      rw [rP_k (f + 1) k l, rP_k f k l, ih k l (by omega)]
      by_cases h1 : (rP f k l).1 = true
      · rw [if_pos h1, if_pos h1]
        by_cases h2 : hd (rP f k l).2 = fsep (k + 1)
        · rw [if_pos h2, if_pos h2]
          have := hd_len h2 (fsep_0 _)
          exact ih (k + 1) _ (by omega)
        · rw [if_neg h2, if_neg h2]
      · rw [if_neg h1, if_neg h1]
def rR (k : Nat) (l : List Nat) : Bool × List Nat := rP (4 * l.length + k + 1) k l
theorem rP_R {k : Nat} {l : List Nat} : ∀ d, rP (4 * l.length + k + 1 + d) k l = rR k l := by
  intro d
  induction d with
  | zero => rfl
  | succ d ih => rw [← ih, ← Nat.add_assoc]; exact rP_fuel _ k l (by omega)
theorem rP_r {f k : Nat} {l : List Nat} (h : 4 * l.length + k + 1 ≤ f) : rP f k l = rR k l := by
  have := rP_R (k := k) (l := l) (f - (4 * l.length + k + 1))
  rwa [show 4 * l.length + k + 1 + (f - (4 * l.length + k + 1)) = f by omega] at this
theorem rR_0 (l : List Nat) : rR 0 l = if hd l = 40 then
      (if (rR 2 l.tail).1 = true then (if hd (rR 2 l.tail).2 = 41 then (true, (rR 2 l.tail).2.tail) else (false, (rR 2 l.tail).2)) else (false, (rR 2 l.tail).2))
    else if isD (hd l) = false then (false, l)
    else if hd l.tail = 111 ∧ hd l ≠ 48 then
      (if hd l.tail.tail = 102 then (if hd l.tail.tail.tail = 40 then
        (if (rR 3 l.tail.tail.tail.tail).1 = true then (if hd (rR 3 l.tail.tail.tail.tail).2 = 41 then (true, (rR 3 l.tail.tail.tail.tail).2.tail) else (false, (rR 3 l.tail.tail.tail.tail).2)) else (false, (rR 3 l.tail.tail.tail.tail).2))
        else (false, l.tail.tail.tail)) else (false, l.tail.tail))
    else (decide (hd l ≤ 55), l.tail) := by
  cases l with
  | nil => rfl
  | cons c r =>
    have hl : (c :: r).length = r.length + 1 := rfl
    have t4 : (c :: r).tail.tail.tail.tail.length ≤ r.length := by simp only [List.length_tail]; omega
    show rP (4 * (c :: r).length + 0 + 1) 0 (c :: r) = _
    rw [rP_0, rP_r (show 4 * (c :: r).tail.length + 2 + 1 ≤ _ by simp only [List.length_tail]; omega), rP_r (k := 3) (l := (c :: r).tail.tail.tail.tail) (by omega)]
theorem rR_k (k : Nat) (l : List Nat) : rR (k + 1) l = if (rR k l).1 = true then (if hd (rR k l).2 = fsep (k + 1) then rR (k + 1) (rR k l).2.tail else (true, (rR k l).2)) else (false, (rR k l).2) := by
  show rP (4 * l.length + (k + 1) + 1) (k + 1) l = _
  rw [rP_k, rP_r (k := k) (l := l) (by omega)]
  by_cases h1 : (rR k l).1 = true
  · rw [if_pos h1, if_pos h1]
    by_cases h2 : hd (rR k l).2 = fsep (k + 1)
    · rw [if_pos h2, if_pos h2]
      have h3 := hd_len h2 (fsep_0 _)
      have h4 : (rR k l).2.length ≤ l.length := rP_len _ k l
      exact rP_r (by omega)
    · rw [if_neg h2, if_neg h2]
  · rw [if_neg h1, if_neg h1]
/-- a reading of the reference from a: what it tells, and where it stops -/
def RLr (N : Nat) (T : Nat → Nat) (k a : Nat) (v : Option (Int32 × Int32)) : Prop := ∃ b, a ≤ b ∧ b ≤ N ∧ (rR k (sfx N T a)).2 = sfx N T b ∧ v = some (nI (rR k (sfx N T a)).1.toNat, nI b)
def TO (N : Nat) (T : Nat → Nat) : Prop := N ≤ 40 ∧ ∀ i, i < N → 33 ≤ T i ∧ T i ≤ 126
theorem e_yes {N b c : Nat} {T : Nat → Nat} (h : TO N T) (hc : c ≠ 0) (hh : hd (sfx N T b) = c) : b < N ∧ F_X11_eats (L T) (nI N) (nI b) (nI c) = some (nI 1, nI (b + 1)) := by
  rw [sfx_hd] at hh
  have hN := h.1
  by_cases h1 : b < N
  · rw [if_pos h1] at hh
    refine ⟨h1, ?_⟩
    unfold F_X11_eats F_X11_eats_L23 F_X11_eats_L24 F_X11_eats_L39
    have hr := z_here (N := N) (i := b) (tp := T) hN (by omega)
    rw [if_pos h1] at hr
    refine (if_neg (nI_ge h1 (by omega))).trans (ob hr ((if_pos (congrArg nI hh)).trans ((if_neg (by decide)).trans ?_)))
    rw [show nI b + 1 = nI (b + 1) from nI_1 b]
    rfl
  · rw [if_neg h1] at hh
    exact absurd hh.symm hc
theorem e_no {N b c : Nat} {T : Nat → Nat} (h : TO N T) (hb : b < 1000) (hc : c < 127) (hh : hd (sfx N T b) ≠ c) : F_X11_eats (L T) (nI N) (nI b) (nI c) = some (nI 0, nI b) := by
  rw [sfx_hd] at hh
  have hN := h.1
  have fin : (if (0 : Int32) = 0 then F_X11_eats_L39 (nI b) 0 0 (nI b) else F_X11_eats_L39 (nI b) 0 1 (nI b)) = some (nI 0, nI b) := by
    refine (if_pos rfl).trans ?_
    unfold F_X11_eats_L39
    show gg _ (some (0, nI b + nI 0)) = _
    rw [nI_add]
    rfl
  unfold F_X11_eats F_X11_eats_L23 F_X11_eats_L24
  by_cases h1 : b < N
  · rw [if_pos h1] at hh
    have hr := z_here (N := N) (i := b) (tp := T) hN (by omega)
    rw [if_pos h1] at hr
    have := (h.2 b h1).2
    refine (if_neg (nI_ge h1 (by omega))).trans (ob hr ((if_neg (fun e => hh ((q_eqI (by omega) (by omega)).mp e))).trans fin))
  · exact (if_pos (nI_le (by omega) (by omega))).trans fin
theorem r26a (b : Nat) : F_X11_readsAll_L26 (nI b) (nI 0) = some (nI 0, nI b) := by
  unfold F_X11_readsAll_L26
  rw [q_nar0, q_gg]
theorem r26b (b : Nat) : F_X11_readsPolicy_L26 (nI b) (nI 0) = some (nI 0, nI b) := by
  unfold F_X11_readsPolicy_L26
  rw [q_nar0, q_gg]
theorem r26c (b : Nat) : F_X11_readsAll_L26 (nI b) (nI 1) = some (nI 1, nI b) := by
  unfold F_X11_readsAll_L26
  rw [q_nar1, q_gg]
theorem r26d (b : Nat) : F_X11_readsPolicy_L26 (nI b) (nI 1) = some (nI 1, nI b) := by
  unfold F_X11_readsPolicy_L26
  rw [q_nar1, q_gg]
section
variable {N a0 : Nat} {T : Nat → Nat} {P : (Nat → Int32) → Int32 → Int32 → Option (Int32 × Int32)}
theorem l_all (h : TO N T) (hP : ∀ b, a0 ≤ b → b ≤ N → RLr N T 0 b (P (L T) (nI N) (nI b))) : ∀ k n b, b + k = N → a0 ≤ b → k + 1 < n → ∃ b', b ≤ b' ∧ b' ≤ N ∧ (if hd (sfx N T b) = 38 then rR 1 (sfx N T (b + 1)) else (true, sfx N T b)).2 = sfx N T b' ∧ F_X11_readsAll_L5 P (L T) (nI N) n (nI b) (nI 1) = some (nI (if hd (sfx N T b) = 38 then rR 1 (sfx N T (b + 1)) else (true, sfx N T b)).1.toNat, nI b') := by
  have hN := h.1
  intro k
  induction k using Nat.strongRecOn with
  | _ k ih =>
    intro n b hb ha hn
    obtain ⟨n, rfl⟩ := z_fuel (show 0 < n by omega)
    rw [F_X11_readsAll_L5]
    by_cases h1 : hd (sfx N T b) = 38
    · rw [if_pos h1]
      obtain ⟨hbN, e1⟩ := e_yes (c := 38) h (by omega) h1
      obtain ⟨b2, g1, g2, g3, g4⟩ := hP (b + 1) (by omega) (by omega)
      rw [rR_k]
      cases hv : (rR 0 (sfx N T (b + 1))).1 with
      | false =>
        rw [if_neg (by simp), g3]
        rw [hv] at g4
        obtain ⟨n, rfl⟩ := z_fuel (show 0 < n by omega)
        refine ⟨b2, by omega, g2, rfl, (if_neg (by decide)).trans (ob e1 ((if_neg (show ¬ nI 1 = 0 by decide)).trans (ob g4 ?_)))⟩
        rw [F_X11_readsAll_L5]
        exact (if_pos rfl).trans (r26a _)
      | true =>
        rw [if_pos rfl, g3]
        rw [hv] at g4
        obtain ⟨b', i1, i2, i3, i4⟩ := ih (N - b2) (by omega) n b2 (by omega) (by omega) (by omega)
        rw [sfx_tl]
        exact ⟨b', by omega, i2, i3, (if_neg (by decide)).trans (ob e1 ((if_neg (show ¬ nI 1 = 0 by decide)).trans (ob g4 i4)))⟩
    · rw [if_neg h1]
      exact ⟨b, Nat.le_refl b, by omega, rfl, (if_neg (by decide)).trans (ob (e_no (c := 38) h (by omega) (by omega) h1) ((if_pos rfl).trans (r26c _)))⟩
theorem g_all (h : TO N T) (hP : ∀ b, a0 ≤ b → b ≤ N → RLr N T 0 b (P (L T) (nI N) (nI b))) (b : Nat) (hb : a0 ≤ b) (hb2 : b ≤ N) : RLr N T 1 b (F_X11_readsAll P (L T) (nI N) (nI b)) := by
  have hN := h.1
  unfold F_X11_readsAll RLr
  obtain ⟨b2, g1, g2, g3, g4⟩ := hP b hb hb2
  rw [rR_k]
  cases hv : (rR 0 (sfx N T b)).1 with
  | false =>
    rw [if_neg (by simp), g3]
    rw [hv] at g4
    refine ⟨b2, g1, g2, rfl, ob g4 ?_⟩
    obtain ⟨n, hn⟩ : ∃ n, (1000 : Nat) = n + 1 := ⟨999, rfl⟩
    rw [hn, F_X11_readsAll_L5]
    exact (if_pos rfl).trans (r26a _)
  | true =>
    rw [if_pos rfl, g3]
    rw [hv] at g4
    obtain ⟨b', i1, i2, i3, i4⟩ := l_all h hP (N - b2) 1000 b2 (by omega) (by omega) (by omega)
    rw [sfx_tl]
    exact ⟨b', by omega, i2, i3, ob g4 i4⟩
theorem l_pol (h : TO N T) (hP : ∀ b, a0 ≤ b → b ≤ N → RLr N T 0 b (P (L T) (nI N) (nI b))) : ∀ k n b, b + k = N → a0 ≤ b → k + 1 < n → ∃ b', b ≤ b' ∧ b' ≤ N ∧ (if hd (sfx N T b) = 124 then rR 2 (sfx N T (b + 1)) else (true, sfx N T b)).2 = sfx N T b' ∧ F_X11_readsPolicy_L5 P (L T) (nI N) n (nI b) (nI 1) = some (nI (if hd (sfx N T b) = 124 then rR 2 (sfx N T (b + 1)) else (true, sfx N T b)).1.toNat, nI b') := by
  have hN := h.1
  intro k
  induction k using Nat.strongRecOn with
  | _ k ih =>
    intro n b hb ha hn
    obtain ⟨n, rfl⟩ := z_fuel (show 0 < n by omega)
    rw [F_X11_readsPolicy_L5]
    by_cases h1 : hd (sfx N T b) = 124
    · rw [if_pos h1]
      obtain ⟨hbN, e1⟩ := e_yes (c := 124) h (by omega) h1
      obtain ⟨b2, g1, g2, g3, g4⟩ := g_all h hP (b + 1) (by omega) (by omega)
      rw [rR_k]
      cases hv : (rR 1 (sfx N T (b + 1))).1 with
      | false =>
        rw [if_neg (by simp), g3]
        rw [hv] at g4
        obtain ⟨n, rfl⟩ := z_fuel (show 0 < n by omega)
        refine ⟨b2, by omega, g2, rfl, (if_neg (by decide)).trans (ob e1 ((if_neg (show ¬ nI 1 = 0 by decide)).trans (ob g4 ?_)))⟩
        rw [F_X11_readsPolicy_L5]
        exact (if_pos rfl).trans (r26b _)
      | true =>
        rw [if_pos rfl, g3]
        rw [hv] at g4
        obtain ⟨b', i1, i2, i3, i4⟩ := ih (N - b2) (by omega) n b2 (by omega) (by omega) (by omega)
        rw [sfx_tl]
        exact ⟨b', by omega, i2, i3, (if_neg (by decide)).trans (ob e1 ((if_neg (show ¬ nI 1 = 0 by decide)).trans (ob g4 i4)))⟩
    · rw [if_neg h1]
      exact ⟨b, Nat.le_refl b, by omega, rfl, (if_neg (by decide)).trans (ob (e_no (c := 124) h (by omega) (by omega) h1) ((if_pos rfl).trans (r26d _)))⟩
theorem g_pol (h : TO N T) (hP : ∀ b, a0 ≤ b → b ≤ N → RLr N T 0 b (P (L T) (nI N) (nI b))) (b : Nat) (hb : a0 ≤ b) (hb2 : b ≤ N) : RLr N T 2 b (F_X11_readsPolicy P (L T) (nI N) (nI b)) := by
  have hN := h.1
  unfold F_X11_readsPolicy RLr
  obtain ⟨b2, g1, g2, g3, g4⟩ := g_all h hP b hb hb2
  rw [rR_k]
  cases hv : (rR 1 (sfx N T b)).1 with
  | false =>
    rw [if_neg (by simp), g3]
    rw [hv] at g4
    refine ⟨b2, g1, g2, rfl, ob g4 ?_⟩
    obtain ⟨n, hn⟩ : ∃ n, (1000 : Nat) = n + 1 := ⟨999, rfl⟩
    rw [hn, F_X11_readsPolicy_L5]
    exact (if_pos rfl).trans (r26b _)
  | true =>
    rw [if_pos rfl, g3]
    rw [hv] at g4
    obtain ⟨b', i1, i2, i3, i4⟩ := l_pol h hP (N - b2) 1000 b2 (by omega) (by omega) (by omega)
    rw [sfx_tl]
    exact ⟨b', by omega, i2, i3, ob g4 i4⟩
end
