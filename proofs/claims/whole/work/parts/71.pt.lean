/-! PURE: the reference's reader of policies is rP: parts -/
def rcl (x : Bool × List Nat) : Bool × List Nat := if x.1 = true then (if hd x.2 = 41 then (true, x.2.tail) else (false, x.2)) else (false, x.2)
def RLx (N : Nat) (T : Nat → Nat) (a : Nat) (x : Bool × List Nat) (v : Option (Int32 × Int32)) : Prop := ∃ b, a ≤ b ∧ b ≤ N ∧ x.2 = sfx N T b ∧ v = some (nI x.1.toNat, nI b)
section
variable {N a0 : Nat} {T : Nat → Nat} {P : (Nat → Int32) → Int32 → Int32 → Option (Int32 × Int32)}
theorem l_arg (h : TO N T) (hP : ∀ b, a0 ≤ b → b ≤ N → RLr N T 0 b (P (L T) (nI N) (nI b))) : ∀ k n b, b + k = N → a0 ≤ b → k + 1 < n → RLx N T b (rcl (if hd (sfx N T b) = 44 then rR 3 (sfx N T (b + 1)) else (true, sfx N T b))) (FB_X11_readsPart_L123 P (L T) (nI N) n (nI b)) := by
  have hN := h.1
  intro k
  induction k using Nat.strongRecOn with
  | _ k ih =>
    intro n b hb ha hn
    obtain ⟨n, rfl⟩ := z_fuel (show 0 < n by omega)
    rw [FB_X11_readsPart_L123]
    by_cases h1 : hd (sfx N T b) = 44
    · rw [if_pos h1]
      obtain ⟨hbN, e1⟩ := e_yes (c := 44) h (by omega) h1
      obtain ⟨b2, g1, g2, g3, g4⟩ := g_pol h hP (b + 1) (by omega) (by omega)
      rw [rR_k]
      cases hv : (rR 2 (sfx N T (b + 1))).1 with
      | false =>
        rw [if_neg (by simp), g3]
        rw [hv] at g4
        exact ⟨b2, by omega, g2, rfl, ob e1 ((if_neg (show ¬ nI 1 = 0 by decide)).trans (ob g4 ((if_pos rfl).trans rfl)))⟩
      | true =>
        rw [if_pos rfl, g3]
        rw [hv] at g4
        obtain ⟨b', i1, i2, i3, i4⟩ := ih (N - b2) (by omega) n b2 (by omega) (by omega) (by omega)
        rw [sfx_tl]
        exact ⟨b', by omega, i2, i3, ob e1 ((if_neg (show ¬ nI 1 = 0 by decide)).trans (ob g4 ((if_neg (show ¬ nI 1 = 0 by decide)).trans i4)))⟩
    · rw [if_neg h1]
      have e1 := e_no (c := 44) h (show b < 1000 by omega) (by omega) h1
      unfold rcl
      rw [if_pos rfl]
      by_cases h2 : hd (sfx N T b) = 41
      · obtain ⟨hbN, e2⟩ := e_yes (c := 41) h (by omega) h2
        rw [if_pos h2]
        refine ⟨b + 1, by omega, by omega, sfx_tl, ob e1 ((if_pos rfl).trans (ob e2 ?_))⟩
        show gg (gnar .boolean (nI 1)) _ = _
        rw [q_nar1, q_gg]
        rfl
      · rw [if_neg h2]
        refine ⟨b, by omega, by omega, rfl, ob e1 ((if_pos rfl).trans (ob (e_no (c := 41) h (by omega) (by omega) h2) ?_))⟩
        show gg (gnar .boolean (nI 0)) _ = _
        rw [q_nar0, q_gg]
        rfl
theorem g_arg (h : TO N T) (hP : ∀ b, a0 ≤ b → b ≤ N → RLr N T 0 b (P (L T) (nI N) (nI b))) (b : Nat) (hb : a0 ≤ b) (hb2 : b ≤ N) : RLx N T b (rcl (rR 3 (sfx N T b))) ((F_X11_readsPolicy P (L T) (nI N) (nI b)).bind fun v21 => if v21.1 = 0 then (FB_X11_readsPart_L121 v21.2) else (FB_X11_readsPart_L123 P (L T) (nI N) 1000 v21.2)) := by
  have hN := h.1
  obtain ⟨b2, g1, g2, g3, g4⟩ := g_pol h hP b hb hb2
  rw [rR_k]
  cases hv : (rR 2 (sfx N T b)).1 with
  | false =>
    rw [if_neg (by simp), g3]
    rw [hv] at g4
    exact ⟨b2, g1, g2, rfl, ob g4 ((if_pos rfl).trans rfl)⟩
  | true =>
    rw [if_pos rfl, g3]
    rw [hv] at g4
    obtain ⟨b', i1, i2, i3, i4⟩ := l_arg h hP (N - b2) 1000 b2 (by omega) (by omega) (by omega)
    rw [sfx_tl]
    exact ⟨b', by omega, i2, i3, ob g4 ((if_neg (show ¬ nI 1 = 0 by decide)).trans i4)⟩
theorem g_grp (h : TO N T) (hP : ∀ b, a0 ≤ b → b ≤ N → RLr N T 0 b (P (L T) (nI N) (nI b))) (b : Nat) (hb : a0 ≤ b) (hb2 : b ≤ N) : RLx N T b (rcl (rR 2 (sfx N T b))) ((F_X11_readsPolicy P (L T) (nI N) (nI b)).bind fun v33 => if v33.1 = 0 then (FB_X11_readsPart_L29 v33.2) else ((F_X11_eats (L T) (nI N) v33.2 41).bind fun v37 => if v37.1 = 0 then (FB_X11_readsPart_L29 v37.2) else (FB_X11_readsPart_L30 v37.2 1))) := by
  have hN := h.1
  have l29 : ∀ b, FB_X11_readsPart_L29 (nI b) = some (nI 0, nI b) := fun b => by
    unfold FB_X11_readsPart_L29 FB_X11_readsPart_L30
    rw [show (0 : Int32) = nI 0 from rfl, q_nar0, q_gg]
  have l30 : ∀ b, FB_X11_readsPart_L30 (nI b) 1 = some (nI 1, nI b) := fun b => by
    unfold FB_X11_readsPart_L30
    rw [show (1 : Int32) = nI 1 from rfl, q_nar1, q_gg]
  obtain ⟨b2, g1, g2, g3, g4⟩ := g_pol h hP b hb hb2
  unfold rcl
  cases hv : (rR 2 (sfx N T b)).1 with
  | false =>
    rw [if_neg (by simp), g3]
    rw [hv] at g4
    exact ⟨b2, g1, g2, rfl, ob g4 ((if_pos rfl).trans (l29 b2))⟩
  | true =>
    rw [if_pos rfl, g3]
    rw [hv] at g4
    by_cases h2 : hd (sfx N T b2) = 41
    · obtain ⟨hbN, e2⟩ := e_yes (c := 41) h (by omega) h2
      rw [if_pos h2]
      exact ⟨b2 + 1, by omega, by omega, sfx_tl, ob g4 ((if_neg (show ¬ nI 1 = 0 by decide)).trans (ob e2 ((if_neg (show ¬ nI 1 = 0 by decide)).trans (l30 _))))⟩
    · rw [if_neg h2]
      exact ⟨b2, by omega, by omega, rfl, ob g4 ((if_neg (show ¬ nI 1 = 0 by decide)).trans (ob (e_no (c := 41) h (by omega) (by omega) h2) ((if_pos rfl).trans (l29 _))))⟩
end
theorem z_l74 {c b : Nat} (hc : c < 127) : FB_X11_readsPart_L74 (nI b) (nI c) = some (nI (decide (c ≤ 55)).toNat, nI b) := by
  unfold FB_X11_readsPart_L74 FB_X11_readsPart_L85
  by_cases h : c ≤ 55
  · rw [decide_eq_true h]
    refine (if_neg (show ¬ nI 55 < nI c from nI_nlt h (by omega))).trans ?_
    rw [show (1 : Int32) = nI 1 from rfl, q_nar1, q_gg]
    rfl
  · rw [decide_eq_false h]
    refine (if_pos (show nI 55 < nI c from nI_lt (by omega) (by omega))).trans ?_
    rw [show (0 : Int32) = nI 0 from rfl, q_nar0, q_gg]
    rfl
theorem RLx_r {N k a : Nat} {T : Nat → Nat} {v : Option (Int32 × Int32)} : RLr N T k a v ↔ RLx N T a (rR k (sfx N T a)) v := Iff.rfl
theorem RLx_m {N a a' : Nat} {T : Nat → Nat} {x : Bool × List Nat} {v : Option (Int32 × Int32)} (h : a' ≤ a) (k : RLx N T a x v) : RLx N T a' x v := by
  obtain ⟨b, h1, h2⟩ := k
  exact ⟨b, by omega, h2⟩
theorem z_part {N : Nat} {T : Nat → Nat} (h : TO N T) : ∀ d a, a ≤ N → N - a < d → RLr N T 0 a (F_X11_readsPart d (L T) (nI N) (nI a)) := by
  have hN := h.1
  intro d
  induction d with
  | zero => intro a _ hdd; omega
  | succ d ih =>
    intro a ha hdd
    rw [F_X11_readsPart]
    unfold FB_X11_readsPart
    rw [RLx_r, rR_0, sfx_tl, sfx_tl, sfx_tl, sfx_tl]
    have hP : a < N → ∀ b, a + 1 ≤ b → b ≤ N → RLr N T 0 b (F_X11_readsPart d (L T) (nI N) (nI b)) := fun h1 b h2 h3 => ih b h3 (by omega)
    by_cases h1 : hd (sfx N T a) = 40
    · obtain ⟨haN, e1⟩ := e_yes (c := 40) h (by omega) h1
      rw [if_pos h1]
      obtain ⟨b', i1, i2, i3, i4⟩ := g_grp h (hP haN) (a + 1) (by omega) (by omega)
      exact ⟨b', by omega, i2, i3, ob e1 ((if_neg (show ¬ nI 1 = 0 by decide)).trans i4)⟩
    rw [if_neg h1]
    have e1 := e_no (c := 40) h (show a < 1000 by omega) (by omega) h1
    have hh := z_here (N := N) (i := a) (tp := T) hN (by omega)
    rw [← sfx_hd] at hh
    have hc : hd (sfx N T a) < 127 := by
      rw [sfx_hd]
      by_cases g : a < N
      · rw [if_pos g]; have := (h.2 a g).2; omega
      · rw [if_neg g]; omega
    by_cases h2 : isD (hd (sfx N T a)) = false
    · rw [if_pos h2]
      have hin : F_X11_in (nI (hd (sfx N T a))) 48 57 = some (nI 0) := by
        have : ¬ (48 ≤ hd (sfx N T a) ∧ hd (sfx N T a) ≤ 57) := fun e => by
          unfold isD at h2
          rw [decide_eq_true e.1, decide_eq_true e.2] at h2
          exact absurd h2 (by decide)
        exact z_inno (a := 48) (b := 57) (by omega) (by omega) (by omega)
      exact ⟨a, by omega, ha, rfl, ob e1 ((if_pos rfl).trans (ob hh (ob hin ((if_pos rfl).trans rfl))))⟩
    rw [if_neg h2]
    have h2' : 48 ≤ hd (sfx N T a) ∧ hd (sfx N T a) ≤ 57 := by
      unfold isD at h2
      simpa using h2
    have hin : F_X11_in (nI (hd (sfx N T a))) 48 57 = some (nI 1) := z_inok (a := 48) (b := 57) h2'.1 h2'.2 (by omega)
    have haN : a < N := by
      by_cases g : a < N
      · exact g
      · rw [sfx_hd, if_neg g] at h2'
        omega
    have hh2 := z_here (N := N) (i := a + 1) (tp := T) hN (by omega)
    rw [← sfx_hd] at hh2
    have hc2 : hd (sfx N T (a + 1)) < 127 := by
      rw [sfx_hd]
      by_cases g : a + 1 < N
      · rw [if_pos g]; have := (h.2 (a + 1) g).2; omega
      · rw [if_neg g]; omega
    have pre : ∀ (v : Option (Int32 × Int32)), (if nI (hd (sfx N T (a + 1))) = 111 then (if nI (hd (sfx N T a)) = 48 then (FB_X11_readsPart_L74 (nI a + 1) (nI (hd (sfx N T a)))) else ((F_X11_eats (L T) (nI N) ((nI a + 1) + 1) 102).bind fun v15 => if v15.1 = 0 then (FB_X11_readsPart_L121 v15.2) else ((F_X11_eats (L T) (nI N) v15.2 40).bind fun v18 => if v18.1 = 0 then (FB_X11_readsPart_L121 v18.2) else ((F_X11_readsPolicy (F_X11_readsPart d) (L T) (nI N) v18.2).bind fun v21 => if v21.1 = 0 then (FB_X11_readsPart_L121 v21.2) else (FB_X11_readsPart_L123 (F_X11_readsPart d) (L T) (nI N) 1000 v21.2))))) else (FB_X11_readsPart_L74 (nI a + 1) (nI (hd (sfx N T a))))) = v → ((F_X11_eats (L T) (nI N) (nI a) 40).bind fun v1 => if v1.1 = 0 then ((F_X11_here (L T) (nI N) v1.2).bind fun v4 => (F_X11_in v4 48 57).bind fun v6 => if v6 = 0 then (some (0, v1.2)) else ((F_X11_here (L T) (nI N) (v1.2 + 1)).bind fun v9 => if v9 = 111 then (if v4 = 48 then (FB_X11_readsPart_L74 (v1.2 + 1) v4) else ((F_X11_eats (L T) (nI N) ((v1.2 + 1) + 1) 102).bind fun v15 => if v15.1 = 0 then (FB_X11_readsPart_L121 v15.2) else ((F_X11_eats (L T) (nI N) v15.2 40).bind fun v18 => if v18.1 = 0 then (FB_X11_readsPart_L121 v18.2) else ((F_X11_readsPolicy (F_X11_readsPart d) (L T) (nI N) v18.2).bind fun v21 => if v21.1 = 0 then (FB_X11_readsPart_L121 v21.2) else (FB_X11_readsPart_L123 (F_X11_readsPart d) (L T) (nI N) 1000 v21.2))))) else (FB_X11_readsPart_L74 (v1.2 + 1) v4))) else ((F_X11_readsPolicy (F_X11_readsPart d) (L T) (nI N) v1.2).bind fun v33 => if v33.1 = 0 then (FB_X11_readsPart_L29 v33.2) else ((F_X11_eats (L T) (nI N) v33.2 41).bind fun v37 => if v37.1 = 0 then (FB_X11_readsPart_L29 v37.2) else (FB_X11_readsPart_L30 v37.2 1)))) = v := by
      intro v hv
      refine ob e1 ((if_pos rfl).trans (ob hh (ob hin ((if_neg (show ¬ nI 1 = 0 by decide)).trans ?_))))
      refine ob (x := nI (hd (sfx N T (a + 1)))) ?_ hv
      show F_X11_here (L T) (nI N) (nI a + 1) = _
      rw [show nI a + 1 = nI (a + 1) from nI_1 a]
      exact hh2
    by_cases h3 : hd (sfx N T (a + 1)) = 111 ∧ hd (sfx N T a) ≠ 48
    · rw [if_pos h3]
      have p1 : nI (hd (sfx N T (a + 1))) = nI 111 := congrArg nI h3.1
      have p2 : ¬ nI (hd (sfx N T a)) = nI 48 := fun e => h3.2 ((q_eqI (by omega) (by omega)).mp e)
      have haN2 : a + 1 < N := by
        by_cases g : a + 1 < N
        · exact g
        · have := h3.1
          rw [sfx_hd, if_neg g] at this
          omega
      have a2 : nI a + 1 + 1 = nI (a + 1 + 1) := by rw [show nI a + 1 = nI (a + 1) from nI_1 a]; exact nI_1 (a + 1)
      by_cases h4 : hd (sfx N T (a + 1 + 1)) = 102
      · rw [if_pos h4]
        obtain ⟨h4N, e4⟩ := e_yes (c := 102) h (by omega) h4
        by_cases h5 : hd (sfx N T (a + 1 + 1 + 1)) = 40
        · rw [if_pos h5]
          obtain ⟨h5N, e5⟩ := e_yes (c := 40) h (by omega) h5
          obtain ⟨b', i1, i2, i3, i4⟩ := g_arg h (hP haN) (a + 1 + 1 + 1 + 1) (by omega) (by omega)
          refine ⟨b', by omega, i2, i3, pre _ ((if_pos p1).trans ((if_neg p2).trans ?_))⟩
          rw [a2]
          exact ob e4 ((if_neg (show ¬ nI 1 = 0 by decide)).trans (ob e5 ((if_neg (show ¬ nI 1 = 0 by decide)).trans i4)))
        · rw [if_neg h5]
          refine ⟨a + 1 + 1 + 1, by omega, by omega, rfl, pre _ ((if_pos p1).trans ((if_neg p2).trans ?_))⟩
          rw [a2]
          exact ob e4 ((if_neg (show ¬ nI 1 = 0 by decide)).trans (ob (e_no (c := 40) h (by omega) (by omega) h5) ((if_pos rfl).trans rfl)))
      · rw [if_neg h4]
        refine ⟨a + 1 + 1, by omega, by omega, rfl, pre _ ((if_pos p1).trans ((if_neg p2).trans ?_))⟩
        rw [a2]
        exact ob (e_no (c := 102) h (by omega) (by omega) h4) ((if_pos rfl).trans rfl)
    · rw [if_neg h3]
      have l74 : FB_X11_readsPart_L74 (nI a + 1) (nI (hd (sfx N T a))) = some (nI (decide (hd (sfx N T a) ≤ 55)).toNat, nI (a + 1)) := by
        rw [show nI a + 1 = nI (a + 1) from nI_1 a]
        exact z_l74 hc
      refine ⟨a + 1, by omega, by omega, rfl, pre _ ?_⟩
      by_cases h6 : hd (sfx N T (a + 1)) = 111
      · have h7 : hd (sfx N T a) = 48 := by
          by_cases g : hd (sfx N T a) = 48
          · exact g
          · exact absurd ⟨h6, g⟩ h3
        exact (if_pos (congrArg nI h6)).trans ((if_pos (congrArg nI h7)).trans l74)
      · exact (if_neg (fun e => h6 ((q_eqI (by omega) (by omega)).mp e))).trans l74
/-- the reference reads a text's policy as rR 2 -/
theorem z_pol11 {N : Nat} {T : Nat → Nat} (h : TO N T) : RLr N T 2 0 (F_X11_readsPolicy (F_X11_readsPart 64) (L T) (nI N) 0) := g_pol (a0 := 0) h (fun b _ hb => z_part h 64 b hb (by have := h.1; omega)) 0 (by omega) (by omega)
