/-! PURE: the class's reader of policies is rM -/
def sfx (N : Nat) (T : Nat → Nat) (a : Nat) : List Nat := (List.range (N - a)).map (fun i => T (a + i))
theorem sfx_len (N : Nat) (T : Nat → Nat) (a : Nat) : (sfx N T a).length = N - a := by simp [sfx]
theorem sfx_cons {N a : Nat} {T : Nat → Nat} (h : a < N) : sfx N T a = T a :: sfx N T (a + 1) := by
  unfold sfx
  rw [show N - a = (N - (a + 1)) + 1 by omega, List.range_succ_eq_map, List.map_cons, List.map_map, Nat.add_zero]
  congr 1
  apply List.map_congr_left
  intro i _
  show T (a + (i + 1)) = T (a + 1 + i)
  rw [show a + (i + 1) = a + 1 + i by omega]
theorem sfx_nil {N a : Nat} {T : Nat → Nat} (h : N ≤ a) : sfx N T a = [] := by
  unfold sfx
  rw [show N - a = 0 by omega]
  rfl
theorem sfx_hd (N : Nat) (T : Nat → Nat) (a : Nat) : hd (sfx N T a) = if a < N then T a else 0 := by
  by_cases h : a < N
  · rw [sfx_cons h, if_pos h]; rfl
  · rw [sfx_nil (by omega), if_neg h]; rfl
theorem sfx_tl {N a : Nat} {T : Nat → Nat} : (sfx N T a).tail = sfx N T (a + 1) := by
  by_cases h : a < N
  · rw [sfx_cons h]; rfl
  · rw [sfx_nil (by omega), sfx_nil (by omega)]; rfl
theorem z_signAt {N p c : Nat} {tf tp : Nat → Nat} (h : TX N tf tp) (hp : p < 1000) (hc : c < 127) (hc0 : c ≠ 0) : F_X5_isSignAt N (L tf) (nI p) (nI c) = some (nI (decide (hd (sfx N tp p) = c)).toNat) := by
  unfold F_X5_isSignAt F_X5_isSignAt_L25 F_X5_isSignAt_L26
  rw [sfx_hd]
  have hN := h.1
  refine (if_neg (show ¬ nI p < nI 0 from nI_nlt (by omega) (by omega))).trans (ob z_tLen ?_)
  by_cases h1 : p < N
  · obtain ⟨h3, h4, h5⟩ := h.2 p h1
    have hch := z_tChar (N := N) (i := p) (tf := tf) (by omega) h1 (by omega)
    rw [h3] at hch
    rw [if_pos h1]
    refine (if_neg (nI_ge h1 (by omega))).trans (ob hch ?_)
    by_cases h6 : tp p = c
    · rw [decide_eq_true h6]
      exact (if_pos (congrArg nI h6)).trans rfl
    · rw [decide_eq_false h6]
      exact (if_neg (fun e => h6 ((q_eqI (by omega) (by omega)).mp e))).trans rfl
  · rw [if_neg h1, decide_eq_false (fun e => hc0 e.symm)]
    exact (if_pos (nI_le (by omega) (by omega))).trans rfl
theorem z_isCnt {N p : Nat} {tf tp : Nat → Nat} (h : TX N tf tp) (hp : p < N) : F_X5_isCount N (L tf) (nI p) = some (nI (isCnt (tp p) (sfx N tp (p + 1))).toNat) := by
  have hN := h.1
  obtain ⟨h3, h4, h5⟩ := h.2 p hp
  have hch := z_tChar (N := N) (i := p) (tf := tf) (by omega) hp (by omega)
  rw [h3] at hch
  have hsg := z_signAt (p := p + 1) (c := 111) h (by omega) (by omega) (by omega)
  unfold F_X5_isCount F_X5_isCount_L36 F_X5_isCount_L37 isCnt
  refine ob hch ?_
  by_cases h6 : tp p < 49
  · rw [decide_eq_false (show ¬ 49 ≤ tp p by omega), Bool.false_and]
    exact (if_pos (show nI (tp p) < nI 49 from nI_lt h6 (by omega))).trans rfl
  · rw [decide_eq_true (show 49 ≤ tp p by omega), Bool.true_and]
    refine (if_neg (show ¬ nI (tp p) < nI 49 from nI_nlt (by omega) (by omega))).trans (ob hch ?_)
    by_cases h7 : tp p ≤ 57
    · rw [decide_eq_true h7, Bool.true_and]
      refine (if_neg (show ¬ nI 57 < nI (tp p) from nI_nlt h7 (by omega))).trans ?_
      rw [show nI p + 1 = nI (p + 1) from nI_1 p]
      refine ob hsg ?_
      by_cases h8 : hd (sfx N tp (p + 1)) = 111
      · rw [decide_eq_true h8]
        exact (if_neg (by decide)).trans rfl
      · rw [decide_eq_false h8]
        exact (if_pos rfl).trans rfl
    · rw [decide_eq_false h7, Bool.false_and]
      exact (if_pos (show nI 57 < nI (tp p) from nI_lt (by omega) (by omega))).trans rfl
theorem z_isMem {N p : Nat} {tf tp : Nat → Nat} (h : TX N tf tp) (hp : p < N) : F_X5_isMember N (L tf) (nI p) = some (nI (decide (48 ≤ tp p) && (decide (tp p ≤ 55) && !isCnt (tp p) (sfx N tp (p + 1)))).toNat) := by
  have hN := h.1
  obtain ⟨h3, h4, h5⟩ := h.2 p hp
  have hch := z_tChar (N := N) (i := p) (tf := tf) (by omega) hp (by omega)
  rw [h3] at hch
  have hct := z_isCnt h hp
  unfold F_X5_isMember F_X5_isMember_L32 F_X5_isMember_L33
  refine ob hch ?_
  by_cases h6 : tp p < 48
  · rw [decide_eq_false (show ¬ 48 ≤ tp p by omega), Bool.false_and]
    exact (if_pos (show nI (tp p) < nI 48 from nI_lt h6 (by omega))).trans rfl
  · rw [decide_eq_true (show 48 ≤ tp p by omega), Bool.true_and]
    refine (if_neg (show ¬ nI (tp p) < nI 48 from nI_nlt (by omega) (by omega))).trans (ob hch ?_)
    by_cases h7 : tp p ≤ 55
    · rw [decide_eq_true h7, Bool.true_and]
      refine (if_neg (show ¬ nI 55 < nI (tp p) from nI_nlt h7 (by omega))).trans (ob hct ?_)
      cases isCnt (tp p) (sfx N tp (p + 1))
      · exact (if_pos rfl).trans rfl
      · exact (if_neg (by decide)).trans rfl
    · rw [decide_eq_false h7, Bool.false_and]
      exact (if_pos (show nI 55 < nI (tp p) from nI_lt (by omega) (by omega))).trans rfl
theorem z_begin4 {on o : Nat} {d : Int32} {oc : Nat → Nat} {b : Nat} (hb : b < 2) (ho : o + 1 < on) (hon : on < 1000) : F_X4_begin (nI o) d on (L oc) (nI b) = some (nI (o + 1), 0, L (updN oc (o + 1) b)) := by
  have hvn : vp_nar .boolean (nI b) = nI b := by
    have : b = 0 ∨ b = 1 := by omega
    rcases this with rfl | rfl <;> decide
  unfold F_X4_begin F_X4_begin_L34
  rw [show nI o + 1 = nI (o + 1) from nI_1 o]
  refine (if_neg (show ¬ nI on ≤ nI (o + 1) from nI_ge ho (by omega))).trans ?_
  rw [q_gi ho (by omega), q_gg, q_gl, q_cl (by omega), hvn, L_upd]
theorem z_behind {on o c : Nat} {d : Int32} {oc : Nat → Nat} (ho : o < on) (hon : on < 1000) (hc : c < 127) (hoc : ∀ i, oc i < 2) : F_X4_takesBehindPart (nI o) d on (L oc) (nI c) = some (if c = 41 ∧ 0 < o then (nI 1, nI (o - 1), d) else if c = 38 ∨ c = 124 ∨ (c = 44 ∧ oc o ≠ 0) then (nI 1, nI o, 0) else (nI 0, nI o, 0)) := by
  have eq : ∀ k, k < 127 → ((nI c = nI k) = (c = k)) := fun k hk => q_eqI (by omega) (by omega)
  have L25 : ¬ (c = 41 ∧ 0 < o) → F_X4_takesBehindPart_L25 on (L oc) (nI c) (nI o) d = some (if c = 41 ∧ 0 < o then (nI 1, nI (o - 1), d) else if c = 38 ∨ c = 124 ∨ (c = 44 ∧ oc o ≠ 0) then (nI 1, nI o, 0) else (nI 0, nI o, 0)) := by
    intro hn
    rw [if_neg hn]
    unfold F_X4_takesBehindPart_L25 F_X4_takesBehindPart_L60 F_X4_takesBehindPart_L64 F_X4_takesBehindPart_L65
    by_cases h1 : c = 38
    · rw [if_pos (Or.inl h1)]
      exact (if_pos ((eq 38 (by omega)).mpr h1)).trans rfl
    refine (if_neg (fun e => h1 ((eq 38 (by omega)).mp e))).trans ?_
    by_cases h2 : c = 124
    · rw [if_pos (Or.inr (Or.inl h2))]
      exact (if_pos ((eq 124 (by omega)).mpr h2)).trans rfl
    refine (if_neg (fun e => h2 ((eq 124 (by omega)).mp e))).trans ?_
    by_cases h3 : c = 44
    · refine (if_pos ((eq 44 (by omega)).mpr h3)).trans ?_
      rw [q_gi ho (by omega), q_gg, q_cl (by omega), L_app]
      by_cases h4 : oc o = 0
      · rw [if_neg (show ¬ (c = 38 ∨ c = 124 ∨ (c = 44 ∧ oc o ≠ 0)) by omega)]
        exact (if_pos (congrArg nI h4)).trans rfl
      · rw [if_pos (Or.inr (Or.inr ⟨h3, h4⟩))]
        exact (if_neg (fun e => h4 ((q_eqI (b := 0) (by have := hoc o; omega) (by omega)).mp e))).trans rfl
    · rw [if_neg (show ¬ (c = 38 ∨ c = 124 ∨ (c = 44 ∧ oc o ≠ 0)) by omega)]
      exact (if_neg (fun e => h3 ((eq 44 (by omega)).mp e))).trans rfl
  unfold F_X4_takesBehindPart
  by_cases h0 : c = 41
  · refine (if_pos ((eq 41 (by omega)).mpr h0)).trans ?_
    by_cases h1 : 0 < o
    · rw [if_pos (show c = 41 ∧ 0 < o from ⟨h0, h1⟩)]
      refine (if_neg (show ¬ nI o ≤ nI 0 from nI_ge h1 (by omega))).trans ?_
      rw [show nI o - 1 = nI (o - 1) from pk_sub (a := o) (b := 1) h1]
      rfl
    · exact (if_pos (show nI o ≤ nI 0 from nI_le (by omega) (by omega))).trans (L25 (fun e => h1 e.2))
  · exact (if_neg (fun e => h0 ((eq 41 (by omega)).mp e))).trans (L25 (fun e => h0 e.1))
def oe (x : Option Nat) : Int32 := match x with
  | none => -1
  | some q => nI q
theorem z_read4 {N : Nat} {tf tp : Nat → Nat} (h : TX N tf tp) : ∀ k f a o d oc, a + k = N → k < f → o ≤ a → d ≤ 4 → (∀ i, oc i < 2) → ∃ y, F_X4_read_L2 (N + 1) N (L tf) f (nI o) (nI d) (L oc) (nI a) = some (oe (rM (sfx N tp a) a o d oc), y) := by
  have hN := h.1
  have upd2 : ∀ {oc : Nat → Nat} {x b : Nat}, (∀ i, oc i < 2) → b < 2 → ∀ i, updN oc x b i < 2 := by
    intro oc x b h1 h2 i
    by_cases e : i = x
    · rw [e, uN_s]; exact h2
    · rw [uN_n _ _ e]; exact h1 i
  intro k
  induction k with
  | zero =>
    intro f a o d oc ha hf ho hd hoc
    obtain ⟨f, rfl⟩ := z_fuel hf
    rw [F_X4_read_L2, sfx_nil (by omega), rM]
    unfold F_X4_read_L48 F_X4_read_L55
    have ge : nI N ≤ nI a := nI_le (by omega) (by omega)
    by_cases h1 : d = 4 ∧ o = 0
    · obtain ⟨rfl, rfl⟩ := h1
      exact ⟨_, ob z_tLen ((if_pos ge).trans ((if_pos rfl).trans (if_pos rfl)))⟩
    · rw [if_neg h1]
      by_cases h2 : d = 4
      · have h3 : ¬ o = 0 := fun e => h1 ⟨h2, e⟩
        refine ⟨(nI o, nI d, L oc), ob z_tLen ((if_pos ge).trans ((if_pos (congrArg nI h2)).trans ((if_neg (fun e => h3 ((q_eqI (b := 0) (by omega) (by omega)).mp e))).trans (ob z_tLen ?_))))⟩
        rw [show a = N by omega]
        rfl
      · refine ⟨(nI o, nI d, L oc), ob z_tLen ((if_pos ge).trans ((if_neg (fun e => h2 ((q_eqI (b := 4) (by omega) (by omega)).mp e))).trans (ob z_tLen ?_)))⟩
        rw [show a = N by omega]
        rfl
  | succ k ih =>
    intro f a o d oc ha hf ho hd hoc
    obtain ⟨f, rfl⟩ := z_fuel (show 0 < f by omega)
    have haN : a < N := by omega
    obtain ⟨h3, h4, h5⟩ := h.2 a haN
    have hch := z_tChar (N := N) (i := a) (tf := tf) (by omega) haN (by omega)
    rw [h3] at hch
    have hct := z_isCnt h haN
    have hmb := z_isMem h haN
    have eq : ∀ k, k < 127 → ((nI (tp a) = nI k) = (tp a = k)) := fun k hk => q_eqI (by omega) (by omega)
    rw [F_X4_read_L2, sfx_cons haN, rM]
    -- what one step gives
    have go : ∀ (o' d' : Nat) (oc' : Nat → Nat), F_X4_takes (nI o) (nI d) (N + 1) (L oc) N (L tf) (nI a) = some (nI 1, nI o', nI d', L oc') → o' ≤ a + 1 → d' ≤ 4 → (∀ i, oc' i < 2) → ∃ y, ((F_J0_length_8abf5 N).bind fun v1 => if v1 ≤ nI a then (if nI d = 4 then (if nI o = 0 then (F_X4_read_L55 (nI o) (nI d) (L oc) (-1)) else (F_X4_read_L48 N (nI o) (nI d) (L oc))) else (F_X4_read_L48 N (nI o) (nI d) (L oc))) else ((F_X4_takes (nI o) (nI d) (N + 1) (L oc) N (L tf) (nI a)).bind fun v8 => if v8.1 = 0 then (some (nI a, v8.2.1, v8.2.2.1, v8.2.2.2)) else (F_X4_read_L2 (N + 1) N (L tf) f v8.2.1 v8.2.2.1 v8.2.2.2 (nI a + 1)))) = some (oe (rM (sfx N tp (a + 1)) (a + 1) o' d' oc'), y) := by
      intro o' d' oc' ht ho' hd' hoc'
      obtain ⟨y, e1⟩ := ih f (a + 1) o' d' oc' (by omega) (by omega) ho' hd' hoc'
      refine ⟨y, ob z_tLen ((if_neg (nI_ge haN (by omega))).trans (ob ht ((if_neg (show ¬ nI 1 = 0 by decide)).trans ?_)))⟩
      rw [show nI a + 1 = nI (a + 1) from nI_1 a]
      exact e1
    have no : ∀ (o' d' : Int32) (oc' : Nat → Int32), F_X4_takes (nI o) (nI d) (N + 1) (L oc) N (L tf) (nI a) = some (nI 0, o', d', oc') → ∃ y, ((F_J0_length_8abf5 N).bind fun v1 => if v1 ≤ nI a then (if nI d = 4 then (if nI o = 0 then (F_X4_read_L55 (nI o) (nI d) (L oc) (-1)) else (F_X4_read_L48 N (nI o) (nI d) (L oc))) else (F_X4_read_L48 N (nI o) (nI d) (L oc))) else ((F_X4_takes (nI o) (nI d) (N + 1) (L oc) N (L tf) (nI a)).bind fun v8 => if v8.1 = 0 then (some (nI a, v8.2.1, v8.2.2.1, v8.2.2.2)) else (F_X4_read_L2 (N + 1) N (L tf) f v8.2.1 v8.2.2.1 v8.2.2.2 (nI a + 1)))) = some (oe (some a), y) := by
      intro o' d' oc' ht
      exact ⟨(o', d', oc'), ob z_tLen ((if_neg (nI_ge haN (by omega))).trans (ob ht (if_pos rfl)))⟩
    have tk : ∀ r, (if nI d = 0 then ((F_X4_takesBeginOfPart (nI o) (nI d) (N + 1) (L oc) N (L tf) (nI a) (nI (tp a))).bind fun v4 => gg (gnar .boolean v4.1) (some (v4.1, v4.2.1, v4.2.2.1, v4.2.2.2))) else (if nI d = 1 then (if nI (tp a) = 111 then (F_X4_takes_L67 (nI o) 2 (L oc) 1) else (F_X4_takes_L67 (nI o) 2 (L oc) 0)) else (if nI d = 2 then (if nI (tp a) = 102 then (F_X4_takes_L84 (nI o) 3 (L oc) 1) else (F_X4_takes_L84 (nI o) 3 (L oc) 0)) else (if nI d = 3 then ((F_X4_begin (nI o) (nI d) (N + 1) (L oc) 1).bind fun v15 => if nI (tp a) = 40 then (F_X4_takes_L101 v15.1 v15.2.1 v15.2.2 1) else (F_X4_takes_L101 v15.1 v15.2.1 v15.2.2 0)) else ((F_X4_takesBehindPart (nI o) (nI d) (N + 1) (L oc) (nI (tp a))).bind fun v20 => gg (gnar .boolean v20.1) (some (v20.1, v20.2.1, v20.2.2, L oc))))))) = r → F_X4_takes (nI o) (nI d) (N + 1) (L oc) N (L tf) (nI a) = r := by
      intro r hr
      unfold F_X4_takes
      exact ob hch hr
    have hd5 : d = 0 ∨ d = 1 ∨ d = 2 ∨ d = 3 ∨ d = 4 := by omega
    rcases hd5 with rfl | rfl | rfl | rfl | rfl
    · rw [if_pos (show (0 : Nat) = 0 from rfl)]
      have tb : ∀ r : Int32 × Int32 × Int32 × (Nat → Int32), F_X4_takesBeginOfPart (nI o) (nI 0) (N + 1) (L oc) N (L tf) (nI a) (nI (tp a)) = some r → gnar .boolean r.1 = true → F_X4_takes (nI o) (nI 0) (N + 1) (L oc) N (L tf) (nI a) = some r := fun r hr hg => tk _ ((if_pos rfl).trans (ob hr (by rw [hg, q_gg])))
      unfold F_X4_takesBeginOfPart F_X4_takesBeginOfPart_L36 at tb
      by_cases c1 : tp a = 40
      · rw [if_pos c1]
        exact go (o + 1) 0 _ (tb (nI 1, nI (o + 1), nI 0, L (updN oc (o + 1) 0)) ((if_pos ((eq 40 (by omega)).mpr c1)).trans (ob (z_begin4 (b := 0) (by omega) (by omega) (by omega)) rfl)) q_nar1) (by omega) (by omega) (upd2 hoc (by omega))
      rw [if_neg c1]
      have t1 : ¬ nI (tp a) = nI 40 := fun e => c1 ((eq 40 (by omega)).mp e)
      by_cases c2 : tp a = 56
      · rw [if_pos (Or.inl c2)]
        exact go o 1 oc (tb (nI 1, nI o, nI 1, L oc) ((if_neg t1).trans (if_pos ((eq 56 (by omega)).mpr c2))) q_nar1) (by omega) (by omega) hoc
      have t2 : ¬ nI (tp a) = nI 56 := fun e => c2 ((eq 56 (by omega)).mp e)
      by_cases c3 : tp a = 57
      · rw [if_pos (Or.inr (Or.inl c3))]
        exact go o 1 oc (tb (nI 1, nI o, nI 1, L oc) ((if_neg t1).trans ((if_neg t2).trans (if_pos ((eq 57 (by omega)).mpr c3)))) q_nar1) (by omega) (by omega) hoc
      have t3 : ¬ nI (tp a) = nI 57 := fun e => c3 ((eq 57 (by omega)).mp e)
      by_cases c4 : isCnt (tp a) (sfx N tp (a + 1)) = true
      · rw [if_pos (Or.inr (Or.inr c4))]
        rw [c4] at hct
        exact go o 1 oc (tb (nI 1, nI o, nI 1, L oc) ((if_neg t1).trans ((if_neg t2).trans ((if_neg t3).trans (ob hct (if_neg (by decide)))))) q_nar1) (by omega) (by omega) hoc
      rw [if_neg (show ¬ (tp a = 56 ∨ tp a = 57 ∨ isCnt (tp a) (sfx N tp (a + 1)) = true) by rintro (e | e | e) <;> contradiction)]
      have c4' : isCnt (tp a) (sfx N tp (a + 1)) = false := by simpa using c4
      rw [c4'] at hct hmb
      by_cases c5 : 48 ≤ tp a ∧ tp a ≤ 55
      · rw [if_pos c5]
        have hm1 : F_X5_isMember N (L tf) (nI a) = some (nI 1) := by rw [hmb, decide_eq_true c5.1, decide_eq_true c5.2]; rfl
        exact go o 4 oc (tb (nI 1, nI o, nI 4, L oc) ((if_neg t1).trans ((if_neg t2).trans ((if_neg t3).trans (ob hct ((if_pos rfl).trans (ob hm1 rfl)))))) q_nar1) (by omega) (by omega) hoc
      · rw [if_neg c5]
        have hm1 : F_X5_isMember N (L tf) (nI a) = some (nI 0) := by
          rw [hmb]
          by_cases g : 48 ≤ tp a
          · rw [decide_eq_false (fun e => c5 ⟨g, e⟩), Bool.false_and, Bool.and_false]; rfl
          · rw [decide_eq_false g, Bool.false_and]; rfl
        exact no (nI o) (nI 4) (L oc) (tb (nI 0, nI o, nI 4, L oc) ((if_neg t1).trans ((if_neg t2).trans ((if_neg t3).trans (ob hct ((if_pos rfl).trans (ob hm1 rfl)))))) q_nar0)
    · rw [if_neg (show ¬ (1 : Nat) = 0 by decide), if_pos (show (1 : Nat) = 1 from rfl)]
      by_cases c1 : tp a = 111
      · rw [if_pos c1]
        exact go o 2 oc (tk _ ((if_neg (by decide)).trans ((if_pos rfl).trans ((if_pos ((eq 111 (by omega)).mpr c1)).trans rfl)))) (by omega) (by omega) hoc
      · rw [if_neg c1]
        exact no (nI o) 2 (L oc) (tk _ ((if_neg (by decide)).trans ((if_pos rfl).trans ((if_neg (fun e => c1 ((eq 111 (by omega)).mp e))).trans rfl))))
    · rw [if_neg (show ¬ (2 : Nat) = 0 by decide), if_neg (show ¬ (2 : Nat) = 1 by decide), if_pos (show (2 : Nat) = 2 from rfl)]
      by_cases c1 : tp a = 102
      · rw [if_pos c1]
        exact go o 3 oc (tk _ ((if_neg (by decide)).trans ((if_neg (by decide)).trans ((if_pos rfl).trans ((if_pos ((eq 102 (by omega)).mpr c1)).trans rfl))))) (by omega) (by omega) hoc
      · rw [if_neg c1]
        exact no (nI o) 3 (L oc) (tk _ ((if_neg (by decide)).trans ((if_neg (by decide)).trans ((if_pos rfl).trans ((if_neg (fun e => c1 ((eq 102 (by omega)).mp e))).trans rfl)))))
    · rw [if_neg (show ¬ (3 : Nat) = 0 by decide), if_neg (show ¬ (3 : Nat) = 1 by decide), if_neg (show ¬ (3 : Nat) = 2 by decide), if_pos (show (3 : Nat) = 3 from rfl)]
      have hb := z_begin4 (on := N + 1) (o := o) (d := nI 3) (oc := oc) (b := 1) (by omega) (by omega) (by omega)
      by_cases c1 : tp a = 40
      · rw [if_pos c1]
        exact go (o + 1) 0 (updN oc (o + 1) 1) (tk _ ((if_neg (by decide)).trans ((if_neg (by decide)).trans ((if_neg (by decide)).trans ((if_pos rfl).trans (ob hb ((if_pos ((eq 40 (by omega)).mpr c1)).trans rfl))))))) (by omega) (by omega) (upd2 hoc (by omega))
      · rw [if_neg c1]
        exact no (nI (o + 1)) 0 (L (updN oc (o + 1) 1)) (tk _ ((if_neg (by decide)).trans ((if_neg (by decide)).trans ((if_neg (by decide)).trans ((if_pos rfl).trans (ob hb ((if_neg (fun e => c1 ((eq 40 (by omega)).mp e))).trans rfl)))))))
    · rw [if_neg (show ¬ (4 : Nat) = 0 by decide), if_neg (show ¬ (4 : Nat) = 1 by decide), if_neg (show ¬ (4 : Nat) = 2 by decide), if_neg (show ¬ (4 : Nat) = 3 by decide)]
      have hb := z_behind (on := N + 1) (o := o) (c := tp a) (d := nI 4) (oc := oc) (by omega) (by omega) (by omega) hoc
      have tb : ∀ r : Int32 × Int32 × Int32, F_X4_takesBehindPart (nI o) (nI 4) (N + 1) (L oc) (nI (tp a)) = some r → gnar .boolean r.1 = true → F_X4_takes (nI o) (nI 4) (N + 1) (L oc) N (L tf) (nI a) = some (r.1, r.2.1, r.2.2, L oc) := fun r hr hg => tk _ ((if_neg (by decide)).trans ((if_neg (by decide)).trans ((if_neg (by decide)).trans ((if_neg (by decide)).trans (ob hr (by rw [hg, q_gg]))))))
      by_cases c1 : tp a = 41 ∧ 0 < o
      · rw [if_pos c1]
        rw [if_pos c1] at hb
        exact go (o - 1) 4 oc (tb _ hb q_nar1) (by omega) (by omega) hoc
      · rw [if_neg c1]
        rw [if_neg c1] at hb
        by_cases c2 : tp a = 38 ∨ tp a = 124 ∨ (tp a = 44 ∧ oc o ≠ 0)
        · rw [if_pos c2]
          rw [if_pos c2] at hb
          exact go o 0 oc (tb _ hb q_nar1) (by omega) (by omega) hoc
        · rw [if_neg c2]
          rw [if_neg c2] at hb
          exact no (nI o) 0 (L oc) (tb _ hb q_nar0)
