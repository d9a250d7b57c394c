/-! PURE: the class leaves parentheses out -/
def flt (nd T : Nat → Nat) : Nat → Nat → List Nat
  | _, 0 => []
  | a, n + 1 => if nI (nd a) = 0 then T a :: flt nd T (a + 1) n else flt nd T (a + 1) n
theorem flt_app {nd T : Nat → Nat} : ∀ m a n, flt nd T a (m + n) = flt nd T a m ++ flt nd T (a + m) n := by
  intro m
  induction m with
  | zero => intro a n; rw [Nat.zero_add]; rfl
  | succ m ih =>
    intro a n
    rw [show m + 1 + n = (m + n) + 1 by omega, flt, flt, ih, show a + 1 + m = a + (m + 1) by omega]
    split <;> rfl
theorem flt_ext {nd nd' T : Nat → Nat} : ∀ n a, (∀ i, a ≤ i → i < a + n → nd' i = nd i) → flt nd' T a n = flt nd T a n := by
  intro n
  induction n with
  | zero => intro a _; rfl
  | succ n ih =>
    intro a h
    rw [flt, flt, h a (Nat.le_refl a) (by omega), ih (a + 1) (fun i h1 h2 => h i (by omega) (by omega))]
theorem flt_1 {nd T : Nat → Nat} {a : Nat} (h : nd a = 0) : flt nd T a 1 = [T a] := by rw [flt, h, if_pos (show nI 0 = 0 from rfl)]; rfl
theorem flt_0 {nd T : Nat → Nat} {a : Nat} (h : nd a = 1) : flt nd T a 1 = [] := by rw [flt, h, if_neg (show ¬ nI 1 = 0 by decide)]; rfl
def Wl (N : Nat) (tf : Nat → Nat) (n a o : Nat) (nd st al : Nat → Nat) : Option (Int32 × Int32 × Nat × (Nat → Int32)) := F_X5_withoutNeedlessParentheses_L31 N (L tf) n N (L nd) (N + 1) (L st) (N + 1) (L al) (nI o) (nI a)
theorem W_sk {N n a o : Nat} {tf tp nd st al : Nat → Nat} (h : TX N tf tp) (ha : a < N) (h1 : tp a ≠ 40) (h2 : tp a ≠ 41) (h3 : tp a ≠ 124) : Wl N tf (n + 1) a o nd st al = Wl N tf n (a + 1) o nd st al := by
  have hN := h.1
  obtain ⟨h3', h4, h5⟩ := h.2 a ha
  have hch := z_tChar (N := N) (i := a) (tf := tf) (by omega) ha (by omega)
  rw [h3'] at hch
  have hne : ∀ x, x < 127 → tp a ≠ x → ¬ nI (tp a) = nI x := fun x hx e g => e ((q_eqI (by omega) (by omega)).mp g)
  unfold Wl
  rw [F_X5_withoutNeedlessParentheses_L31]
  unfold F_X5_withoutNeedlessParentheses_L201
  rw [show nI a + 1 = nI (a + 1) from nI_1 a]
  exact ob z_tLen ((if_neg (nI_ge ha (by omega))).trans (ob hch ((if_neg (hne 40 (by omega) h1)).trans ((if_neg (hne 124 (by omega) h3)).trans (if_neg (hne 41 (by omega) h2))))))
theorem W_op {N n a o : Nat} {tf tp nd st al : Nat → Nat} (h : TX N tf tp) (ha : a < N) (ho : o < N) (h1 : tp a = 40) : Wl N tf (n + 1) a o nd st al = Wl N tf n (a + 1) (o + 1) nd (updN st (o + 1) a) (updN al (o + 1) 0) := by
  have hN := h.1
  obtain ⟨h3', h4, h5⟩ := h.2 a ha
  have hch := z_tChar (N := N) (i := a) (tf := tf) (by omega) ha (by omega)
  rw [h3'] at hch
  have e0 : vp_nar .boolean 0 = nI 0 := z_bol 0 (by omega)
  unfold Wl
  rw [F_X5_withoutNeedlessParentheses_L31]
  unfold F_X5_withoutNeedlessParentheses_L201
  rw [show nI a + 1 = nI (a + 1) from nI_1 a, show nI o + 1 = nI (o + 1) from nI_1 o]
  refine ob z_tLen ((if_neg (nI_ge ha (by omega))).trans (ob hch ((if_pos (congrArg nI h1)).trans ?_)))
  rw [q_gi (show o + 1 < N + 1 by omega) (by omega), q_gg, q_gl, q_gg, q_gl, e0, q_cl (show o + 1 < 2 ^ 31 by omega), L_upd, L_upd]
theorem W_or {N n a o : Nat} {tf tp nd st al : Nat → Nat} (h : TX N tf tp) (ha : a < N) (ho : o ≤ N) (h1 : tp a = 124) : Wl N tf (n + 1) a o nd st al = Wl N tf n (a + 1) o nd st (updN al o 1) := by
  have hN := h.1
  obtain ⟨h3', h4, h5⟩ := h.2 a ha
  have hch := z_tChar (N := N) (i := a) (tf := tf) (by omega) ha (by omega)
  rw [h3'] at hch
  have e0 : vp_nar .boolean 1 = nI 1 := z_bol 1 (by omega)
  have n40 : ¬ nI (tp a) = 40 := by rw [h1]; decide
  unfold Wl
  rw [F_X5_withoutNeedlessParentheses_L31]
  unfold F_X5_withoutNeedlessParentheses_L201
  rw [show nI a + 1 = nI (a + 1) from nI_1 a]
  refine ob z_tLen ((if_neg (nI_ge ha (by omega))).trans (ob hch ((if_neg n40).trans ((if_pos (congrArg nI h1)).trans ?_))))
  rw [q_gi (show o < N + 1 by omega) (by omega), q_gg, q_gl, e0, q_cl (show o < 2 ^ 31 by omega), L_upd]
theorem W_mk {N n a o b : Nat} {tf nd st al : Nat → Nat} (hN : N ≤ 40) (ha : a < N) (ho : o ≤ N) (hb : b < N) (hv : al (o + 1) ≤ 1) (h2 : al o ≤ 1) : F_X5_withoutNeedlessParentheses_L170 (F_X5_withoutNeedlessParentheses_L31 N (L tf) n) N (L nd) (N + 1) (L st) (N + 1) (L al) (nI o) (nI a) (nI b) (nI (al (o + 1))) = Wl N tf n (a + 1) o (updN (updN nd b 1) a 1) st (updN al o (max (al o) (al (o + 1)))) := by
  have e0 : vp_nar .boolean 0 = nI 0 := z_bol 0 (by omega)
  have e1 : vp_nar .boolean 1 = nI 1 := z_bol 1 (by omega)
  unfold F_X5_withoutNeedlessParentheses_L170 F_X5_withoutNeedlessParentheses_L195 F_X5_withoutNeedlessParentheses_L200 F_X5_withoutNeedlessParentheses_L201 Wl
  rw [q_gi (show b < N by omega) (by omega), q_gg, q_gl, q_gi (show a < N by omega) (by omega), q_gg, q_gl, q_gi (show o < N + 1 by omega) (by omega), q_gg, e0, e1, q_cl (show b < 2 ^ 31 by omega), q_cl (show a < 2 ^ 31 by omega), q_cl (show o < 2 ^ 31 by omega), show nI a + 1 = nI (a + 1) from nI_1 a]
  simp only [q_gg, q_gl, L_upd, L_app]
  have n1 : ¬ nI 1 = 0 := by decide
  have hA : al o = 0 ∨ al o = 1 := by omega
  have hB : al (o + 1) = 0 ∨ al (o + 1) = 1 := by omega
  rcases hA with hA | hA <;> rcases hB with hB | hB <;> rw [hA, hB]
  · exact (if_pos rfl).trans (if_pos rfl)
  · exact (if_pos rfl).trans (if_neg n1)
  · exact if_neg n1
  · exact if_neg n1
theorem W_cl {N n a o b : Nat} {tf tp nd st al : Nat → Nat} (h : TX N tf tp) (ha : a < N) (ho : o < N) (h1 : tp a = 41) (hb : st (o + 1) = b) (hbN : b < N) (hv : al (o + 1) ≤ 1) (h2 : al o ≤ 1) : Wl N tf (n + 1) a (o + 1) nd st al = if prv tp b = 102 ∨ (al (o + 1) = 1 ∧ (decide (prv tp b = 38) || decide (hd (sfx N tp (a + 1)) = 38)) = true) then Wl N tf n (a + 1) o nd st al else Wl N tf n (a + 1) o (updN (updN nd b 1) a 1) st (updN al o (max (al o) (al (o + 1)))) := by
  have hN := h.1
  obtain ⟨h3', h4, h5⟩ := h.2 a ha
  have hch := z_tChar (N := N) (i := a) (tf := tf) (by omega) ha (by omega)
  rw [h3'] at hch
  have n40 : ¬ nI (tp a) = 40 := by rw [h1]; decide
  have n124 : ¬ nI (tp a) = 124 := by rw [h1]; decide
  have n1 : ¬ nI 1 = 0 := by decide
  have s1 := z_signB (a := b) (c := 38) h (by omega) (by omega) (by omega)
  have s2 := z_signAt (p := a + 1) (c := 38) h (by omega) (by omega) (by omega)
  have s3 := z_signB (a := b) (c := 102) h (by omega) (by omega) (by omega)
  have mk := W_mk (n := n) (tf := tf) (nd := nd) (st := st) hN ha (show o ≤ N by omega) hbN hv h2
  rw [← nI_1 a] at s2
  have lv : F_X5_withoutNeedlessParentheses_L201 (F_X5_withoutNeedlessParentheses_L31 N (L tf) n) N (L nd) (N + 1) (L st) (N + 1) (L al) (nI o) (nI a) = Wl N tf n (a + 1) o nd st al := by
    unfold F_X5_withoutNeedlessParentheses_L201 Wl
    rw [show nI a + 1 = nI (a + 1) from nI_1 a]
  have hB : al (o + 1) = 0 ∨ al (o + 1) = 1 := by omega
  have h145 : ∀ z : Bool, F_X5_withoutNeedlessParentheses_L145 N (L tf) (F_X5_withoutNeedlessParentheses_L31 N (L tf) n) N (L nd) (N + 1) (L st) (N + 1) (L al) (nI o) (nI a) (nI b) (nI (al (o + 1))) (nI z.toNat) = if prv tp b = 102 ∨ (al (o + 1) = 1 ∧ z = true) then Wl N tf n (a + 1) o nd st al else Wl N tf n (a + 1) o (updN (updN nd b 1) a 1) st (updN al o (max (al o) (al (o + 1)))) := by
    intro z
    unfold F_X5_withoutNeedlessParentheses_L145
    refine ob s3 ?_
    by_cases hp : prv tp b = 102
    · rw [decide_eq_true hp, if_pos (Or.inl hp)]
      exact (if_neg n1).trans lv
    · rw [decide_eq_false hp]
      refine (if_pos rfl).trans ?_
      rcases hB with hB | hB
      · rw [if_neg (show ¬ (prv tp b = 102 ∨ (al (o + 1) = 1 ∧ z = true)) by omega)]
        exact (if_pos (congrArg nI hB)).trans mk
      · have nB : ¬ nI (al (o + 1)) = 0 := by rw [hB]; decide
        refine (if_neg nB).trans ?_
        cases z with
        | false =>
          rw [if_neg (show ¬ (prv tp b = 102 ∨ (al (o + 1) = 1 ∧ false = true)) by simp [hp])]
          exact (if_pos rfl).trans mk
        | true =>
          rw [if_pos (show prv tp b = 102 ∨ (al (o + 1) = 1 ∧ true = true) from Or.inr ⟨hB, rfl⟩)]
          exact (if_neg n1).trans lv
  rw [Wl, F_X5_withoutNeedlessParentheses_L31]
  unfold F_X5_withoutNeedlessParentheses_L140
  refine ob z_tLen ((if_neg (nI_ge ha (by omega))).trans (ob hch ((if_neg n40).trans ((if_neg n124).trans ((if_pos (congrArg nI h1)).trans ((if_neg (show ¬ nI (o + 1) ≤ 0 from nI_ge (show 0 < o + 1 by omega) (by omega))).trans ?_))))))
  rw [q_gi (show o + 1 < N + 1 by omega) (by omega), q_gg, q_gl, q_gg, q_gl, q_cl (show o + 1 < 2 ^ 31 by omega), L_app, L_app, hb, show nI (o + 1) + (-1) = nI o from q_back (e := o + 1) (by omega) (by omega)]
  refine ob s1 ?_
  by_cases g1 : prv tp b = 38
  · rw [decide_eq_true g1]
    refine (if_neg n1).trans ((h145 true).trans ?_)
    rw [Bool.true_or]
  · rw [decide_eq_false g1, Bool.false_or]
    refine (if_pos rfl).trans (ob s2 ?_)
    by_cases g2 : hd (sfx N tp (a + 1)) = 38
    · rw [decide_eq_true g2]
      exact (if_neg n1).trans (h145 true)
    · rw [decide_eq_false g2]
      exact (if_pos rfl).trans (h145 false)
