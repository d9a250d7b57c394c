/-! PURE: the reference writes fW -/
def wrt : (Nat → Nat) → Nat → List Nat → (Nat → Nat)
  | pp, _, [] => pp
  | pp, P, c :: r => wrt (updN pp P c) (P + 1) r
theorem wrt_app : ∀ (a : List Nat) (pp : Nat → Nat) (P : Nat) (b : List Nat), wrt pp P (a ++ b) = wrt (wrt pp P a) (P + a.length) b := by
  intro a
  induction a with
  | nil => intro pp P b; rfl
  | cons c r ih =>
    intro pp P b
    show wrt (updN pp P c) (P + 1) (r ++ b) = wrt (wrt (updN pp P c) (P + 1) r) (P + (r.length + 1)) b
    rw [ih, show P + (r.length + 1) = P + 1 + r.length by omega]
theorem wrt_lo : ∀ (l : List Nat) (pp : Nat → Nat) (P i : Nat), i < P → wrt pp P l i = pp i := by
  intro l
  induction l with
  | nil => intro pp P i h; rfl
  | cons c r ih =>
    intro pp P i h
    show wrt (updN pp P c) (P + 1) r i = pp i
    rw [ih _ _ _ (by omega), uN_n _ _ (by omega)]
theorem wrt_at : ∀ (l : List Nat) (pp : Nat → Nat) (P i : Nat), i < l.length → wrt pp P l (P + i) = l.getD i 0 := by
  intro l
  induction l with
  | nil => intro pp P i h; exact absurd h (Nat.not_lt_zero i)
  | cons c r ih =>
    intro pp P i h
    show wrt (updN pp P c) (P + 1) r (P + i) = _
    cases i with
    | zero => rw [wrt_lo _ _ _ _ (by omega), Nat.add_zero, uN_s]; rfl
    | succ i =>
      have := ih (updN pp P c) (P + 1) i (by simpa using h)
      rw [show P + (i + 1) = P + 1 + i by omega, this]
      rfl
theorem fW_len : ∀ (t : Fm) (k : Nat), fok k t → ∀ s, (fW k s t).length ≤ (fpr k t).length := by
  intro t
  induction t with
  | nest i f ih => intro k h s; simp [fW, fpr]
  | group P b ih =>
    intro k h s
    cases k with
    | succ k => exact absurd h (by simp [fok])
    | zero =>
      have h1 := ih 2 h false
      have h2 := ih 2 h s
      unfold fW
      show _ ≤ (40 :: (fpr 2 P ++ [41])).length
      rw [List.length_cons, List.length_append, List.length_singleton]
      split
      · split
        · rw [List.length_cons, List.length_append, List.length_singleton]; omega
        · omega
      · omega
  | tag c l ih =>
    intro k h s
    cases k with
    | succ k => exact absurd h (by simp [fok])
    | zero =>
      have h1 := ih 3 h.2 false
      unfold fW fpr
      simp only [List.length_cons, List.length_append, List.length_nil]
      omega
  | append a b iha ihb =>
    intro k h s
    cases k with
    | zero => exact absurd h (by simp [fok])
    | succ k =>
      obtain ⟨h1, h2, h3⟩ := h
      by_cases hb : fnil b = true
      · rw [fW_a1 hb, fpr_a1 hb]
        exact iha k h2 _
      · have hb' : fnil b = false := by simpa using hb
        have h3' : fok (k + 1) b := by
          rcases h3 with h3 | h3
          · rw [hb'] at h3; exact absurd h3 (by decide)
          · exact h3.2
        rw [fW_a2 hb', fpr_a2 hb']
        have i1 := iha k h2 (decide (k + 1 = 1))
        have i2 := ihb (k + 1) h3' (decide (k + 1 = 1))
        simp only [List.length_cons, List.length_append, Nat.add_sub_cancel]
        omega
  | _ => intro k h; cases k <;> exact absurd h (by simp [fok])
/-- what is written: the text l after P signs -/
def wrd (pp : Nat → Nat) (P : Nat) (l : List Nat) : Option ((Nat → Int32) × Int32) := some (L (wrt pp P l), nI (P + l.length))
theorem wrd_1 {pp : Nat → Nat} {P c : Nat} (hP : P < 100) (hc : c < 127) : F_X11_writes (L pp) (nI P) (nI c) = wrd pp P [c] := z_wr hP hc
theorem wrd_app {pp : Nat → Nat} {P : Nat} {a b : List Nat} : wrd (wrt pp P a) (P + a.length) b = wrd pp P (a ++ b) := by
  unfold wrd
  rw [wrt_app, List.length_append, Nat.add_assoc]
theorem wrd_b {β : Type} {pp : Nat → Nat} {P : Nat} {l : List Nat} {o : Option ((Nat → Int32) × Int32)} {f : (Nat → Int32) × Int32 → Option β} {v : Option β} (h : o = wrd pp P l) (k : f (L (wrt pp P l), nI (P + l.length)) = v) : o.bind f = v := ob h k
/-- the claims on a tree -/
def CW (w : Nat → Nat) (s : Nat) (t : Fm) (k : Nat) : Prop :=
  ∀ a d P (pp : Nat → Nat), Sg (Tx w s) a (fpr k t) → a + (fpr k t).length ≤ 40 → (fpr k t).length < d → P + (fpr k t).length ≤ 98 →
    (k = 0 → ∀ b : Bool, F_X11_writesPart d (L w) (L pp) (nI P) (nI s) (nI a) (nI (a + (fpr k t).length)) (nI b.toNat) = wrd pp P (fW 0 b t)) ∧
    (k = 1 → (∀ n (l6 b : Bool), (fpr k t).length < n → (l6 = true ∨ fsv t = false) → F_X11_writesAll_L27 (F_X11_writesPart d) (L w) (nI s) (nI (a + (fpr k t).length)) (nI b.toNat) n (L pp) (nI P) (nI l6.toNat) (nI a) = wrd pp P (fW 1 (l6 || b) t)) ∧
      ∀ b : Bool, F_X11_writesAll (F_X11_writesPart d) (L w) (L pp) (nI P) (nI s) (nI a) (nI (a + (fpr k t).length)) (nI b.toNat) = wrd pp P (fW 1 b t)) ∧
    (k = 2 → (∀ n, (fpr k t).length < n → F_X11_writesPolicy_L3 (F_X11_writesPart d) (L w) (nI s) (nI (a + (fpr k t).length)) n (L pp) (nI P) (nI a) = wrd pp P (fW 2 false t)) ∧ (fsv t = false → ∀ b : Bool, F_X11_writesAll (F_X11_writesPart d) (L w) (L pp) (nI P) (nI s) (nI a) (nI (a + (fpr k t).length)) (nI b.toNat) = wrd pp P (fW 2 b t))) ∧
    (k = 3 → ∀ n, (fpr k t).length < n → a + (fpr k t).length + 1 ≤ 40 → FB_X11_writesPart_L150 (F_X11_writesPart d) (L w) (nI s) (nI (a + (fpr k t).length + 1)) n (L pp) (nI P) (nI a) = wrd pp P (fW 3 false t ++ [41]))
theorem fsep_lt (k : Nat) : fsep k < 127 := by unfold fsep; split <;> omega
/-- lists of parts -/
theorem cw_1 {w : Nat → Nat} {s : Nat} {h t : Fm} (hs : s < 4) (hk : fok 1 (.append h t)) (ch : CW w s h 0) (ct : fnil t = false → CW w s t 1) : CW w s (.append h t) 1 := by
  intro a d P pp hS hl hd hP
  have hk0 := hk
  obtain ⟨h1, h2, h3⟩ := hk
  replace h1 : 0 < 3 := h1
  replace h2 : fok 0 h := h2
  replace h3 : fnil t = true ∨ (fnil t = false ∧ fok 1 t) := h3
  have hp1 := fpr_pos h 0 h2
  refine ⟨fun e => by omega, fun _ => ?_, fun e => by omega, fun e => by omega⟩
  have main : ∀ n (l6 b : Bool), (fpr 1 (.append h t)).length < n → (l6 = true ∨ fsv (.append h t) = false) → F_X11_writesAll_L27 (F_X11_writesPart d) (L w) (nI s) (nI (a + (fpr 1 (.append h t)).length)) (nI b.toNat) n (L pp) (nI P) (nI l6.toNat) (nI a) = wrd pp P (fW 1 (l6 || b) (.append h t)) := by
    intro n l6 b hn hl6
    obtain ⟨n, rfl⟩ := z_fuel (show 0 < n by omega)
    rw [F_X11_writesAll_L27]
    have hbt : b.toNat = if b = true then 1 else 0 := by cases b <;> rfl
    rcases h3 with h3 | ⟨h3, h4⟩
    · have e1 : fpr 1 (.append h t) = fpr 0 h := fpr_a1 h3
      rw [e1] at hS hl hd hP hn ⊢
      have n2 := next_none (k := 0) (sg := 38) hs h2 hS hl (by simp) (by omega)
      have i0 := ((ch a d P pp hS hl hd hP).1 rfl (l6 || b))
      have hfl := fW_len h 0 h2 (l6 || b)
      rw [fW_a1 h3]
      refine (if_neg (show ¬ nI (a + (fpr 0 h).length) ≤ nI a from nI_ge (by omega) (by omega))).trans (ob n2 ?_)
      have fin : ∀ q, q = nI (l6 || b).toNat → F_X11_writesAll_L66 (F_X11_writesPart d) (L w) (nI (a + (fpr 0 h).length)) (F_X11_writesAll_L27 (F_X11_writesPart d) (L w) (nI s) (nI (a + (fpr 0 h).length)) (nI b.toNat) n) (L pp) (nI P) (nI l6.toNat) (nI (a + (fpr 0 h).length)) q (nI (a + (fpr 0 h).length)) (nI a) (nI s) = wrd pp P (fW (1 - 1) (decide (1 ≤ 2) && (l6 || b)) h) := by
        intro q hq
        rw [hq]
        unfold F_X11_writesAll_L66 F_X11_writesAll_L81
        refine wrd_b i0 ((if_pos (nI_le (Nat.le_refl _) (by omega))).trans ?_)
        obtain ⟨n, rfl⟩ := z_fuel (show 0 < n by omega)
        rw [F_X11_writesAll_L27]
        refine (if_pos ?_).trans ?_
        · rw [show nI (a + (fpr 0 h).length) + 1 = nI (a + (fpr 0 h).length + 1) from nI_1 _]
          exact nI_le (by omega) (by omega)
        · simp only [wrd, decide_true, Nat.reduceLeDiff, Bool.true_and, Nat.sub_self]
      unfold F_X11_writesAll_L61
      cases l6 with
      | false =>
        refine (if_pos rfl).trans ?_
        cases b with
        | false => exact (if_pos rfl).trans (fin _ rfl)
        | true => exact (if_neg (show ¬ nI 1 = 0 by decide)).trans (fin _ rfl)
      | true => exact (if_neg (show ¬ nI 1 = 0 by decide)).trans (fin _ rfl)
    · have hl6' : l6 = true := by
        rcases hl6 with e | e
        · exact e
        · simp [fsv, h3] at e
      subst hl6'
      have e1 : fpr 1 (.append h t) = fpr 0 h ++ fsep 1 :: fpr 1 t := fpr_a2 h3
      have hlen : (fpr 1 (.append h t)).length = (fpr 0 h).length + 1 + (fpr 1 t).length := by rw [e1, List.length_append, List.length_cons]; omega
      rw [e1, Sg_app, Sg_cons] at hS
      obtain ⟨g1, g2, g3⟩ := hS
      have hp2 := fpr_pos t 1 h4
      rw [hlen] at hl hd hP hn ⊢
      have ns := next_sep (k := 0) (to := a + ((fpr 0 h).length + 1 + (fpr 1 t).length)) hs h2 h1 g1 g2 (by omega) (by omega)
      have i0 := ((ch a d P pp g1 (by omega) (by omega) (by omega)).1 rfl true)
      have hfl := fW_len h 0 h2 true
      have i2 := ((ct h3 (a + (fpr 0 h).length + 1) d (P + (fW 0 true h ++ [38]).length) (wrt pp P (fW 0 true h ++ [38])) g3 (by omega) (by omega) (by rw [List.length_append, List.length_singleton]; omega)).2.1 rfl).1 n true b (by omega) (Or.inl rfl)
      rw [show a + (fpr 0 h).length + 1 + (fpr 1 t).length = a + ((fpr 0 h).length + 1 + (fpr 1 t).length) by omega, wrd_app] at i2
      refine (if_neg (show ¬ nI (a + ((fpr 0 h).length + 1 + (fpr 1 t).length)) ≤ nI a from nI_ge (by omega) (by omega))).trans (ob ns ((if_neg (show ¬ nI 1 = 0 by decide)).trans ?_))
      unfold F_X11_writesAll_L61 F_X11_writesAll_L66 F_X11_writesAll_L81
      refine wrd_b i0 ((if_neg (nI_ge (by omega) (by omega))).trans ?_)
      refine wrd_b (wrd_1 (c := 38) (by omega) (by omega)) ?_
      show F_X11_writesAll_L27 _ _ _ _ _ n (L (wrt (wrt pp P (fW 0 true h)) (P + (fW 0 true h).length) [38])) (nI (P + (fW 0 true h).length + 1)) (nI 1) (nI (a + (fpr 0 h).length) + 1) = _
      rw [← wrt_app, show nI (a + (fpr 0 h).length) + 1 = nI (a + (fpr 0 h).length + 1) from nI_1 _, fW_a2 h3]
      rw [show List.length (fW 0 true h ++ [38]) = (fW 0 true h).length + 1 by simp, ← Nat.add_assoc P] at i2
      refine i2.trans ?_
      rw [List.append_assoc]
      rfl
  refine ⟨main, fun b => ?_⟩
  unfold F_X11_writesAll F_X11_writesAll_L22
  rcases h3 with h3 | ⟨h3, h4⟩
  · have e1 : fpr 1 (.append h t) = fpr 0 h := fpr_a1 h3
    have m1 := main 1000 false b (by omega) (Or.inr (by simp [fsv, h3]))
    rw [e1] at hS hl m1 ⊢
    have n2 := next_none (k := 0) (sg := 38) hs h2 hS hl (by simp) (by omega)
    refine ob n2 ((if_pos (nI_le (Nat.le_refl _) (by omega))).trans ?_)
    rw [Bool.false_or] at m1
    exact m1
  · have e1 : fpr 1 (.append h t) = fpr 0 h ++ fsep 1 :: fpr 1 t := fpr_a2 h3
    have hlen : (fpr 1 (.append h t)).length = (fpr 0 h).length + 1 + (fpr 1 t).length := by rw [e1, List.length_append, List.length_cons]; omega
    have hp2 := fpr_pos t 1 h4
    have m1 := main 1000 true b (by omega) (Or.inl rfl)
    rw [e1, Sg_app, Sg_cons] at hS
    rw [hlen] at hl m1 ⊢
    have ns := next_sep (k := 0) (to := a + ((fpr 0 h).length + 1 + (fpr 1 t).length)) hs h2 h1 hS.1 hS.2.1 (by omega) (by omega)
    refine ob ns ((if_neg (nI_ge (by omega) (by omega))).trans ?_)
    refine m1.trans ?_
    rw [fW_a2 h3, fW_a2 h3]
