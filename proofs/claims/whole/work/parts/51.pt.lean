/-! PURE: the reference on trees: scanning, holding -/
def Sg (T : Nat → Nat) (a : Nat) (l : List Nat) : Prop := ∀ i, i < l.length → T (a + i) = l.getD i 0
theorem Sg_cons {T : Nat → Nat} {a c : Nat} {r : List Nat} : Sg T a (c :: r) ↔ T a = c ∧ Sg T (a + 1) r := by
  constructor
  · intro h
    refine ⟨?_, fun i hi => ?_⟩
    · have := h 0 (by simp)
      rw [Nat.add_zero, List.getD_cons_zero] at this
      exact this
    · have := h (i + 1) (by simpa using hi)
      rw [List.getD_cons_succ] at this
      rw [← this]
      congr 1
      omega
  · intro h i hi
    cases i with
    | zero => rw [Nat.add_zero, List.getD_cons_zero]; exact h.1
    | succ i =>
      rw [List.getD_cons_succ, ← h.2 i (by simpa using hi)]
      congr 1
      omega
theorem Sg_nil {T : Nat → Nat} {a : Nat} : Sg T a [] := fun i hi => absurd hi (Nat.not_lt_zero i)
theorem Sg_app {T : Nat → Nat} {b : List Nat} : ∀ {a : List Nat} {p : Nat}, Sg T p (a ++ b) ↔ Sg T p a ∧ Sg T (p + a.length) b := by
  intro a
  induction a with
  | nil => intro p; simp [Sg_nil]
  | cons c r ih =>
    intro p
    rw [List.cons_append, Sg_cons, ih, Sg_cons, List.length_cons]
    rw [show p + 1 + r.length = p + (r.length + 1) by omega]
    constructor
    · rintro ⟨h1, h2, h3⟩; exact ⟨⟨h1, h2⟩, h3⟩
    · rintro ⟨⟨h1, h2⟩, h3⟩; exact ⟨h1, h2, h3⟩
theorem fpr_pos : ∀ (t : Fm) (k : Nat), fok k t → 0 < (fpr k t).length := by
  intro t
  induction t with
  | nil => intro k h; cases k <;> exact absurd h (by simp [fok])
  | line => intro k h; cases k <;> exact absurd h (by simp [fok])
  | align => intro k h; cases k <;> exact absurd h (by simp [fok])
  | text => intro k h; cases k <;> exact absurd h (by simp [fok])
  | nest i f ih => intro k h; simp [fpr]
  | group P b ih => intro k h; simp [fpr]
  | tag c l ih => intro k h; simp [fpr]
  | append h t ih1 ih2 =>
    intro k hk
    cases k with
    | zero => exact absurd hk (by simp [fok])
    | succ k =>
      obtain ⟨h1, h2, h3⟩ := hk
      have := ih1 k h2
      unfold fpr
      rw [Nat.add_sub_cancel]
      split
      · exact this
      · rw [List.length_append]; omega
theorem fpr_a1 {k : Nat} {h t : Fm} (ht : fnil t = true) : fpr (k + 1) (.append h t) = fpr k h := by
  show (if fnil t = true then fpr (k + 1 - 1) h else fpr (k + 1 - 1) h ++ fsep (k + 1) :: fpr (k + 1) t) = fpr k h
  rw [if_pos ht]
  rfl
theorem fpr_a2 {k : Nat} {h t : Fm} (ht : fnil t = false) : fpr (k + 1) (.append h t) = fpr k h ++ fsep (k + 1) :: fpr (k + 1) t := by
  show (if fnil t = true then fpr (k + 1 - 1) h else fpr (k + 1 - 1) h ++ fsep (k + 1) :: fpr (k + 1) t) = _
  rw [if_neg (by simp [ht])]
  rfl
/-- the reference's scan from a place on, at a depth -/
def Nx (T : Nat → Nat) (w : Nat → Nat) (s to sg : Nat) (d a : Nat) (X : Option Int32) : Prop := ∀ n, to - a < n → F_X11_next_L6 (L w) (nI s) (nI to) (nI sg) n (nI d) (nI a) = X
def Tx (w : Nat → Nat) (s : Nat) : Nat → Nat := fun k => w (ix s (12 + k))
theorem z_ofT {w : Nat → Nat} {s k : Nat} (hs : s < 4) (hk : k < 40) : F_X11_of (L w) (nI s) (nI (12 + k)) = some (nI (Tx w s k)) := z_of hs (by omega)
theorem Nx_end {w : Nat → Nat} {s to sg d a : Nat} (h : to ≤ a) (ha : a < 50) : Nx (Tx w s) w s to sg d a (some (nI to)) := by
  intro n hn
  obtain ⟨n, rfl⟩ := z_fuel (show 0 < n by omega)
  rw [F_X11_next_L6]
  simp (disch := omega) only [q_leI, h, if_true]
theorem Nx_hit {w : Nat → Nat} {s to sg a : Nat} (hs : s < 4) (ha : a < to) (hto : to ≤ 40) (hsg : sg < 127) (hc : Tx w s a = sg) : Nx (Tx w s) w s to sg 0 a (some (nI a)) := by
  intro n hn
  obtain ⟨n, rfl⟩ := z_fuel (show 0 < n by omega)
  have h0 : ¬ to ≤ a := by omega
  rw [F_X11_next_L6]
  simp (disch := omega) only [q_lit, q_leI, h0, if_false, nI_add, z_ofT, Option.bind_some, q_eqI, hc, if_true]
theorem Nx_open {w : Nat → Nat} {s to sg d a : Nat} {X : Option Int32} (hs : s < 4) (ha : a < to) (hto : to ≤ 40) (hsg : sg < 127) (hd : d < 100) (hc : Tx w s a = 40) (h2 : sg ≠ 40) (k : Nx (Tx w s) w s to sg (d + 1) (a + 1) X) : Nx (Tx w s) w s to sg d a X := by
  intro n hn
  obtain ⟨n, rfl⟩ := z_fuel (show 0 < n by omega)
  have h0 : ¬ to ≤ a := by omega
  have h3 : ¬ 40 = sg := by omega
  have := k n (by omega)
  rw [F_X11_next_L6]
  unfold F_X11_next_L39 F_X11_next_L64
  simp (disch := omega) only [q_lit, q_leI, h0, if_false, nI_add, z_ofT, Option.bind_some, q_eqI, hc, if_true, h3, this, q_if]
theorem Nx_close {w : Nat → Nat} {s to sg d a : Nat} {X : Option Int32} (hs : s < 4) (ha : a < to) (hto : to ≤ 40) (hsg : sg < 127) (hd : d < 100) (hc : Tx w s a = 41) (h2 : sg ≠ 41) (k : Nx (Tx w s) w s to sg d (a + 1) X) : Nx (Tx w s) w s to sg (d + 1) a X := by
  intro n hn
  obtain ⟨n, rfl⟩ := z_fuel (show 0 < n by omega)
  have h0 : ¬ to ≤ a := by omega
  have h3 : ¬ d + 1 = 0 := by omega
  have h4 : ¬ (41 : Nat) = 40 := by omega
  have h5 : nI (d + 1) + -nI 1 = nI d := z_m1s d
  have := k n (by omega)
  rw [F_X11_next_L6]
  unfold F_X11_next_L39 F_X11_next_L64
  simp (disch := omega) only [q_lit, q_leI, h0, if_false, z_ofT, Option.bind_some, q_eqI, hc, if_true, h3, h4, h5]
  rw [nI_add, nI_add, z_ofT hs (by omega)]
  simp (disch := omega) only [q_lit, Option.bind_some, q_eqI, hc, if_true, h4, if_false]
  rw [nI_add]
  exact this
theorem Nx_step {w : Nat → Nat} {s to sg d a c : Nat} {X : Option Int32} (hs : s < 4) (ha : a < to) (hto : to ≤ 40) (hsg : sg < 127) (hd : d < 100) (hc : Tx w s a = c) (hc2 : c < 127) (h2 : c ≠ 40) (h3 : c ≠ 41) (h4 : 0 < d ∨ c ≠ sg) (k : Nx (Tx w s) w s to sg d (a + 1) X) : Nx (Tx w s) w s to sg d a X := by
  intro n hn
  obtain ⟨n, rfl⟩ := z_fuel (show 0 < n by omega)
  have h0 : ¬ to ≤ a := by omega
  have := k n (by omega)
  rw [F_X11_next_L6]
  unfold F_X11_next_L39 F_X11_next_L64
  by_cases h5 : d = 0
  · have h6 : ¬ c = sg := by omega
    subst h5
    simp (disch := omega) only [q_lit, q_leI, h0, if_false, nI_add, z_ofT, Option.bind_some, q_eqI, hc, if_true, h6, h2, h3, this]
  · simp (disch := omega) only [q_lit, q_leI, h0, if_false, nI_add, z_ofT, Option.bind_some, q_eqI, hc, h5, h2, h3]
    exact this
/-- a tree's text is passed -/
theorem Nx_tree {w : Nat → Nat} {s to sg : Nat} (hs : s < 4) (hto : to ≤ 40) (hsg : sg = 38 ∨ sg = 124 ∨ sg = 44) : ∀ (t : Fm) (k : Nat), fok k t → ∀ d a X, Sg (Tx w s) a (fpr k t) → a + (fpr k t).length ≤ to → d + (fpr k t).length < 90 → (0 < d ∨ ∀ j, 1 ≤ j → j ≤ k → sg ≠ fsep j) → Nx (Tx w s) w s to sg d (a + (fpr k t).length) X → Nx (Tx w s) w s to sg d a X := by
  intro t
  induction t with
  | nil => intro k h; cases k <;> exact absurd h (by simp [fok])
  | line => intro k h; cases k <;> exact absurd h (by simp [fok])
  | align => intro k h; cases k <;> exact absurd h (by simp [fok])
  | text => intro k h; cases k <;> exact absurd h (by simp [fok])
  | nest i f ih =>
    intro k h d a X hS hl hd hsep hX
    cases k with
    | succ k => exact absurd h (by simp [fok])
    | zero =>
      have h1 : i.toNat ≤ 7 := h
      unfold fpr at hS hl hX
      rw [Sg_cons] at hS
      exact Nx_step hs (by simp at hl; omega) hto (by omega) (by omega) hS.1 (by omega) (by omega) (by omega) (Or.inr (by omega)) hX
  | group P b ih =>
    intro k h d a X hS hl hd hsep hX
    cases k with
    | succ k => exact absurd h (by simp [fok])
    | zero =>
      have h1 : fok 2 P := h
      unfold fpr at hS hl hd hX
      simp only [List.length_cons, List.length_append, List.length_nil] at hl hd hX
      rw [Sg_cons, Sg_app, Sg_cons] at hS
      refine Nx_open hs (by omega) hto (by omega) (by omega) hS.1 (by omega) ?_
      refine ih 2 h1 (d + 1) (a + 1) X hS.2.1 (by omega) (by omega) (Or.inl (by omega)) ?_
      refine Nx_close hs (by omega) hto (by omega) (by omega) hS.2.2.1 (by omega) ?_
      rw [show a + 1 + (fpr 2 P).length + 1 = a + ((fpr 2 P).length + (0 + 1) + 1) by omega]
      exact hX
  | tag c l ih =>
    intro k h d a X hS hl hd hsep hX
    cases k with
    | succ k => exact absurd h (by simp [fok])
    | zero =>
      obtain ⟨h0, h1⟩ : (1 ≤ c ∧ c ≤ 9) ∧ fok 3 l := h
      unfold fpr at hS hl hd hX
      simp only [List.length_cons, List.length_append, List.length_nil] at hl hd hX
      rw [Sg_cons, Sg_cons, Sg_cons, Sg_cons, Sg_app, Sg_cons] at hS
      refine Nx_step hs (by omega) hto (by omega) (by omega) hS.1 (by omega) (by omega) (by omega) (Or.inr (by omega)) ?_
      refine Nx_step hs (by omega) hto (by omega) (by omega) hS.2.1 (by omega) (by omega) (by omega) (Or.inr (by omega)) ?_
      refine Nx_step hs (by omega) hto (by omega) (by omega) hS.2.2.1 (by omega) (by omega) (by omega) (Or.inr (by omega)) ?_
      refine Nx_open hs (by omega) hto (by omega) (by omega) hS.2.2.2.1 (by omega) ?_
      refine ih 3 h1 (d + 1) (a + 1 + 1 + 1 + 1) X hS.2.2.2.2.1 (by omega) (by omega) (Or.inl (by omega)) ?_
      refine Nx_close hs (by omega) hto (by omega) (by omega) hS.2.2.2.2.2.1 (by omega) ?_
      rw [show a + 1 + 1 + 1 + 1 + (fpr 3 l).length + 1 = a + ((fpr 3 l).length + (0 + 1) + 1 + 1 + 1 + 1) by omega]
      exact hX
  | append h t ih1 ih2 =>
    intro k hk d a X hS hl hd hsep hX
    cases k with
    | zero => exact absurd hk (by simp [fok])
    | succ k =>
      obtain ⟨h1, h2, h3⟩ := hk
      unfold fpr at hS hl hd hX
      rw [Nat.add_sub_cancel] at hS hl hd hX
      have hsep' : 0 < d ∨ ∀ j, 1 ≤ j → j ≤ k → sg ≠ fsep j := hsep.imp_right (fun g j a b => g j a (by omega))
      rcases h3 with h3 | ⟨h3, h4⟩
      · rw [if_pos h3] at hS hl hd hX
        exact ih1 k h2 d a X hS hl hd hsep' hX
      · rw [if_neg (by simp [h3])] at hS hl hd hX
        simp only [List.length_cons, List.length_append] at hl hd hX
        rw [Sg_app, Sg_cons] at hS
        refine ih1 k h2 d a X hS.1 (by omega) (by omega) hsep' ?_
        have hf : fsep (k + 1) = 38 ∨ fsep (k + 1) = 124 ∨ fsep (k + 1) = 44 := by unfold fsep; split <;> simp
        refine Nx_step hs (by omega) hto (by omega) (by omega) hS.2.1 (by omega) (by omega) (by omega) (hsep.imp_right (fun g => fun e => g (k + 1) (by omega) (by omega) e.symm)) ?_
        refine ih2 (k + 1) h4 d _ X hS.2.2 (by omega) (by omega) hsep ?_
        rw [show a + (fpr k h).length + 1 + (fpr (k + 1) t).length = a + ((fpr k h).length + ((fpr (k + 1) t).length + 1)) by omega]
        exact hX
theorem Nx_next {w : Nat → Nat} {s to sg a : Nat} {X : Option Int32} (h : Nx (Tx w s) w s to sg 0 a X) (hto : to < 900) : F_X11_next (L w) (nI s) (nI a) (nI to) (nI sg) = X := by
  unfold F_X11_next
  simp only [q_lit]
  exact h 1000 (by omega)
/-- no sign of this level outside -/
theorem next_none {w : Nat → Nat} {s a k sg : Nat} {t : Fm} (hs : s < 4) (h : fok k t) (hS : Sg (Tx w s) a (fpr k t)) (hl : a + (fpr k t).length ≤ 40) (hsg : sg = 38 ∨ sg = 124 ∨ sg = 44) (hn : ∀ j, 1 ≤ j → j ≤ k → sg ≠ fsep j) : F_X11_next (L w) (nI s) (nI a) (nI (a + (fpr k t).length)) (nI sg) = some (nI (a + (fpr k t).length)) := by
  refine Nx_next ?_ (by omega)
  exact Nx_tree hs hl hsg t k h 0 a _ hS (Nat.le_refl _) (by omega) (Or.inr hn) (Nx_end (Nat.le_refl _) (by omega))
/-- the first sign of this level -/
theorem next_sep {w : Nat → Nat} {s a k to : Nat} {h : Fm} (hs : s < 4) (ok : fok k h) (hk : k < 3) (hS : Sg (Tx w s) a (fpr k h)) (hc : Tx w s (a + (fpr k h).length) = fsep (k + 1)) (hl : a + (fpr k h).length < to) (hto : to ≤ 40) : F_X11_next (L w) (nI s) (nI a) (nI to) (nI (fsep (k + 1))) = some (nI (a + (fpr k h).length)) := by
  have hf : fsep (k + 1) = 38 ∨ fsep (k + 1) = 124 ∨ fsep (k + 1) = 44 := by unfold fsep; split <;> simp
  refine Nx_next ?_ (by omega)
  refine Nx_tree hs hto hf h k ok 0 a _ hS (by omega) (by omega) (Or.inr (fun j h1 h2 => ?_)) (Nx_hit hs hl hto (by omega) hc)
  have : k = 0 ∨ k = 1 ∨ k = 2 := by omega
  rcases this with rfl | rfl | rfl
  · omega
  · have : j = 1 := by omega
    subst this; decide
  · have : j = 1 ∨ j = 2 := by omega
    rcases this with rfl | rfl <;> decide
/-- what a tree says of a set -/
def fcb (k a b : Nat) : Nat := if k = 1 then a * b else if k = 2 then max a b else a + b
def fv (m : Nat) : Nat → Fm → Nat
  | _, .nest i _ => (m.testBit i.toNat).toNat
  | _, .group P _ => fv m 2 P
  | _, .tag c l => (decide (c ≤ fv m 3 l)).toNat
  | k, .append h t => if fnil t = true then fv m (k - 1) h else fcb k (fv m (k - 1) h) (fv m k t)
  | _, _ => 0
theorem fv_le (m : Nat) : ∀ (t : Fm) (k : Nat), fok k t → (k ≤ 2 → fv m k t ≤ 1) ∧ fv m k t ≤ (fpr k t).length := by
  intro t
  induction t with
  | nil => intro k h; cases k <;> exact absurd h (by simp [fok])
  | line => intro k h; cases k <;> exact absurd h (by simp [fok])
  | align => intro k h; cases k <;> exact absurd h (by simp [fok])
  | text => intro k h; cases k <;> exact absurd h (by simp [fok])
  | nest i f ih =>
    intro k h
    have := Bool.toNat_le (m.testBit i.toNat)
    exact ⟨fun _ => this, by simpa [fv, fpr] using this⟩
  | group P b ih =>
    intro k h
    cases k with
    | succ k => exact absurd h (by simp [fok])
    | zero =>
      have h1 := (ih 2 h).1 (by omega)
      exact ⟨fun _ => h1, by simp only [fv, fpr, List.length_cons]; omega⟩
  | tag c l ih =>
    intro k h
    have := Bool.toNat_le (decide (c ≤ fv m 3 l))
    exact ⟨fun _ => this, by simp only [fv, fpr, List.length_cons]; omega⟩
  | append h t ih1 ih2 =>
    intro k hk
    cases k with
    | zero => exact absurd hk (by simp [fok])
    | succ k =>
      obtain ⟨h1, h2, h3⟩ := hk
      have i1 := ih1 k h2
      unfold fv fpr
      rw [Nat.add_sub_cancel]
      rcases h3 with h3 | ⟨h3, h4⟩
      · rw [if_pos h3, if_pos h3]
        exact ⟨fun hx => i1.1 (by omega), i1.2⟩
      · rw [if_neg (by simp [h3]), if_neg (by simp [h3])]
        have i2 := ih2 (k + 1) h4
        have i3 := i1.1 (by omega)
        rw [List.length_append, List.length_cons]
        have : k = 0 ∨ k = 1 ∨ k = 2 := by omega
        rcases this with rfl | rfl | rfl
        · have i4 := i2.1 (by omega)
          have i5 : fv m 0 h * fv m (0 + 1) t ≤ 1 * 1 := Nat.mul_le_mul i3 i4
          have := fpr_pos h 0 h2
          rw [show fcb (0 + 1) (fv m 0 h) (fv m (0 + 1) t) = fv m 0 h * fv m (0 + 1) t from rfl]
          exact ⟨fun _ => by omega, by omega⟩
        · have i4 := i2.1 (by omega)
          rw [show fcb (1 + 1) (fv m 1 h) (fv m (1 + 1) t) = max (fv m 1 h) (fv m (1 + 1) t) from rfl]
          exact ⟨fun _ => by omega, by omega⟩
        · rw [show fcb (2 + 1) (fv m 2 h) (fv m (2 + 1) t) = fv m 2 h + fv m (2 + 1) t from rfl]
          exact ⟨fun hx => by omega, by omega⟩
theorem fv_a1 {m k : Nat} {h t : Fm} (ht : fnil t = true) : fv m (k + 1) (.append h t) = fv m k h := by
  show (if fnil t = true then fv m (k + 1 - 1) h else fcb (k + 1) (fv m (k + 1 - 1) h) (fv m (k + 1) t)) = fv m k h
  rw [if_pos ht]
  rfl
theorem fv_a2 {m k : Nat} {h t : Fm} (ht : fnil t = false) : fv m (k + 1) (.append h t) = fcb (k + 1) (fv m k h) (fv m (k + 1) t) := by
  show (if fnil t = true then fv m (k + 1 - 1) h else fcb (k + 1) (fv m (k + 1 - 1) h) (fv m (k + 1) t)) = _
  rw [if_neg (by simp [ht])]
  rfl
