/-! PURE: the written policies: without needless parentheses -/
/-- parentheses written only around alternatives beside an 'and': by the class's marks (fO) and by the reference's walk (fW) -/
def fA : Nat → Fm → Bool
  | _, .group P _ => fA 2 P
  | k, .append h t => if k = 1 then (if fnil t = true then fA 0 h else false) else if k = 2 then (if fnil t = true then fA 1 h else true) else false
  | _, _ => false
def fO : Nat → Bool → Fm → List Nat
  | _, _, .nest i _ => [48 + i.toNat]
  | _, s, .group P _ => if (fA 2 P && s) = true then 40 :: (fO 2 false P ++ [41]) else fO 2 false P
  | _, _, .tag c l => (48 + c) :: 111 :: 102 :: 40 :: (fO 3 false l ++ [41])
  | k, s, .append h t => if fnil t = true then fO (k - 1) (decide (k = 1) && s) h else fO (k - 1) (decide (k = 1)) h ++ fsep k :: fO k (decide (k = 1)) t
  | _, _, _ => []
def fsv : Fm → Bool
  | .append _ t => !fnil t
  | _ => false
def fW : Nat → Bool → Fm → List Nat
  | _, _, .nest i _ => [48 + i.toNat]
  | _, s, .group P _ => if fsv P = true then (if s = true then 40 :: (fW 2 false P ++ [41]) else fW 2 false P) else fW 2 s P
  | _, _, .tag c l => (48 + c) :: 111 :: 102 :: 40 :: (fW 3 false l ++ [41])
  | k, s, .append h t => if fnil t = true then fW (k - 1) (decide (k ≤ 2) && s) h else fW (k - 1) (decide (k = 1)) h ++ fsep k :: fW k (decide (k = 1)) t
  | _, _, _ => []
theorem fO_a1 {k : Nat} {s : Bool} {h t : Fm} (ht : fnil t = true) : fO k s (.append h t) = fO (k - 1) (decide (k = 1) && s) h := by rw [fO, if_pos ht]
theorem fO_a2 {k : Nat} {s : Bool} {h t : Fm} (ht : fnil t = false) : fO k s (.append h t) = fO (k - 1) (decide (k = 1)) h ++ fsep k :: fO k (decide (k = 1)) t := by rw [fO, if_neg (by rw [ht]; decide)]
theorem fW_a1 {k : Nat} {s : Bool} {h t : Fm} (ht : fnil t = true) : fW k s (.append h t) = fW (k - 1) (decide (k ≤ 2) && s) h := by rw [fW, if_pos ht]
theorem fW_a2 {k : Nat} {s : Bool} {h t : Fm} (ht : fnil t = false) : fW k s (.append h t) = fW (k - 1) (decide (k = 1)) h ++ fsep k :: fW k (decide (k = 1)) t := by rw [fW, if_neg (by rw [ht]; decide)]
/-- beside an 'and': the same text, in parentheses if it shows alternatives -/
theorem fO_s0 {t : Fm} (h : fok 0 t) (s : Bool) : fO 0 s t = if (fA 0 t && s) = true then 40 :: (fO 0 false t ++ [41]) else fO 0 false t := by
  cases t with
  | nest i f => simp [fO, fA]
  | group P b =>
    rw [fO, fO, fA, if_neg (show ¬ (fA 2 P && false) = true by simp)]
  | tag c l => simp [fO, fA]
  | append a b => exact absurd h (by simp [fok])
  | _ => exact absurd h (by simp [fok])
theorem fO_s1 {t : Fm} (h : fok 1 t) (s : Bool) : fO 1 s t = if (fA 1 t && s) = true then 40 :: (fO 1 false t ++ [41]) else fO 1 false t := by
  cases t with
  | append a b =>
    rw [fok] at h
    by_cases hb : fnil b = true
    · rw [fO_a1 hb, fO_a1 hb, fA, if_pos rfl, if_pos hb]
      simp only [decide_true, Bool.true_and, Nat.sub_self]
      exact fO_s0 h.2.1 s
    · have hb' : fnil b = false := by simpa using hb
      rw [fO_a2 hb', fO_a2 hb', fA, if_pos rfl, if_neg hb]
      simp
  | _ => exact absurd h (by simp [fok])
/-- the two ways of writing are one -/
theorem fW_O : ∀ (t : Fm) (k : Nat), fok k t → ((k ≤ 1 ∨ k = 3) → ∀ s, fW k s t = fO k s t) ∧ (k = 2 → fW 2 false t = fO 2 false t ∧ (fsv t = true → fA 2 t = true) ∧ (fsv t = false → ∀ s, fW 2 s t = if (fA 2 t && s) = true then 40 :: (fO 2 false t ++ [41]) else fO 2 false t)) := by
  intro t
  induction t with
  | nest i f ih =>
    intro k hk
    cases k with
    | zero => exact ⟨fun _ s => by rw [fW, fO], fun h => by omega⟩
    | succ k => exact absurd hk (by simp [fok])
  | group P b ih =>
    intro k hk
    cases k with
    | zero =>
      refine ⟨fun _ s => ?_, fun h => by omega⟩
      rw [fok] at hk
      obtain ⟨i1, i2, i3⟩ := (ih 2 hk).2 rfl
      rw [fW, fO]
      cases hs : fsv P with
      | true =>
        rw [if_pos rfl, i2 hs, i1]
        cases s <;> simp
      | false =>
        rw [if_neg (by simp), i3 hs s]
    | succ k => exact absurd hk (by simp [fok])
  | tag c l ih =>
    intro k hk
    cases k with
    | zero =>
      refine ⟨fun _ s => ?_, fun h => by omega⟩
      rw [fok] at hk
      rw [fW, fO, (ih 3 hk.2).1 (Or.inr rfl) false]
    | succ k => exact absurd hk (by simp [fok])
  | append a b iha ihb =>
    intro k hk
    cases k with
    | zero => exact absurd hk (by simp [fok])
    | succ k =>
      rw [fok] at hk
      obtain ⟨h1, h2, h3⟩ := hk
      have hka : k = 0 ∨ k = 1 ∨ k = 2 := by omega
      by_cases hb : fnil b = true
      · rcases hka with rfl | rfl | rfl
        · refine ⟨fun _ s => ?_, fun h => by omega⟩
          rw [fW_a1 hb, fO_a1 hb]
          exact (iha 0 h2).1 (Or.inl (by omega)) s
        · refine ⟨fun h => by omega, fun _ => ⟨?_, fun h => ?_, fun _ s => ?_⟩⟩
          · rw [fW_a1 hb, fO_a1 hb]
            exact (iha 1 h2).1 (Or.inl (by omega)) false
          · simp [fsv, hb] at h
          · have hA : fA 2 (.append a b) = fA 1 a := by simp [fA, hb]
            rw [fW_a1 hb, fO_a1 hb, hA]
            have := (iha 1 h2).1 (Or.inl (by omega)) s
            show fW 1 (decide (2 ≤ 2) && s) a = if (fA 1 a && s) = true then 40 :: (fO 1 false a ++ [41]) else fO 1 false a
            rw [show (decide (2 ≤ 2) && s) = s by simp, this]
            exact fO_s1 h2 s
        · refine ⟨fun _ s => ?_, fun h => by omega⟩
          rw [fW_a1 hb, fO_a1 hb]
          exact ((iha 2 h2).2 rfl).1
      · have hb' : fnil b = false := by simpa using hb
        have h3' : fok (k + 1) b := by
          rcases h3 with h3 | h3
          · rw [hb'] at h3; exact absurd h3 (by decide)
          · exact h3.2
        rcases hka with rfl | rfl | rfl
        · refine ⟨fun _ s => ?_, fun h => by omega⟩
          rw [fW_a2 hb', fO_a2 hb']
          have e1 := (iha 0 h2).1 (Or.inl (by omega)) true
          have e2 := (ihb 1 h3').1 (Or.inl (by omega)) true
          simp only [Nat.zero_add, decide_true, Nat.sub_self]
          rw [e1, e2]
        · have e1 := (iha 1 h2).1 (Or.inl (by omega)) false
          have e2 := ((ihb 2 h3').2 rfl).1
          refine ⟨fun h => by omega, fun _ => ⟨?_, fun _ => ?_, fun h => ?_⟩⟩
          · rw [fW_a2 hb', fO_a2 hb']
            show fW 1 false a ++ fsep 2 :: fW 2 false b = fO 1 false a ++ fsep 2 :: fO 2 false b
            rw [e1, e2]
          · rw [fA, if_neg (by omega), if_pos rfl, if_neg hb]
          · simp [fsv, hb'] at h
        · refine ⟨fun _ s => ?_, fun h => by omega⟩
          rw [fW_a2 hb', fO_a2 hb']
          have e1 := ((iha 2 h2).2 rfl).1
          have e2 := (ihb 3 h3').1 (Or.inr rfl) false
          show fW 2 false a ++ fsep 3 :: fW 3 false b = fO 2 false a ++ fsep 3 :: fO 3 false b
          rw [e1, e2]
  | _ =>
    intro k hk
    cases k <;> exact absurd hk (by simp [fok])
