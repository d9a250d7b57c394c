/-! PURE: parts and named members of a policy's text -/
def np : Fm → Nat
  | .nest _ _ => 1
  | .group P _ => np P
  | .tag _ l => 1 + np l
  | .append a b => np a + (if fnil b = true then 0 else np b)
  | _ => 0
def nm : Fm → Nat
  | .nest i _ => 2 ^ i.toNat
  | .group P _ => nm P
  | .tag _ l => nm l
  | .append a b => nm a ||| (if fnil b = true then 0 else nm b)
  | _ => 0
def sc1 : List Nat → Nat → Nat → Nat × Nat
  | [], p, m => (p, m)
  | c :: r, p, m => if (decide (48 ≤ c) && (decide (c ≤ 55) && !isCnt c r)) = true then sc1 r (p + 1) (m ||| 2 ^ (c - 48)) else if isCnt c r = true then sc1 r (p + 1) m else sc1 r p m
theorem sc1_no {c : Nat} {r : List Nat} {p m : Nat} (h : c < 48 ∨ 57 < c) : sc1 (c :: r) p m = sc1 r p m := by
  rw [sc1]
  have h1 : isCnt c r = false := by
    unfold isCnt
    rcases h with h | h
    · rw [decide_eq_false (show ¬ 49 ≤ c by omega), Bool.false_and]
    · rw [decide_eq_false (show ¬ c ≤ 57 by omega), Bool.false_and, Bool.and_false]
  rw [h1, if_neg, if_neg (by decide)]
  rcases h with h | h
  · rw [decide_eq_false (show ¬ 48 ≤ c by omega), Bool.false_and]; decide
  · rw [decide_eq_false (show ¬ c ≤ 55 by omega), Bool.false_and, Bool.and_false]; decide
theorem sc1_mem {i : Nat} {r : List Nat} {p m : Nat} (h : i ≤ 7) (hr : hd r ≠ 111) : sc1 ((48 + i) :: r) p m = sc1 r (p + 1) (m ||| 2 ^ i) := by
  rw [sc1]
  have h1 : isCnt (48 + i) r = false := by
    unfold isCnt
    rw [decide_eq_false hr, Bool.and_false, Bool.and_false]
  rw [h1, if_pos (by rw [decide_eq_true (show 48 ≤ 48 + i by omega), decide_eq_true (show 48 + i ≤ 55 by omega)]; rfl), Nat.add_sub_cancel_left]
theorem sc1_cnt {c : Nat} {r : List Nat} {p m : Nat} (h : 1 ≤ c) (h2 : c ≤ 9) : sc1 ((48 + c) :: 111 :: 102 :: 40 :: r) p m = sc1 r (p + 1) m := by
  rw [sc1]
  have h1 : isCnt (48 + c) (111 :: 102 :: 40 :: r) = true := by
    unfold isCnt
    rw [decide_eq_true (show 49 ≤ 48 + c by omega), decide_eq_true (show 48 + c ≤ 57 by omega)]
    rfl
  rw [h1, if_neg (by simp), if_pos rfl, sc1_no (by omega), sc1_no (by omega), sc1_no (by omega)]
/-- the written text -/
theorem sc1_O : ∀ (t : Fm) (k : Nat), fok k t → ∀ s r p m, hd r ≠ 111 → sc1 (fO k s t ++ r) p m = sc1 r (p + np t) (m ||| nm t) := by
  intro t
  induction t with
  | nest i f ih =>
    intro k hk s r p m hr
    cases k with
    | zero => rw [fO]; exact sc1_mem hk hr
    | succ k => exact absurd hk (by simp [fok])
  | group P b ih =>
    intro k hk s r p m hr
    cases k with
    | succ k => exact absurd hk (by simp [fok])
    | zero =>
      rw [fO, np, nm]
      split
      · rw [List.cons_append, sc1_no (by omega), List.append_assoc, ih 2 hk _ _ _ _ (by simp [hd]), List.singleton_append, sc1_no (by omega)]
      · exact ih 2 hk _ _ _ _ hr
  | tag c l ih =>
    intro k hk s r p m hr
    cases k with
    | succ k => exact absurd hk (by simp [fok])
    | zero =>
      have h9 : (1 ≤ c ∧ c ≤ 9) ∧ fok 3 l := hk
      rw [fO, np, nm]
      simp only [List.cons_append, List.append_assoc]
      rw [sc1_cnt h9.1.1 h9.1.2, ih 3 h9.2 _ _ _ _ (by simp [hd]), List.nil_append, sc1_no (by omega), Nat.add_assoc]
  | append a b iha ihb =>
    intro k hk s r p m hr
    cases k with
    | zero => exact absurd hk (by simp [fok])
    | succ k =>
      obtain ⟨h1, h2, h3⟩ := hk
      by_cases hb : fnil b = true
      · rw [fO_a1 hb, np, nm, if_pos hb, if_pos hb, Nat.add_zero, Nat.or_zero]
        exact iha k h2 _ _ _ _ hr
      · have hb' : fnil b = false := by simpa using hb
        have h3' : fok (k + 1) b := by
          rcases h3 with h3 | h3
          · rw [hb'] at h3; exact absurd h3 (by decide)
          · exact h3.2
        have hsp : fsep (k + 1) < 48 ∨ 57 < fsep (k + 1) := by unfold fsep; split <;> omega
        have hsp2 : fsep (k + 1) ≠ 111 := by unfold fsep; split <;> omega
        rw [fO_a2 hb', np, nm, if_neg hb, if_neg hb, List.append_assoc, List.cons_append]
        rw [show k + 1 - 1 = k from rfl, iha k h2 _ _ _ _ (by simpa [hd] using hsp2), sc1_no hsp, ihb (k + 1) h3' _ _ _ _ hr, Nat.add_assoc, Nat.or_assoc]
  | _ => intro k hk; cases k <;> exact absurd hk (by simp [fok])
/-- the kept text -/
theorem sc1_P : ∀ (t : Fm) (k : Nat), fok k t → ∀ r p m, hd r ≠ 111 → sc1 (fpr k t ++ r) p m = sc1 r (p + np t) (m ||| nm t) := by
  intro t
  induction t with
  | nest i f ih =>
    intro k hk r p m hr
    cases k with
    | zero => rw [fpr]; exact sc1_mem hk hr
    | succ k => exact absurd hk (by simp [fok])
  | group P b ih =>
    intro k hk r p m hr
    cases k with
    | succ k => exact absurd hk (by simp [fok])
    | zero =>
      rw [fpr, np, nm, List.cons_append, sc1_no (by omega), List.append_assoc, ih 2 hk _ _ _ (by simp [hd]), List.singleton_append, sc1_no (by omega)]
  | tag c l ih =>
    intro k hk r p m hr
    cases k with
    | succ k => exact absurd hk (by simp [fok])
    | zero =>
      have h9 : (1 ≤ c ∧ c ≤ 9) ∧ fok 3 l := hk
      rw [fpr, np, nm]
      simp only [List.cons_append, List.append_assoc]
      rw [sc1_cnt h9.1.1 h9.1.2, ih 3 h9.2 _ _ _ (by simp [hd]), List.nil_append, sc1_no (by omega), Nat.add_assoc]
  | append a b iha ihb =>
    intro k hk r p m hr
    cases k with
    | zero => exact absurd hk (by simp [fok])
    | succ k =>
      obtain ⟨h1, h2, h3⟩ := hk
      by_cases hb : fnil b = true
      · rw [fpr_a1 hb, np, nm, if_pos hb, if_pos hb, Nat.add_zero, Nat.or_zero]
        exact iha k h2 _ _ _ hr
      · have hb' : fnil b = false := by simpa using hb
        have h3' : fok (k + 1) b := by
          rcases h3 with h3 | h3
          · rw [hb'] at h3; exact absurd h3 (by decide)
          · exact h3.2
        have hsp : fsep (k + 1) < 48 ∨ 57 < fsep (k + 1) := by unfold fsep; split <;> omega
        have hsp2 : fsep (k + 1) ≠ 111 := by unfold fsep; split <;> omega
        rw [fpr_a2 hb', np, nm, if_neg hb, if_neg hb, List.append_assoc, List.cons_append]
        rw [iha k h2 _ _ _ (by simpa [hd] using hsp2), sc1_no hsp, ihb (k + 1) h3' _ _ _ hr, Nat.add_assoc, Nat.or_assoc]
  | _ => intro k hk; cases k <;> exact absurd hk (by simp [fok])
