/-! PURE: texts of policies: trees, readers -/
abbrev Fm : Type := Std.Format
def fnil : Fm → Bool
  | .nil => true
  | _ => false
def fsep : Nat → Nat
  | 1 => 38
  | 2 => 124
  | _ => 44
def fpr : Nat → Fm → List Nat
  | _, .nest i _ => [48 + i.toNat]
  | _, .group P _ => 40 :: (fpr 2 P ++ [41])
  | _, .tag c l => (48 + c) :: 111 :: 102 :: 40 :: (fpr 3 l ++ [41])
  | k, .append h t => if fnil t = true then fpr (k - 1) h else fpr (k - 1) h ++ fsep k :: fpr k t
  | _, _ => []
def fok : Nat → Fm → Prop
  | 0, .nest i _ => i.toNat ≤ 7
  | 0, .group P _ => fok 2 P
  | 0, .tag c l => (1 ≤ c ∧ c ≤ 9) ∧ fok 3 l
  | k + 1, .append h t => k < 3 ∧ fok k h ∧ (fnil t = true ∨ (fnil t = false ∧ fok (k + 1) t))
  | _, _ => False
def isD (c : Nat) : Bool := decide (48 ≤ c) && decide (c ≤ 57)
def hd (l : List Nat) : Nat := l.headD 0
/-- the reference's reader -/
def rP : Nat → Nat → List Nat → Bool × List Nat
  | 0, _, l => (false, l)
  | f + 1, 0, l =>
    if hd l = 40 then
      (if (rP f 2 l.tail).1 = true then (if hd (rP f 2 l.tail).2 = 41 then (true, (rP f 2 l.tail).2.tail) else (false, (rP f 2 l.tail).2)) else (false, (rP f 2 l.tail).2))
    else if isD (hd l) = false then (false, l)
    else if hd l.tail = 111 ∧ hd l ≠ 48 then
      (if hd l.tail.tail = 102 then (if hd l.tail.tail.tail = 40 then
        (if (rP f 3 l.tail.tail.tail.tail).1 = true then (if hd (rP f 3 l.tail.tail.tail.tail).2 = 41 then (true, (rP f 3 l.tail.tail.tail.tail).2.tail) else (false, (rP f 3 l.tail.tail.tail.tail).2)) else (false, (rP f 3 l.tail.tail.tail.tail).2))
        else (false, l.tail.tail.tail)) else (false, l.tail.tail))
    else (decide (hd l ≤ 55), l.tail)
  | f + 1, k + 1, l =>
    if (rP f k l).1 = true then (if hd (rP f k l).2 = fsep (k + 1) then rP f (k + 1) (rP f k l).2.tail else (true, (rP f k l).2)) else (false, (rP f k l).2)
/-- the class's reader -/
def isCnt (c : Nat) (r : List Nat) : Bool := decide (49 ≤ c) && (decide (c ≤ 57) && decide (hd r = 111))
def rM : List Nat → Nat → Nat → Nat → (Nat → Nat) → Option Nat
  | [], pos, o, d, _ => if d = 4 ∧ o = 0 then none else some pos
  | c :: r, pos, o, d, oc =>
    if d = 0 then
      (if c = 40 then rM r (pos + 1) (o + 1) 0 (updN oc (o + 1) 0)
       else if c = 56 ∨ c = 57 ∨ isCnt c r = true then rM r (pos + 1) o 1 oc
       else if 48 ≤ c ∧ c ≤ 55 then rM r (pos + 1) o 4 oc else some pos)
    else if d = 1 then (if c = 111 then rM r (pos + 1) o 2 oc else some pos)
    else if d = 2 then (if c = 102 then rM r (pos + 1) o 3 oc else some pos)
    else if d = 3 then (if c = 40 then rM r (pos + 1) (o + 1) 0 (updN oc (o + 1) 1) else some pos)
    else (if c = 41 ∧ 0 < o then rM r (pos + 1) (o - 1) 4 oc else if c = 38 ∨ c = 124 ∨ (c = 44 ∧ oc o ≠ 0) then rM r (pos + 1) o 0 oc else some pos)
theorem hd_nil : hd [] = 0 := rfl
theorem hd_cons (c : Nat) (r : List Nat) : hd (c :: r) = c := rfl
theorem hd_ne {l : List Nat} {c : Nat} (h : hd l = c) (hc : c ≠ 0) : l = c :: l.tail := by
  cases l with
  | nil => exact absurd h.symm hc
  | cons a r => rw [hd_cons] at h; rw [h]; rfl
theorem hd_len {l : List Nat} {c : Nat} (h : hd l = c) (hc : c ≠ 0) : l.length = l.tail.length + 1 := by
  rw [hd_ne h hc]
  rfl
/-- a rest is shorter, and never longer -/
theorem rP_len : ∀ f k l, (rP f k l).2.length ≤ l.length := by
  intro f
  induction f with
  | zero => intro k l; exact Nat.le_refl _
  | succ f ih =>
    intro k l
    cases k with
    | zero =>
      have h1 := ih 2 l.tail
      have h2 := ih 3 l.tail.tail.tail.tail
      have t : ∀ x : List Nat, x.tail.length ≤ x.length := fun x => by rw [List.length_tail]; omega
      have t1 := t l
      have t2 := t l.tail
      have t3 := t l.tail.tail
      have t4 := t l.tail.tail.tail
      have t5 := t (rP f 2 l.tail).2
      have t6 := t (rP f 3 l.tail.tail.tail.tail).2
      unfold rP
      repeat' split
      all_goals first | omega | (simp only []; omega)
    | succ k =>
      have h1 := ih k l
      have h2 := ih (k + 1) (rP f k l).2.tail
      have t1 : (rP f k l).2.tail.length ≤ (rP f k l).2.length := by rw [List.length_tail]; omega
      unfold rP
      repeat' split
      all_goals first | omega | (simp only []; omega)
/-- what a read text doesn't go on with -/
theorem rP_stop : ∀ f k l, 4 * l.length + k + 1 ≤ f → (rP f k l).1 = true → ∀ j, 1 ≤ j → j ≤ k → hd (rP f k l).2 ≠ fsep j := by
  intro f
  induction f with
  | zero => intro k l h; omega
  | succ f ih =>
    intro k l h hk j hj hjk
    cases k with
    | zero => omega
    | succ k =>
      unfold rP at hk ⊢
      have h1 := ih k l (by omega)
      have h3 := rP_len f k l
      split at hk
      · rename_i hA
        rw [if_pos hA]
        split at hk
        · rename_i hB
          rw [if_pos hB]
          have h4 : (rP f k l).2.length = (rP f k l).2.tail.length + 1 := hd_len hB (by unfold fsep; split <;> omega)
          exact ih (k + 1) _ (by omega) hk j hj hjk
        · rename_i hB
          rw [if_neg hB]
          rcases Nat.lt_or_ge j (k + 1) with h5 | h5
          · exact h1 hA j hj (by omega)
          · have : j = k + 1 := by omega
            rw [this]
            exact hB
      · exact absurd hk (by simp)
theorem rM_part {c : Nat} {r : List Nat} {pos o : Nat} {oc : Nat → Nat} (hc : isD c = true) (hn : ¬ (hd r = 111 ∧ c ≠ 48)) : rM (c :: r) pos o 0 oc = if c ≤ 55 then rM r (pos + 1) o 4 oc else rM r (pos + 1) o 1 oc := by
  have h1 : 48 ≤ c ∧ c ≤ 57 := by simpa [isD] using hc
  have h2 : isCnt c r = false := by
    unfold isCnt
    by_cases h3 : hd r = 111
    · have : c = 48 := by
        by_cases h4 : c = 48
        · exact h4
        · exact absurd ⟨h3, h4⟩ hn
      simp [this]
    · simp [h3]
  rw [rM]
  simp only [if_true, h2]
  rw [if_neg (by omega)]
  by_cases h5 : c ≤ 55
  · rw [if_pos h5, if_neg (by simp; omega), if_pos ⟨h1.1, h5⟩]
  · rw [if_neg h5, if_pos (by simp; omega)]
theorem rM_cl {x : List Nat} {pos o : Nat} {oc : Nat → Nat} (h : hd x = 41) : rM x pos (o + 1) 4 oc = rM x.tail (pos + 1) o 4 oc := by
  cases x with
  | nil => exact absurd h (by decide)
  | cons c r =>
    rw [hd_cons] at h
    subst h
    rw [rM]
    simp
theorem rM_sp {x : List Nat} {c pos o : Nat} {oc : Nat → Nat} (h : hd x = c) (hc : c = 38 ∨ c = 124 ∨ (c = 44 ∧ oc o ≠ 0)) : rM x pos o 4 oc = rM x.tail (pos + 1) o 0 oc := by
  cases x with
  | nil =>
    rw [hd_nil] at h
    omega
  | cons a r =>
    rw [hd_cons] at h
    subst h
    rw [rM, List.tail_cons]
    rcases hc with rfl | rfl | ⟨rfl, h2⟩
    · simp
    · simp
    · simp [h2]
theorem rM_no {x : List Nat} {pos o : Nat} {oc : Nat → Nat} (h : ¬ (hd x = 41 ∧ 0 < o)) (h1 : hd x ≠ 38) (h2 : hd x ≠ 124) (h3 : ¬ (hd x = 44 ∧ oc o ≠ 0)) (hx : x ≠ [] ∨ 0 < o) : rM x pos o 4 oc = some pos := by
  cases x with
  | nil =>
    have : ¬ o = 0 := by
      rcases hx with hx | hx
      · exact absurd rfl hx
      · omega
    rw [rM]
    simp [this]
  | cons c r =>
    rw [hd_cons] at h h1 h2 h3
    rw [rM]
    simp only [if_neg h]
    have : ¬ (c = 38 ∨ c = 124 ∨ (c = 44 ∧ oc o ≠ 0)) := by omega
    simp only [if_neg this]
    simp
/-- the two readers go side by side -/
theorem rM_sim : ∀ f k l, 4 * l.length + k + 1 ≤ f → k ≤ 3 → ∀ pos o oc, (k = 3 → oc o ≠ 0) →
    ((rP f k l).1 = true → ∃ oc' : Nat → Nat, (∀ i, i ≤ o → oc' i = oc i) ∧ rM l pos o 0 oc = rM (rP f k l).2 (pos + (l.length - (rP f k l).2.length)) o 4 oc') ∧
    ((rP f k l).1 = false → rM l pos o 0 oc = some (pos + (l.length - (rP f k l).2.length))) := by
  intro f
  induction f with
  | zero => intro k l h; omega
  | succ f ih =>
    intro k l h hk3 pos o oc hoc
    cases k with
    | zero =>
      unfold rP
      by_cases hA : hd l = 40
      · rw [if_pos hA]
        obtain ⟨r, rfl⟩ : ∃ r, l = 40 :: r := ⟨l.tail, hd_ne hA (by omega)⟩
        rw [List.tail_cons]
        simp only [List.length_cons] at h ⊢
        have hl := rP_len f 2 r
        have hs := rP_stop f 2 r (by omega)
        obtain ⟨i1, i2⟩ := ih 2 r (by omega) (by omega) (pos + 1) (o + 1) (updN oc (o + 1) 0) (by omega)
        have hstep : rM (40 :: r) pos o 0 oc = rM r (pos + 1) (o + 1) 0 (updN oc (o + 1) 0) := by rw [rM]; simp
        rw [hstep]
        by_cases hB : (rP f 2 r).1 = true
        · rw [if_pos hB]
          obtain ⟨oc', j1, j2⟩ := i1 hB
          have s1 := hs hB 1 (by omega) (by omega)
          have s2 := hs hB 2 (by omega) (by omega)
          have ho : oc' (o + 1) = 0 := by rw [j1 _ (Nat.le_refl _), uN_s]
          by_cases hC : hd (rP f 2 r).2 = 41
          · rw [if_pos hC]
            have h5 : (rP f 2 r).2.length = (rP f 2 r).2.tail.length + 1 := hd_len hC (by omega)
            refine ⟨fun _ => ⟨oc', fun i hi => ?_, ?_⟩, fun hx => absurd hx (by simp)⟩
            · rw [j1 i (by omega), uN_n _ _ (by omega)]
            · rw [j2, rM_cl hC]
              simp only []
              congr 1
              omega
          · rw [if_neg hC]
            refine ⟨fun hx => absurd hx (by simp), fun _ => ?_⟩
            rw [j2, rM_no (fun hx => hC hx.1) s1 s2 (fun hx => hx.2 ho) (Or.inr (by omega))]
            simp only []
            congr 1
            omega
        · rw [if_neg hB]
          have hB' : (rP f 2 r).1 = false := by simpa using hB
          refine ⟨fun hx => absurd hx (by simp), fun _ => ?_⟩
          rw [i2 hB']
          simp only []
          congr 1
          omega
      · rw [if_neg hA]
        by_cases hD : isD (hd l) = false
        · rw [if_pos hD]
          refine ⟨fun hx => absurd hx (by simp), fun _ => ?_⟩
          cases l with
          | nil => rw [rM, if_neg (by omega)]; simp
          | cons c r =>
            rw [hd_cons] at hA hD
            have h1 : ¬ (48 ≤ c ∧ c ≤ 57) := by
              intro hx
              simp [isD, hx.1, hx.2] at hD
            have h2 : isCnt c r = false := by
              unfold isCnt
              by_cases h3 : 49 ≤ c ∧ c ≤ 57
              · omega
              · by_cases h4 : 49 ≤ c
                · have h5 : ¬ c ≤ 57 := by omega
                  simp [h5]
                · simp [h4]
            rw [rM]
            simp only [if_true, h2]
            rw [if_neg hA, if_neg (by simp; omega), if_neg (by omega)]
            simp
        · rw [if_neg hD]
          have hD' : isD (hd l) = true := by simpa using hD
          obtain ⟨c, r, rfl⟩ : ∃ c r, l = c :: r := by
            cases l with
            | nil => exact absurd hD' (by decide)
            | cons c r => exact ⟨c, r, rfl⟩
          rw [hd_cons] at hA hD' ⊢
          rw [List.tail_cons]
          simp only [List.length_cons] at h ⊢
          have hc : 48 ≤ c ∧ c ≤ 57 := by simpa [isD] using hD'
          by_cases hE : hd r = 111 ∧ c ≠ 48
          · rw [if_pos hE]
            obtain ⟨r1, rfl⟩ : ∃ r1, r = 111 :: r1 := ⟨r.tail, hd_ne hE.1 (by omega)⟩
            rw [List.tail_cons]
            simp only [List.length_cons] at h ⊢
            have hcn : isCnt c (111 :: r1) = true := by
              have h7 : 49 ≤ c := by omega
              simp [isCnt, hd_cons, h7, hc.2]
            have st1 : rM (c :: 111 :: r1) pos o 0 oc = rM r1 (pos + 2) o 2 oc := by
              rw [rM]
              simp only [if_true]
              rw [if_neg hA, if_pos (Or.inr (Or.inr hcn)), rM]
              simp
            rw [st1]
            by_cases hF : hd r1 = 102
            · rw [if_pos hF]
              obtain ⟨r2, rfl⟩ : ∃ r2, r1 = 102 :: r2 := ⟨r1.tail, hd_ne hF (by omega)⟩
              rw [List.tail_cons]
              simp only [List.length_cons] at h ⊢
              have st2 : rM (102 :: r2) (pos + 2) o 2 oc = rM r2 (pos + 3) o 3 oc := by
                rw [rM]
                simp
              rw [st2]
              by_cases hG : hd r2 = 40
              · rw [if_pos hG]
                obtain ⟨r3, rfl⟩ : ∃ r3, r2 = 40 :: r3 := ⟨r2.tail, hd_ne hG (by omega)⟩
                rw [List.tail_cons]
                simp only [List.length_cons] at h ⊢
                have hl := rP_len f 3 r3
                have hs := rP_stop f 3 r3 (by omega)
                obtain ⟨i1, i2⟩ := ih 3 r3 (by omega) (by omega) (pos + 4) (o + 1) (updN oc (o + 1) 1) (fun _ => by rw [uN_s]; omega)
                have st3 : rM (40 :: r3) (pos + 3) o 3 oc = rM r3 (pos + 4) (o + 1) 0 (updN oc (o + 1) 1) := by
                  rw [rM]
                  simp
                rw [st3]
                by_cases hB : (rP f 3 r3).1 = true
                · rw [if_pos hB]
                  obtain ⟨oc', j1, j2⟩ := i1 hB
                  have s1 := hs hB 1 (by omega) (by omega)
                  have s2 := hs hB 2 (by omega) (by omega)
                  have s3 := hs hB 3 (by omega) (by omega)
                  by_cases hC : hd (rP f 3 r3).2 = 41
                  · rw [if_pos hC]
                    have h5 : (rP f 3 r3).2.length = (rP f 3 r3).2.tail.length + 1 := hd_len hC (by omega)
                    refine ⟨fun _ => ⟨oc', fun i hi => ?_, ?_⟩, fun hx => absurd hx (by simp)⟩
                    · rw [j1 i (by omega), uN_n _ _ (by omega)]
                    · rw [j2, rM_cl hC]
                      simp only []
                      congr 1
                      omega
                  · rw [if_neg hC]
                    refine ⟨fun hx => absurd hx (by simp), fun _ => ?_⟩
                    rw [j2, rM_no (fun hx => hC hx.1) s1 s2 (fun hx => s3 hx.1) (Or.inr (by omega))]
                    simp only []
                    congr 1
                    omega
                · rw [if_neg hB]
                  have hB' : (rP f 3 r3).1 = false := by simpa using hB
                  refine ⟨fun hx => absurd hx (by simp), fun _ => ?_⟩
                  rw [i2 hB']
                  simp only []
                  congr 1
                  omega
              · rw [if_neg hG]
                refine ⟨fun hx => absurd hx (by simp), fun _ => ?_⟩
                cases r2 with
                | nil =>
                  rw [rM, if_neg (by omega)]
                  simp
                | cons c9 q =>
                  rw [hd_cons] at hG
                  rw [rM, if_neg (by omega), if_neg (by omega), if_neg (by omega), if_pos (by omega), if_neg hG]
                  simp only [List.length_cons]
                  congr 1
                  omega
            · rw [if_neg hF]
              refine ⟨fun hx => absurd hx (by simp), fun _ => ?_⟩
              cases r1 with
              | nil =>
                rw [rM, if_neg (by omega)]
                simp
              | cons c9 q =>
                rw [hd_cons] at hF
                rw [rM, if_neg (by omega), if_neg (by omega), if_pos (by omega), if_neg hF]
                simp only [List.length_cons]
                congr 1
                omega
          · rw [if_neg hE]
            rw [rM_part hD' hE]
            simp only []
            by_cases h55 : c ≤ 55
            · rw [if_pos h55]
              refine ⟨fun _ => ⟨oc, fun _ _ => rfl, ?_⟩, fun hx => absurd hx (by simp [h55])⟩
              congr 1
              omega
            · rw [if_neg h55]
              refine ⟨fun hx => absurd hx (by simp [h55]), fun _ => ?_⟩
              cases r with
              | nil =>
                rw [rM, if_neg (by omega)]
                simp
              | cons c9 q =>
                have h9 : c9 ≠ 111 := by
                  intro hx
                  exact hE ⟨hx, by omega⟩
                rw [rM, if_neg (by omega), if_pos (by omega), if_neg h9]
                simp only [List.length_cons]
                congr 1
                omega
    | succ k =>
      unfold rP
      have hl := rP_len f k l
      obtain ⟨i1, i2⟩ := ih k l (by omega) (by omega) pos o oc (by omega)
      by_cases hA : (rP f k l).1 = true
      · rw [if_pos hA]
        obtain ⟨oc', j1, j2⟩ := i1 hA
        by_cases hB : hd (rP f k l).2 = fsep (k + 1)
        · rw [if_pos hB]
          have hne : fsep (k + 1) ≠ 0 := by unfold fsep; split <;> omega
          have h5 : (rP f k l).2.length = (rP f k l).2.tail.length + 1 := hd_len hB hne
          have hl2 := rP_len f (k + 1) (rP f k l).2.tail
          have hgo : rM (rP f k l).2 (pos + (l.length - (rP f k l).2.length)) o 4 oc' = rM (rP f k l).2.tail (pos + (l.length - (rP f k l).2.length) + 1) o 0 oc' := by
            refine rM_sp hB ?_
            have hk : k = 0 ∨ k = 1 ∨ k = 2 := by omega
            rcases hk with rfl | rfl | rfl
            · exact Or.inl rfl
            · exact Or.inr (Or.inl rfl)
            · exact Or.inr (Or.inr ⟨rfl, by rw [j1 o (Nat.le_refl o)]; exact hoc rfl⟩)
          obtain ⟨m1, m2⟩ := ih (k + 1) (rP f k l).2.tail (by omega) hk3 (pos + (l.length - (rP f k l).2.length) + 1) o oc' (fun hx => by rw [j1 o (Nat.le_refl o)]; exact hoc hx)
          refine ⟨fun hx => ?_, fun hx => ?_⟩
          · obtain ⟨oc2, n1, n2⟩ := m1 hx
            refine ⟨oc2, fun i hi => by rw [n1 i hi, j1 i hi], ?_⟩
            rw [j2, hgo, n2]
            congr 1
            omega
          · rw [j2, hgo, m2 hx]
            congr 1
            omega
        · rw [if_neg hB]
          exact ⟨fun _ => ⟨oc', j1, j2⟩, fun hx => absurd hx (by simp)⟩
      · rw [if_neg hA]
        have hA' : (rP f k l).1 = false := by simpa using hA
        exact ⟨fun hx => absurd hx (by simp), fun _ => i2 hA'⟩
/-- the verdict of both readers on a whole text -/
theorem rM_whole (l : List Nat) (f : Nat) (hf : 4 * l.length + 3 ≤ f) : rM l 0 0 0 (fun _ => 0) = if (rP f 2 l).1 = true ∧ (rP f 2 l).2 = [] then none else some (l.length - (rP f 2 l).2.length) := by
  obtain ⟨i1, i2⟩ := rM_sim f 2 l (by omega) (by omega) 0 0 (fun _ => 0) (by omega)
  have hl := rP_len f 2 l
  by_cases hA : (rP f 2 l).1 = true
  · obtain ⟨oc', j1, j2⟩ := i1 hA
    rw [j2]
    have hs := rP_stop f 2 l (by omega) hA
    have s1 := hs 1 (by omega) (by omega)
    have s2 := hs 2 (by omega) (by omega)
    cases hr : (rP f 2 l).2 with
    | nil =>
      rw [if_pos ⟨hA, rfl⟩, rM, if_pos ⟨rfl, rfl⟩]
    | cons c q =>
      rw [hr] at s1 s2
      have h0 : oc' 0 = 0 := j1 0 (Nat.le_refl 0)
      rw [if_neg (by simp), rM_no (fun hx => by omega) s1 s2 (fun hx => hx.2 h0) (Or.inl (by simp)), Nat.zero_add]
  · have hA' : (rP f 2 l).1 = false := by simpa using hA
    rw [i2 hA', if_neg (fun hx => hA hx.1), Nat.zero_add]
/-- a text that is read is a tree's -/
theorem rP_tree : ∀ f k l, 4 * l.length + k + 1 ≤ f → k ≤ 3 → (rP f k l).1 = true → hd (rP f k l).2 ≠ 111 → ∃ t : Fm, fok k t ∧ l = fpr k t ++ (rP f k l).2 := by
  intro f
  induction f with
  | zero => intro k l h; omega
  | succ f ih =>
    intro k l h hk3 ht hr
    cases k with
    | zero =>
      unfold rP at ht hr ⊢
      by_cases hA : hd l = 40
      · rw [if_pos hA] at ht hr ⊢
        obtain ⟨r, rfl⟩ : ∃ r, l = 40 :: r := ⟨l.tail, hd_ne hA (by omega)⟩
        rw [List.tail_cons] at ht hr ⊢
        simp only [List.length_cons] at h
        by_cases hB : (rP f 2 r).1 = true
        · rw [if_pos hB] at ht hr ⊢
          by_cases hC : hd (rP f 2 r).2 = 41
          · rw [if_pos hC] at ht hr ⊢
            obtain ⟨t, t1, t2⟩ := ih 2 r (by omega) (by omega) hB (by rw [hC]; omega)
            refine ⟨.group t .allOrNone, t1, ?_⟩
            have e := hd_ne hC (by omega)
            show 40 :: r = 40 :: (fpr 2 t ++ [41]) ++ _
            simp only [List.cons_append, List.append_assoc, List.nil_append]
            rw [← e, ← t2]
          · rw [if_neg hC] at ht
            exact absurd ht (by simp)
        · rw [if_neg hB] at ht
          exact absurd ht (by simp)
      · rw [if_neg hA] at ht hr ⊢
        by_cases hD : isD (hd l) = false
        · rw [if_pos hD] at ht
          exact absurd ht (by simp)
        · rw [if_neg hD] at ht hr ⊢
          have hD' : isD (hd l) = true := by simpa using hD
          obtain ⟨c, r, rfl⟩ : ∃ c r, l = c :: r := by
            cases l with
            | nil => exact absurd hD' (by decide)
            | cons c r => exact ⟨c, r, rfl⟩
          rw [hd_cons] at hA hD' ht hr ⊢
          rw [List.tail_cons] at ht hr ⊢
          simp only [List.length_cons] at h
          have hc : 48 ≤ c ∧ c ≤ 57 := by simpa [isD] using hD'
          by_cases hE : hd r = 111 ∧ c ≠ 48
          · rw [if_pos hE] at ht hr ⊢
            obtain ⟨r1, rfl⟩ : ∃ r1, r = 111 :: r1 := ⟨r.tail, hd_ne hE.1 (by omega)⟩
            rw [List.tail_cons] at ht hr ⊢
            by_cases hF : hd r1 = 102
            · rw [if_pos hF] at ht hr ⊢
              obtain ⟨r2, rfl⟩ : ∃ r2, r1 = 102 :: r2 := ⟨r1.tail, hd_ne hF (by omega)⟩
              rw [List.tail_cons] at ht hr ⊢
              by_cases hG : hd r2 = 40
              · rw [if_pos hG] at ht hr ⊢
                obtain ⟨r3, rfl⟩ : ∃ r3, r2 = 40 :: r3 := ⟨r2.tail, hd_ne hG (by omega)⟩
                rw [List.tail_cons] at ht hr ⊢
                simp only [List.length_cons] at h
                by_cases hB : (rP f 3 r3).1 = true
                · rw [if_pos hB] at ht hr ⊢
                  by_cases hC : hd (rP f 3 r3).2 = 41
                  · rw [if_pos hC] at ht hr ⊢
                    obtain ⟨t, t1, t2⟩ := ih 3 r3 (by omega) (by omega) hB (by rw [hC]; omega)
                    refine ⟨.tag (c - 48) t, ⟨by omega, t1⟩, ?_⟩
                    have e := hd_ne hC (by omega)
                    show c :: 111 :: 102 :: 40 :: r3 = (48 + (c - 48)) :: 111 :: 102 :: 40 :: (fpr 3 t ++ [41]) ++ _
                    simp only [List.cons_append, List.append_assoc, List.nil_append]
                    rw [← e, ← t2, show 48 + (c - 48) = c by omega]
                  · rw [if_neg hC] at ht
                    exact absurd ht (by simp)
                · rw [if_neg hB] at ht
                  exact absurd ht (by simp)
              · rw [if_neg hG] at ht
                exact absurd ht (by simp)
            · rw [if_neg hF] at ht
              exact absurd ht (by simp)
          · rw [if_neg hE] at ht hr ⊢
            simp only [decide_eq_true_eq] at ht
            refine ⟨.nest (Int.ofNat (c - 48)) .nil, ?_, ?_⟩
            · show (Int.ofNat (c - 48)).toNat ≤ 7
              show c - 48 ≤ 7
              omega
            · show c :: r = [48 + (Int.ofNat (c - 48)).toNat] ++ r
              show c :: r = (48 + (c - 48)) :: r
              rw [show 48 + (c - 48) = c by omega]
    | succ k =>
      unfold rP at ht hr ⊢
      have hl := rP_len f k l
      by_cases hA : (rP f k l).1 = true
      · rw [if_pos hA] at ht hr ⊢
        by_cases hB : hd (rP f k l).2 = fsep (k + 1)
        · rw [if_pos hB] at ht hr ⊢
          have hne : fsep (k + 1) ≠ 0 := by unfold fsep; split <;> omega
          have h5 : (rP f k l).2.length = (rP f k l).2.tail.length + 1 := hd_len hB hne
          obtain ⟨a, a1, a2⟩ := ih k l (by omega) (by omega) hA (by rw [hB]; unfold fsep; split <;> omega)
          obtain ⟨b, b1, b2⟩ := ih (k + 1) (rP f k l).2.tail (by omega) hk3 ht hr
          have hnb : fnil b = false := by
            cases b <;> first | rfl | exact absurd b1 (by simp [fok])
          refine ⟨.append a b, ⟨by omega, a1, Or.inr ⟨hnb, b1⟩⟩, ?_⟩
          have e := hd_ne hB hne
          show l = (if fnil b = true then fpr k a else fpr k a ++ fsep (k + 1) :: fpr (k + 1) b) ++ _
          rw [if_neg (by simp [hnb]), List.append_assoc, List.cons_append, ← b2, ← e, ← a2]
        · rw [if_neg hB] at ht hr ⊢
          obtain ⟨a, a1, a2⟩ := ih k l (by omega) (by omega) hA hr
          refine ⟨.append a .nil, ⟨by omega, a1, Or.inl rfl⟩, ?_⟩
          exact a2
      · rw [if_neg hA] at ht
        exact absurd ht (by simp)
