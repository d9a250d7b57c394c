/-! PURE: the judge on a written text says what the tree says -/
theorem jd_sk {m c : Nat} {r st : _} {f : JFr} {k : Nat} (h1 : c < 48 ∨ 57 < c) (h2 : c ≠ 40) (h3 : c ≠ 41) (h4 : c ≠ 44) (h5 : c ≠ 124) : jd m (c :: r) f st k = jd m r f st k := by
  have a1 : isCnt c r = false := by
    unfold isCnt
    rcases h1 with h | h
    · rw [decide_eq_false (show ¬ 49 ≤ c by omega), Bool.false_and]
    · rw [decide_eq_false (show ¬ c ≤ 57 by omega), Bool.false_and, Bool.and_false]
  have a2 : jmem c r = false := by
    unfold jmem
    rcases h1 with h | h
    · rw [decide_eq_false (show ¬ 48 ≤ c by omega), Bool.false_and]
    · rw [decide_eq_false (show ¬ c ≤ 55 by omega), Bool.false_and, Bool.and_false]
  rw [jd, a1, a2, if_neg (by decide), if_neg (by decide), if_neg h2, if_neg h5, if_neg h4, if_neg h3]
theorem jd_sg {c : Nat} {r : List Nat} (h1 : c < 48 ∨ 57 < c) : isCnt c r = false ∧ jmem c r = false := by
  constructor
  · unfold isCnt
    rcases h1 with h | h
    · rw [decide_eq_false (show ¬ 49 ≤ c by omega), Bool.false_and]
    · rw [decide_eq_false (show ¬ c ≤ 57 by omega), Bool.false_and, Bool.and_false]
  · unfold jmem
    rcases h1 with h | h
    · rw [decide_eq_false (show ¬ 48 ≤ c by omega), Bool.false_and]
    · rw [decide_eq_false (show ¬ c ≤ 55 by omega), Bool.false_and, Bool.and_false]
theorem jd_op {m k : Nat} {r : List Nat} {f : JFr} {st : List JFr} : jd m (40 :: r) f st k = jd m r (k, 0, 0, 1) (f :: st) 1 := by
  rw [jd, (jd_sg (r := r) (show 40 < 48 ∨ 57 < 40 by omega)).1, (jd_sg (r := r) (show 40 < 48 ∨ 57 < 40 by omega)).2, if_neg (by decide), if_neg (by decide), if_pos rfl]
theorem jd_or {m k : Nat} {r : List Nat} {f : JFr} {st : List JFr} : jd m (124 :: r) f st k = jd m r (jall f) st k := by
  rw [jd, (jd_sg (r := r) (show 124 < 48 ∨ 57 < 124 by omega)).1, (jd_sg (r := r) (show 124 < 48 ∨ 57 < 124 by omega)).2, if_neg (by decide), if_neg (by decide), if_neg (by decide), if_pos rfl]
theorem jd_co {m k : Nat} {r : List Nat} {f : JFr} {st : List JFr} : jd m (44 :: r) f st k = jd m r (jcon f) st k := by
  rw [jd, (jd_sg (r := r) (show 44 < 48 ∨ 57 < 44 by omega)).1, (jd_sg (r := r) (show 44 < 48 ∨ 57 < 44 by omega)).2, if_neg (by decide), if_neg (by decide), if_neg (by decide), if_neg (by decide), if_pos rfl]
theorem jd_cl {m k : Nat} {r : List Nat} {f g : JFr} {st : List JFr} : jd m (41 :: r) f (g :: st) k = jd m r (jreq g (jend f)) st k := by
  rw [jd, (jd_sg (r := r) (show 41 < 48 ∨ 57 < 41 by omega)).1, (jd_sg (r := r) (show 41 < 48 ∨ 57 < 41 by omega)).2, if_neg (by decide), if_neg (by decide), if_neg (by decide), if_neg (by decide), if_neg (by decide), if_pos rfl]
  rfl
theorem jd_mem {m i k : Nat} {r : List Nat} {f : JFr} {st : List JFr} (h : i ≤ 7) (hr : hd r ≠ 111) : jd m ((48 + i) :: r) f st k = jd m r (jreq f (m.testBit i).toNat) st k := by
  have h1 : isCnt (48 + i) r = false := by
    unfold isCnt
    rw [decide_eq_false hr, Bool.and_false, Bool.and_false]
  have h2 : jmem (48 + i) r = true := by
    unfold jmem
    rw [h1, decide_eq_true (show 48 ≤ 48 + i by omega), decide_eq_true (show 48 + i ≤ 55 by omega)]
    rfl
  rw [jd, h1, h2, if_neg (by decide), if_pos rfl, Nat.add_sub_cancel_left]
theorem jd_cnt {m c k : Nat} {r : List Nat} {f : JFr} {st : List JFr} (h : 1 ≤ c) (h2 : c ≤ 9) : jd m ((48 + c) :: 111 :: 102 :: 40 :: r) f st k = jd m r (c, 0, 0, 1) (f :: st) 1 := by
  have h1 : isCnt (48 + c) (111 :: 102 :: 40 :: r) = true := by
    unfold isCnt
    rw [decide_eq_true (show 49 ≤ 48 + c by omega), decide_eq_true (show 48 + c ≤ 57 by omega)]
    rfl
  rw [jd, h1, if_pos rfl, Nat.add_sub_cancel_left, jd_sk (by omega) (by omega) (by omega) (by omega) (by omega), jd_sk (by omega) (by omega) (by omega) (by omega) (by omega), jd_op]
def stp (r : List Nat) : Prop := r = [] ∨ hd r = 124 ∨ hd r = 44 ∨ (hd r = 41)
theorem stp_o {r : List Nat} (h : stp r) : hd r ≠ 111 := by
  rcases h with h | h | h | h
  · rw [h]; decide
  · rw [h]; decide
  · rw [h]; decide
  · rw [h]; decide
/-- where alternatives end, only their maximum counts -/
theorem jd_ind {m k d e x y x' y' : Nat} {r : List Nat} {st : List JFr} (h : stp r) (hst : hd r = 41 → st ≠ []) (hm : max x y = max x' y') : jd m r (d, e, x, y) st k = jd m r (d, e, x', y') st k := by
  have hne : ∀ c, hd r = c → c ≠ 0 → r = c :: r.tail := fun c a b => hd_ne a b
  rcases h with h | h | h | h
  · subst h
    rw [jd, jd]
    unfold jend
    simp only []
    rw [hm]
  · rw [hne 124 h (by omega), jd_or, jd_or]
    unfold jall
    simp only []
    rw [hm]
  · rw [hne 44 h (by omega), jd_co, jd_co]
    unfold jcon
    simp only []
    rw [hm]
  · cases st with
    | nil => exact absurd rfl (hst h)
    | cons g st =>
      rw [hne 41 h (by omega), jd_cl, jd_cl]
      unfold jend
      simp only []
      rw [hm]
def JA (m : Nat) (t : Fm) (k : Nat) : Prop := k ≤ 2 → ∀ s : Bool, ((k ≤ 1 ∧ s = true) ∨ fA k t = false) → ∀ r d e x y st, hd r ≠ 111 → jd m (fO k s t ++ r) (d, e, x, y) st 1 = jd m r (d, e, x, y * fv m k t) st 1
def JB (m : Nat) (t : Fm) (k : Nat) : Prop := k ≤ 2 → ∀ r d e x st, stp r → (hd r = 41 → st ≠ []) → jd m (fO k false t ++ r) (d, e, x, 1) st 1 = jd m r (d, e, x, fv m k t) st 1
def JC (m : Nat) (t : Fm) (k : Nat) : Prop := k = 3 → ∀ s r d e g st, jd m (fO 3 s t ++ 41 :: r) (d, e, 0, 1) (g :: st) 1 = jd m r (jreq g (decide (d ≤ e + fv m 3 t)).toNat) st 1
theorem jd_tree {m : Nat} : ∀ (t : Fm) (k : Nat), fok k t → JA m t k ∧ JB m t k ∧ JC m t k := by
  intro t
  induction t with
  | nest i f ih =>
    intro k hk
    cases k with
    | succ k => exact absurd hk (by simp [fok])
    | zero =>
      have h1 : i.toNat ≤ 7 := hk
      refine ⟨fun _ s _ r d e x y st hr => ?_, fun _ r d e x st hr _ => ?_, fun h => by omega⟩
      · rw [fO, fv]
        exact jd_mem h1 hr
      · rw [fO, fv]
        refine (jd_mem h1 (stp_o hr)).trans ?_
        unfold jreq
        simp only [Nat.one_mul]
  | group P b ih =>
    intro k hk
    cases k with
    | succ k => exact absurd hk (by simp [fok])
    | zero =>
      have hk2 : fok 2 P := hk
      obtain ⟨iA, iB, iC⟩ := ih 2 hk2
      refine ⟨fun _ s hs r d e x y st hr => ?_, fun _ r d e x st hr h41 => ?_, fun h => by omega⟩
      · rw [fO, fv]
        by_cases hh : (fA 2 P && s) = true
        · rw [if_pos hh, List.cons_append, List.append_assoc, jd_op, iB (by omega) _ _ _ _ _ (Or.inr (Or.inr (Or.inr rfl))) (by simp), List.singleton_append, jd_cl]
          have hv := (fv_le m P 2 hk2).1 (by omega)
          have hv2 : fv m 2 P = 0 ∨ fv m 2 P = 1 := by omega
          have : jend (1, 0, 0, fv m 2 P) = fv m 2 P := by
            unfold jend
            rcases hv2 with e | e <;> rw [e] <;> decide
          rw [this]
          rfl
        · rw [if_neg hh]
          have hfa : fA 2 P = false := by
            rcases hs with hs | hs
            · rw [hs.2, Bool.and_true] at hh
              simpa using hh
            · rw [fA] at hs
              exact hs
          exact iA (by omega) false (Or.inr hfa) r d e x y st hr
      · rw [fO, fv, if_neg (by rw [Bool.and_false]; decide)]
        exact iB (by omega) r d e x st hr h41
  | tag c l ih =>
    intro k hk
    cases k with
    | succ k => exact absurd hk (by simp [fok])
    | zero =>
      have h9 : (1 ≤ c ∧ c ≤ 9) ∧ fok 3 l := hk
      obtain ⟨iA, iB, iC⟩ := ih 3 h9.2
      have main : ∀ s r d e x y st, jd m (fO 0 s (.tag c l) ++ r) (d, e, x, y) st 1 = jd m r (d, e, x, y * fv m 0 (.tag c l)) st 1 := by
        intro s r d e x y st
        rw [fO, fv]
        simp only [List.cons_append, List.append_assoc, List.nil_append]
        rw [jd_cnt h9.1.1 h9.1.2, iC rfl, Nat.zero_add]
        rfl
      refine ⟨fun _ s _ r d e x y st hr => main s r d e x y st, fun _ r d e x st hr _ => ?_, fun h => by omega⟩
      rw [main, Nat.one_mul]
  | append a b iha ihb =>
    intro k hk
    cases k with
    | zero => exact absurd hk (by simp [fok])
    | succ k =>
      obtain ⟨h1, h2, h3⟩ := hk
      obtain ⟨aA, aB, aC⟩ := iha k h2
      by_cases hb : fnil b = true
      · have hv : fv m (k + 1) (.append a b) = fv m k a := fv_a1 hb
        refine ⟨fun hk2 s hs r d e x y st hr => ?_, fun hk2 r d e x st hr h41 => ?_, fun hk3 s r d e g st => ?_⟩
        · rw [fO_a1 hb, hv]
          show jd m (fO k (decide (k + 1 = 1) && s) a ++ r) _ _ _ = _
          refine aA (by omega) _ ?_ r d e x y st hr
          have hk01 : k = 0 ∨ k = 1 := by omega
          rcases hk01 with rfl | rfl
          · rcases hs with hs | hs
            · exact Or.inl ⟨by omega, by rw [hs.2]; rfl⟩
            · rw [fA, if_pos rfl, if_pos hb] at hs
              exact Or.inr hs
          · rcases hs with hs | hs
            · omega
            · rw [fA, if_neg (by omega), if_pos rfl, if_pos hb] at hs
              exact Or.inr hs
        · rw [fO_a1 hb, hv, Bool.and_false]
          exact aB (by omega) r d e x st hr h41
        · have hk3' : k = 2 := by omega
          subst hk3'
          rw [fO_a1 hb, hv]
          show jd m (fO 2 false a ++ 41 :: r) _ _ _ = _
          rw [aB (by omega) _ _ _ _ _ (Or.inr (Or.inr (Or.inr rfl))) (by simp), jd_cl]
          unfold jend
          simp only [Nat.zero_max]
      · have hb' : fnil b = false := by simpa using hb
        have h3' : fok (k + 1) b := by
          rcases h3 with h3 | h3
          · rw [hb'] at h3; exact absurd h3 (by decide)
          · exact h3.2
        obtain ⟨bA, bB, bC⟩ := ihb (k + 1) h3'
        have hv : fv m (k + 1) (.append a b) = fcb (k + 1) (fv m k a) (fv m (k + 1) b) := fv_a2 hb'
        have and1 : k = 0 → ∀ s r d e x y st, hd r ≠ 111 → jd m (fO (k + 1) s (.append a b) ++ r) (d, e, x, y) st 1 = jd m r (d, e, x, y * fv m (k + 1) (.append a b)) st 1 := by
          intro hk0 s r d e x y st hr
          subst hk0
          rw [fO_a2 hb', hv, List.append_assoc, List.cons_append]
          show jd m (fO 0 true a ++ 38 :: (fO 1 true b ++ r)) _ _ _ = _
          rw [aA (by omega) true (Or.inl ⟨by omega, rfl⟩) _ _ _ _ _ _ (by simp [hd]), jd_sk (by omega) (by omega) (by omega) (by omega) (by omega), bA (by omega) true (Or.inl ⟨by omega, rfl⟩) _ _ _ _ _ _ hr, Nat.mul_assoc]
          rfl
        refine ⟨fun hk2 s hs r d e x y st hr => ?_, fun hk2 r d e x st hr h41 => ?_, fun hk3 s r d e g st => ?_⟩
        · have hk01 : k = 0 ∨ k = 1 := by omega
          rcases hk01 with rfl | rfl
          · exact and1 rfl s r d e x y st hr
          · rcases hs with hs | hs
            · omega
            · rw [fA, if_neg (by omega), if_pos rfl, if_neg hb] at hs
              exact absurd hs (by decide)
        · have hk01 : k = 0 ∨ k = 1 := by omega
          rcases hk01 with rfl | rfl
          · rw [and1 rfl false r d e x 1 st (stp_o hr), Nat.one_mul]
          · rw [fO_a2 hb', hv, List.append_assoc, List.cons_append]
            show jd m (fO 1 false a ++ 124 :: (fO 2 false b ++ r)) _ _ _ = _
            rw [aB (by omega) _ _ _ _ _ (Or.inr (Or.inl rfl)) (by simp [hd]), jd_or]
            show jd m (fO 2 false b ++ r) (d, e, max x (fv m 1 a), 1) st 1 = _
            rw [bB (by omega) r d e _ st hr h41]
            refine jd_ind hr h41 ?_
            show max (max x (fv m 1 a)) (fv m 2 b) = max x (fcb 2 (fv m 1 a) (fv m 2 b))
            rw [Nat.max_assoc]
            rfl
        · have hk3' : k = 2 := by omega
          subst hk3'
          rw [fO_a2 hb', hv, List.append_assoc, List.cons_append]
          show jd m (fO 2 false a ++ 44 :: (fO 3 false b ++ 41 :: r)) _ _ _ = _
          rw [aB (by omega) _ _ _ _ _ (Or.inr (Or.inr (Or.inl rfl))) (by simp [hd]), jd_co]
          show jd m (fO 3 false b ++ 41 :: r) (d, e + max 0 (fv m 2 a), 0, 1) (g :: st) 1 = _
          rw [bC rfl, Nat.zero_max, Nat.add_assoc]
          rfl
  | _ => intro k hk; cases k <;> exact absurd hk (by simp [fok])
theorem jd_top {m : Nat} {t : Fm} (hk : fok 2 t) : jd m (fO 2 false t) (1, 0, 0, 1) [] 1 = fv m 2 t := by
  have := ((jd_tree (m := m) t 2 hk).2.1 (by omega)) [] 1 0 0 [] (Or.inl rfl) (by simp [hd])
  rw [List.append_nil] at this
  rw [this, jd]
  have hv := (fv_le m t 2 hk).1 (by omega)
  have hv2 : fv m 2 t = 0 ∨ fv m 2 t = 1 := by omega
  unfold jend
  rcases hv2 with e | e <;> rw [e] <;> decide
