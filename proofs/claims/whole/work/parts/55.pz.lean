/-! PURE: expel, enroll, reshare, fulfils -/
theorem cnt_grp {P : Nat → Bool} {j : Nat} (hj : j < 8) (A : Nat → Bool) (hA : ∀ i, i < 8 → i ≠ j → A i = false) : cntP (fun p => A ((p - 1) / 3) && P p) 1 24 = cntP (fun p => A j && P p) (1 + 3 * j) 3 := by
  have e : 24 = 3 * j + (3 + (21 - 3 * j)) := by omega
  rw [e, cntP_add, cntP_add]
  rw [cntP_none (3 * j) 1 (fun i h1 h2 => by show (A _ && P _) = false; rw [hA _ (by omega) (by omega), Bool.false_and])]
  rw [cntP_none (21 - 3 * j) (1 + 3 * j + 3) (fun i h1 h2 => by show (A _ && P _) = false; rw [hA _ (by omega) (by omega), Bool.false_and])]
  rw [cntP_congr 3 (1 + 3 * j) (fun i h1 h2 => by show (A _ && P _) = (A _ && P _); rw [show (i - 1) / 3 = j by omega]) (Q := fun p => A j && P p)]
  omega
theorem RSl.upd {w vs es cm : Nat → Nat} {s c th ep p h v e : Nat} (hR : RSl w s c 1 th ep cm vs es) (hp : 1 ≤ p) (hp2 : p ≤ 24) (hv : v < 1019) (he : e < 10000) (hh : h = (decide (e ≠ 0)).toNat) : RSl (shW w s p h v e) s c 1 th ep cm (updN vs p v) (updN es p e) := by
  have hRS := hR.2.2.2.2.2.2 rfl
  obtain ⟨k1, k2, k3, k4, k5⟩ := hRS.2.1
  have hsh : RSh (shW w s p h v e) s (updN vs p v) (updN es p e) := by
    intro q a b
    by_cases hq : q = p
    · subst hq
      rw [shW_0, shW_1, shW_2, uN_s, uN_s]
      exact ⟨hh, rfl, rfl⟩
    · obtain ⟨g1, g2, g3⟩ := hRS.1 q a b
      rw [shW_n _ _ _ _ (by simp only [ix, shx]; omega), shW_n _ _ _ _ (by simp only [ix, shx]; omega), shW_n _ _ _ _ (by simp only [ix, shx]; omega), uN_n _ _ hq, uN_n _ _ hq]
      exact ⟨g1, g2, g3⟩
  have hok : okS th ep cm (updN vs p v) (updN es p e) := by
    refine ⟨k1, k2, k3, fun q hq => ?_, fun q hq => ?_⟩
    · by_cases h9 : q = p
      · rw [h9, uN_s]; exact hv
      · rw [uN_n _ _ h9]; exact k4 q hq
    · by_cases h9 : q = p
      · rw [h9, uN_s]; exact he
      · rw [uN_n _ _ h9]; exact k5 q hq
  refine ⟨Nat.le_refl 1, ?_, hsh, hok, hR.2.2.2.2.1, fun h => by omega, fun _ => ⟨hsh, hok, hRS.2.2.1, hRS.2.2.2.1, ?_, ?_, fun j hj => ?_⟩⟩
  · rw [shW_n _ _ _ _ (by simp only [ix, shx]; omega)]; exact hR.2.1
  · rw [shW_n _ _ _ _ (by simp only [ix, shx]; omega)]; exact hRS.2.2.2.2.1
  · rw [shW_n _ _ _ _ (by simp only [ix, shx]; omega)]; exact hRS.2.2.2.2.2.1
  · rw [shW_n _ _ _ _ (by simp only [ix, shx]; omega)]; exact hRS.2.2.2.2.2.2 j hj
/-- a slot's cells but its shares stay -/
def FrS (w w' : Nat → Nat) (s : Nat) : Prop := ∀ i, (i < ix s 52 ∨ ix s 123 < i) → w' i = w i
theorem FrS.upd {w w' : Nat → Nat} {s p h v e : Nat} (hF : FrS w w' s) (hp : 1 ≤ p) (hp2 : p ≤ 24) : FrS w (shW w' s p h v e) s := by
  intro i hi
  rw [shW_n _ _ _ _ (by simp only [ix, shx] at *; omega)]
  exact hF i hi
theorem z_expel {ev vs es w cm : Nat → Nat} {s c m le ec th ep acc : Nat} {t : Int32} (hs : s < 4) (hm : m < 8) (hE : REv w le ec ev) (hR : RSl w s c 1 th ep cm vs es) : ∀ k n i cnt (vs' es' w' : Nat → Nat), i + k = 3 → k < n → RSl w' s c 1 th ep cm vs' es' → FrS w w' s → (∀ q, 3 * m + 1 + i ≤ q → es' q = es q) →
    ∃ vs2 es2 w2, F_X10_expel_L26 (nI s) (nI m) n (nI le) (nI ec) (L ev) (L vs') (L es') (nI acc) (nI i) = some (0, nI acc, nI ((le + 1) % 20), nI (min (ec + 1) 20), L (evN le (600 + 10 * s + m) ev), L vs2, L es2) ∧ F_X11_expel_L44 (nI s) (nI m) n t (L w') (nI cnt) (nI (3 * m + 1 + i)) = some (nI (cnt + cntP (fun p => decide (es p ≠ 0)) (3 * m + 1 + i) k), nI 0, L w2) ∧ RSl w2 s c 1 th ep cm vs2 es2 ∧ REv w2 ((le + 1) % 20) (min (ec + 1) 20) (evN le (600 + 10 * s + m) ev) ∧ ∀ i, (i < 17 ∨ 37 < i) → (i < ix s 52 ∨ ix s 123 < i) → w2 i = w i := by
  intro k
  induction k with
  | zero =>
    intro n i cnt vs' es' w' hi hn hR' hF he
    obtain ⟨n, rfl⟩ := z_fuel hn
    have h3 : i = 3 := by omega
    subst h3
    have hE' : REv w' le ec ev := hE.of (fun i a b => hF i (by simp only [ix]; omega))
    obtain ⟨w2, k1, k2, k3⟩ := z_happens (code := 600 + 10 * s + m) hE'
    have hno := z_note_ob (code := 600 + 10 * s + m) hE
    have e7 : nI 600 + nI 10 * nI s + nI m = nI (600 + 10 * s + m) := by rw [pk_mul, nI_add, nI_add]
    rw [← e7] at k1 hno
    refine ⟨vs', es', w2, ?_, ?_, ?_, k2, fun i a b => ?_⟩
    · rw [F_X10_expel_L26]
      refine (if_pos (show nI 3 ≤ nI 3 by decide)).trans ?_
      exact ob hno rfl
    · have h4 : nI (3 * m + 3) < nI (3 * m + 1 + 3) := nI_lt (by omega) (by omega)
      have h5 : nI 3 * nI m + nI 3 = nI (3 * m + 3) := by rw [pk_mul, nI_add]
      rw [F_X11_expel_L44]
      refine (if_pos (show nI 3 * nI m + nI 3 < nI (3 * m + 1 + 3) by rw [h5]; exact h4)).trans ?_
      exact ob k1 rfl
    · exact hR'.of (Nat.le_refl _) (fun i a b => k3 i (by simp only [ix] at *; omega)) (fun i a b => k3 i (by simp only [ix] at *; omega))
    · rw [k3 i a, hF i b]
  | succ k ih =>
    intro n i cnt vs' es' w' hi hn hR' hF he
    obtain ⟨n, rfl⟩ := z_fuel (show 0 < n by omega)
    have hp1 : 1 ≤ 3 * m + 1 + i := by omega
    have hp2 : 3 * m + 1 + i ≤ 24 := by omega
    have hR2 := hR'.upd (h := 0) (v := 0) (e := 0) hp1 hp2 (by omega) (by omega) (by simp)
    have hhs := hR'.2.2.1.has hs hp1 hp2
    rw [he _ (Nat.le_refl _)] at hhs
    obtain ⟨vs2, es2, w2, i1, i2, i3, i4, i5⟩ := ih n (i + 1) (cnt + (decide (es (3 * m + 1 + i) ≠ 0)).toNat) _ _ _ (by omega) (by omega) hR2 (hF.upd hp1 hp2) (fun q hq => by rw [uN_n _ _ (by omega)]; exact he q (by omega))
    refine ⟨vs2, es2, w2, ?_, ?_, i3, i4, i5⟩
    · have h3 : ¬ nI 3 ≤ nI i := nI_ge (by omega) (by omega)
      rw [F_X10_expel_L26]
      refine (if_neg h3).trans ?_
      refine ob (z_firstPlace m) ?_
      have e8 : nI (3 * m + 1) + nI i = nI (3 * m + 1 + i) := nI_add _ _
      refine ob (show F_X7_drop (L vs') (L es') (nI (3 * m + 1) + nI i) = _ by rw [e8]; exact z_drop (by omega)) ?_
      rw [show nI i + 1 = nI (i + 1) from nI_1 i]
      exact i1
    · have h4 : ¬ nI 3 * nI m + nI 3 < nI (3 * m + 1 + i) := by
        rw [pk_mul, nI_add]
        exact nI_nlt (by omega) (by omega)
      rw [F_X11_expel_L44]
      refine (if_neg h4).trans ?_
      refine ob hhs ?_
      unfold F_X11_expel_L70
      rw [cntP_s, ← Nat.add_assoc, show 3 * m + 1 + i + 1 = 3 * m + 1 + (i + 1) by omega, ← i2]
      by_cases h0 : es (3 * m + 1 + i) = 0
      · rw [decide_eq_false (by simp [h0])]
        refine (if_pos (show nI false.toNat = nI 0 from rfl)).trans ?_
        refine ob (z_removes hs hp1 hp2) ?_
        show F_X11_expel_L44 (nI s) (nI m) n t _ (nI cnt + nI 0) (nI (3 * m + 1 + i) + nI 1) = _
        rw [nI_add, nI_add]
        rfl
      · rw [decide_eq_true h0]
        refine (if_neg (show ¬ nI true.toNat = nI 0 by decide)).trans ?_
        refine ob (z_removes hs hp1 hp2) ?_
        show F_X11_expel_L44 (nI s) (nI m) n t _ (nI cnt + nI 1) (nI (3 * m + 1 + i) + nI 1) = _
        rw [nI_add, nI_add]
        rfl
theorem m_expel {w ev cm vs es : Nat → Nat} {s c le ec fi th ep : Nat} {t y : Int32} (hs : s < 4) (hE : REv w le ec ev) (hR : RSl w s c fi th ep cm vs es) (hS1 : F_X10_checkSlot (nI s) = some 0) (hS2 : F_X11_isSlot (nI s) = some (nI 1)) :
    ∃ e r b k le' ec' ev' vs' es' w', F_X10_expel (nI le) (nI ec) (L ev) (nI fi) (L vs) (L es) (nI s) y = some (e, r, nI le', nI ec', L ev', L vs', L es') ∧ F_X11_expel t (L w) (nI s) y = some (b, k, L w') ∧ EK [(0, 0), (1, 1), (3, 2)] e k ∧ (e = 0 → r = b) ∧ REv w' le' ec' ev' ∧ RSl w' s (c + 1) fi th ep cm vs' es' ∧ ∀ i, (i < 17 ∨ 37 < i) → (i < ix s 52 ∨ ix s 123 < i) → w' i = w i := by
  have hf := hR.1
  have hsi := z_secretIn hs hf
  have hsame := hR.of (c' := c + 1) (by omega) (fun _ _ _ => rfl) (fun _ _ _ => rfl)
  have n10 : ¬ nI 1 = nI 0 := by decide
  unfold F_X10_expel F_X11_expel F_X11_expel_L14
  rcases a_member y with ⟨m, hm, rfl, h1, h2⟩ | ⟨h1, h2⟩
  · have hcase : fi = 0 ∨ fi = 1 := by omega
    rcases hcase with rfl | rfl
    · refine ⟨3, 0, 0, nI 2, le, ec, ev, vs, es, w, ?_, ?_, EK.of (by simp), fun h => by omega, hE, hsame, fun _ _ _ => rfl⟩
      · refine ob hS1 ?_
        refine ob h1 ?_
        exact ob hsi rfl
      · refine ob hS2 ?_
        refine (if_neg n10).trans ?_
        refine ob h2 ?_
        refine (if_neg n10).trans ?_
        refine ob (hR.has hs) ?_
        exact if_pos rfl
    · have ok := hR.2.2.2.1
      have hsc := z_shareCount (es := es) (m := 2 ^ m) (q_m256 m hm) ok.2.2.2.2
      have hg := cnt_grp (P := fun p => decide (es p ≠ 0)) hm (fun j => (2 ^ m).testBit j) (fun i hi hne => by show (2 ^ m).testBit i = false; rw [q_2m m hm i hi]; simp [hne])
      rw [hg] at hsc
      simp only [q_2m m hm m hm, decide_true, Bool.true_and] at hsc
      obtain ⟨vs2, es2, w2, i1, i2, i3, i4, i5⟩ := z_expel (t := t) (acc := cntP (fun p => decide (es p ≠ 0)) (1 + 3 * m) 3) hs hm hE hR 3 1000 0 0 vs es w (by omega) (by omega) hR (fun _ _ => rfl) (fun _ _ => rfl)
      have e9 : 1 + 3 * m = 3 * m + 1 + 0 := by omega
      rw [e9] at hsc i1
      rw [Nat.zero_add] at i2
      have e8 : nI 1 <<< (nI m &&& nI 31) = nI (2 ^ m) := q_shl1 m hm
      refine ⟨0, nI (cntP (fun p => decide (es p ≠ 0)) (3 * m + 1 + 0) 3), nI (cntP (fun p => decide (es p ≠ 0)) (3 * m + 1 + 0) 3), nI 0, (le + 1) % 20, min (ec + 1) 20, evN le (600 + 10 * s + m) ev, vs2, es2, w2, ?_, ?_, EK.of (by simp), fun _ => rfl, i4, i3.of (by omega) (fun _ _ _ => rfl) (fun _ _ _ => rfl), i5⟩
      · refine ob hS1 ?_
        refine ob h1 ?_
        refine ob hsi ?_
        refine ob (show F_X7_shareCount (L es) (nI 1 <<< (nI m &&& nI 31)) = _ by rw [e8]; exact hsc) ?_
        exact i1
      · refine ob hS2 ?_
        refine (if_neg n10).trans ?_
        refine ob h2 ?_
        refine (if_neg n10).trans ?_
        refine ob (hR.has hs) ?_
        refine (if_neg n10).trans ?_
        have e7 : nI 3 * nI m + nI 1 = nI (3 * m + 1 + 0) := by rw [pk_mul, nI_add]
        show F_X11_expel_L44 (nI s) (nI m) 1000 t (L w) (nI 0) (nI 3 * nI m + nI 1) = _
        rw [e7]
        exact i2
  · refine ⟨1, 0, 0, nI 1, le, ec, ev, vs, es, w, ?_, ?_, EK.of (by simp), fun h => by omega, hE, hsame, fun _ _ _ => rfl⟩
    · refine ob hS1 ?_
      exact ob h1 rfl
    · refine ob hS2 ?_
      refine (if_neg n10).trans ?_
      refine ob h2 ?_
      exact if_pos rfl
