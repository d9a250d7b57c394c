/-! PURE: an interpolated value at a node is the node's own (Fermat, by the kernel) -/
theorem fermat0 : ∀ d, d < 1019 → d = 0 ∨ d ^ 1018 % 1019 = 1 := by decide +kernel
theorem fermat {d : Nat} (h : d < 1019) (h0 : d ≠ 0) : d ^ 1018 % 1019 = 1 := (fermat0 d h).resolve_left h0
theorem nz_mul {a b : Nat} (ha : a < 1019) (hb : b < 1019) (a0 : a ≠ 0) (b0 : b ≠ 0) : a * b % 1019 ≠ 0 := by
  intro h
  have h1 : (a * b) ^ 1018 % 1019 = 1 := by
    rw [Nat.mul_pow, Nat.mul_mod, fermat ha a0, fermat hb b0]
  rw [Nat.pow_mod, h, Nat.zero_pow (by omega)] at h1
  exact absurd h1 (by decide)
theorem S_AB_zero (nd : Nat → Nat) (x i : Nat) : ∀ k j b, (S_AB nd x i k j 0 b).1 = 0 := by
  intro k
  induction k with
  | zero => intro j b; rfl
  | succ k ih =>
    intro j b
    unfold S_AB
    split
    · exact ih _ _
    · rw [Nat.zero_mul, Nat.zero_mod]
      exact ih _ _
theorem S_AB_other {nd : Nat → Nat} {i j : Nat} (hij : i ≠ j) : ∀ k l a b, l ≤ i → i < l + k → (S_AB nd (nd i) j k l a b).1 = 0 := by
  intro k
  induction k with
  | zero => intro l a b h1 h2; omega
  | succ k ih =>
    intro l a b h1 h2
    unfold S_AB
    by_cases h3 : l = i
    · subst h3
      rw [if_neg hij]
      have : dm (nd l) (nd l) = 0 := by
        unfold dm
        rw [Nat.add_sub_cancel_left]
      rw [this, Nat.mul_zero, Nat.zero_mod]
      exact S_AB_zero _ _ _ _ _ _
    · split
      · exact ih _ _ _ (by omega) (by omega)
      · exact ih _ _ _ (by omega) (by omega)
theorem S_AB_own {nd : Nat → Nat} {i th v : Nat} (hn : ∀ j, j < th → nd j ≤ 24) (hinj : ∀ j, j < th → j ≠ i → nd j ≠ nd i) (hi : i < th) : ∀ k l a b, l + k = th → a = v * b % 1019 → b < 1019 → b ≠ 0 → ∃ b', (S_AB nd (nd i) i k l a b).2 = b' ∧ (S_AB nd (nd i) i k l a b).1 = v * b' % 1019 ∧ b' < 1019 ∧ b' ≠ 0 := by
  intro k
  induction k with
  | zero => intro l a b _ h1 h2 h3; exact ⟨b, rfl, h1, h2, h3⟩
  | succ k ih =>
    intro l a b hl h1 h2 h3
    unfold S_AB
    by_cases h4 : l = i
    · rw [if_pos h4]
      exact ih _ _ _ (by omega) h1 h2 h3
    · rw [if_neg h4]
      have a1 := hn l (by omega)
      have a2 := hn i hi
      have a3 := hinj l (by omega) h4
      have a4 : dm (nd i) (nd l) ≠ 0 := by unfold dm; omega
      refine ih _ _ _ (by omega) ?_ (Nat.mod_lt _ (by omega)) (nz_mul h2 (dm_lt _ _) h3 a4)
      rw [h1, Nat.mul_mod, Nat.mod_mod, ← Nat.mul_mod, Nat.mul_mod v, Nat.mod_mod, ← Nat.mul_mod, Nat.mul_assoc]
theorem S_trm_own {nd vs : Nat → Nat} {i th : Nat} (hn : ∀ j, j < th → nd j ≤ 24) (hinj : ∀ j, j < th → j ≠ i → nd j ≠ nd i) (hi : i < th) (hv : vs (nd i) < 1019) : S_trm nd vs th (nd i) i % 1019 = vs (nd i) := by
  obtain ⟨b, h1, h2, h3, h4⟩ := S_AB_own (v := vs (nd i)) hn hinj hi th 0 (vs (nd i)) 1 (by omega) (by rw [Nat.mul_one, Nat.mod_eq_of_lt hv]) (by omega) (by omega)
  unfold S_trm
  rw [h1, h2]
  have h5 := fermat h3 h4
  have h6 : vs (nd i) * b % 1019 * (b ^ 1017 % 1019) % 1019 = vs (nd i) * b ^ 1018 % 1019 := by
    rw [← Nat.mul_mod, Nat.mul_assoc, show b * b ^ 1017 = b ^ 1018 from (Nat.pow_succ' ..).symm]
  rw [h6, Nat.mul_mod, h5, Nat.mul_one, Nat.mod_mod, Nat.mod_eq_of_lt hv]
theorem S_trm_other {nd vs : Nat → Nat} {i j th : Nat} (hi : i < th) (hij : i ≠ j) : S_trm nd vs th (nd i) j = 0 := by
  unfold S_trm
  rw [S_AB_other hij th 0 _ _ (by omega) (by omega), Nat.zero_mul]
theorem S_val_node {nd vs : Nat → Nat} {i th : Nat} (hn : ∀ j, j < th → nd j ≤ 24) (hinj : ∀ j, j < th → j ≠ i → nd j ≠ nd i) (hi : i < th) (hv : vs (nd i) < 1019) : S_val nd vs th (nd i) th 0 0 = vs (nd i) := by
  have key : ∀ k j sum, j + k = th → sum < 1019 → S_val nd vs th (nd i) k j sum = if j ≤ i then (sum + vs (nd i)) % 1019 else sum := by
    intro k
    induction k with
    | zero =>
      intro j sum hj hs
      rw [if_neg (by omega)]
      rfl
    | succ k ih =>
      intro j sum hj hs
      show S_val nd vs th (nd i) k (j + 1) ((sum + S_trm nd vs th (nd i) j) % 1019) = _
      rw [ih (j + 1) _ (by omega) (Nat.mod_lt _ (by omega))]
      by_cases h1 : j = i
      · subst h1
        rw [if_neg (by omega), if_pos (Nat.le_refl j), ← Nat.add_mod_mod, S_trm_own hn hinj hi hv]
      · rw [S_trm_other hi (fun h => h1 h.symm)]
        simp only [Nat.add_zero, Nat.mod_eq_of_lt hs]
        by_cases h2 : j ≤ i
        · rw [if_pos (by omega), if_pos h2]
        · rw [if_neg (by omega), if_neg h2]
  rw [key th 0 0 (by omega) (by omega), if_pos (by omega), Nat.zero_add, Nat.mod_eq_of_lt hv]
theorem S_nodes_inc (P : Nat → Bool) : ∀ k s i j, i < j → j < (S_nodes P s k).length → (S_nodes P s k).getD i 0 < (S_nodes P s k).getD j 0 := by
  intro k
  induction k with
  | zero => intro s i j _ h; exact absurd h (Nat.not_lt_zero _)
  | succ k ih =>
    intro s i j hij hj
    have hin := fun j h => S_nodes_in P k (s + 1) j h
    rw [S_nodes_s] at hj ⊢
    by_cases hP : P s = true
    · rw [if_pos hP] at hj ⊢
      cases j with
      | zero => omega
      | succ j =>
        have hj2 : j < (S_nodes P (s + 1) k).length := by simpa using hj
        cases i with
        | zero =>
          rw [List.getD_cons_zero, List.getD_cons_succ]
          have := hin j hj2
          omega
        | succ i =>
          rw [List.getD_cons_succ, List.getD_cons_succ]
          exact ih (s + 1) i j (by omega) hj2
    · rw [if_neg hP] at hj ⊢
      exact ih (s + 1) i j hij hj
theorem m_agree {w cm vs es nd ch : Nat → Nat} {s c fi th ep : Nat} {t x y : Int32} (hs : s < 4) (hR : RSl w s c fi th ep cm vs es) (hS1 : F_X10_checkSlot (nI s) = some 0) (hS2 : F_X11_isSlot (nI s) = some (nI 1)) :
    ∃ e r b k ch' nd' nm, F_X10_agree (L ch) (nI fi) (nI th) (nI ep) (L cm) (L vs) (L es) (nI s) y = some (e, r, L ch') ∧ F_X11_agree t (L w) (L nd) x (nI s) y = some (b, k, L nd', nm) ∧ EK [(0, 0), (1, 1), (2, 2), (3, 3)] e k ∧ (e = 0 → r = b ∧ ∃ b' : Bool, r = nI b'.toNat) := by
  have hf := hR.1
  have hsi := z_secretIn hs hf
  unfold F_X10_agree F_X11_agree
  rcases a_set y with ⟨m, hm, rfl, h1, h2⟩ | ⟨h1, h2⟩
  · have hl := hR.lacksSet hs hS2 h2
    have hcase : fi = 0 ∨ fi = 1 := by omega
    rcases hcase with rfl | rfl
    · refine ⟨3, 0, 0, nI 3, ch, nd, x, ?_, ?_, EK.of (by simp), fun h => by omega⟩
      · refine ob hS1 ?_
        refine ob h1 ?_
        exact ob hsi rfl
      · refine ob hl ?_
        exact if_neg (show ¬ nI 3 = nI 0 by decide)
    · have hRS := hR.2.2.2.2.2.2 rfl
      have ok := hRS.2.1
      have hth := ok.1
      obtain ⟨nd', g1, g2⟩ := z_tellNodes hs hRS hm false nd x
      obtain ⟨ch', c1, c2⟩ := z_choose ok hm false ch
      have hPe : S_nodes (fun p => m.testBit ((p - 1) / 3) && decide (es p ≠ 0)) 1 24 = S_nodes (chP th ep cm vs es m false) 1 24 := S_nodes_congr 24 1 (fun i _ _ => by simp [chP])
      have hin0 := S_nodes_in (chP th ep cm vs es m false) 24 1
      have hinc := S_nodes_inc (chP th ep cm vs es m false) 24 1
      have hag := fun hn => z_agX_L (vs := vs) (es := es) (ch := ch') (m := m) hth hm hn ok.2.2.2.1 ok.2.2.2.2 24 1000 1 (by omega) (by omega) (by omega)
      rw [hPe] at hag
      have hlen : (S_nodes (chP th ep cm vs es m false) 1 24).length ≤ 24 := by rw [S_nodes_len]; exact cntP_le _ 24 1
      generalize (S_nodes (chP th ep cm vs es m false) 1 24) = NL at g1 g2 c1 c2 hin0 hinc hag hlen
      have h11 := fun hn i (b : Bool) (hi : i + (NL.length - i) = NL.length) => z_ag11_L (thr := nI 0) (nd := nd') hs hRS.1 (hRS.k hs) hth hn ok.2.2.2.1 NL (fun i hi => ⟨g2 i hi, by have := hin0 i hi; omega, by have := hin0 i hi; omega⟩) hlen (NL.length - i) 1000 i b hi (by omega)
      by_cases hlt : th ≤ NL.length
      · have hmin : min th NL.length = th := by omega
        rw [hmin] at c1
        have hin : ∀ i, i < th → ch' i = nd' i ∧ 1 ≤ nd' i ∧ nd' i ≤ 24 := by
          intro i hi
          have a1 := hin0 i (by omega)
          rw [c2 i hi (by omega), g2 i (by omega)]
          exact ⟨rfl, by omega, by omega⟩
        have hch : ∀ j, j < th → ch' j ≤ 24 := fun j hj => by have := hin j hj; omega
        have a1 := hag hch
        have a2 := h11 (fun j hj => (hin j hj).2) th true (by omega)
        have hsplit : (NL.all fun q => decide (S_val ch' vs th q th 0 0 = vs q)) = (true && (NL.drop th).all fun q => decide (S_val nd' vs th q th 0 0 = vs q)) := by
          rw [Bool.true_and]
          conv => lhs; rw [← List.take_append_drop th NL, List.all_append]
          have ht : ((NL.take th).all fun q => decide (S_val ch' vs th q th 0 0 = vs q)) = true := by
            rw [List.all_eq_true]
            intro q hq
            obtain ⟨i, hi, rfl⟩ := List.mem_iff_getElem.mp hq
            have hi2 : i < th := by simp at hi; omega
            have hi3 : i < NL.length := by omega
            rw [List.getElem_take]
            have e1 : NL[i] = ch' i := by
              rw [c2 i hi2 hi3, List.getD_eq_getElem?_getD, List.getElem?_eq_getElem hi3]
              rfl
            rw [e1, decide_eq_true_eq]
            refine S_val_node hch (fun j hj hne => ?_) hi2 (ok.2.2.2.1 _ (hch i hi2))
            rw [c2 j hj (by omega), c2 i hi2 hi3]
            rcases Nat.lt_or_ge j i with h | h
            · have := hinc j i h hi3
              omega
            · have := hinc i j (by omega) (by omega)
              omega
          rw [ht, Bool.true_and]
          congr 1
          funext q
          rw [S_val_congr (nd := ch') (nd' := nd') q (fun j hj => (hin j hj).1) (fun j _ => rfl) th 0 0 (by omega)]
        rw [← hsplit] at a2
        have hle : nI th ≤ nI NL.length := nI_le hlt (by omega)
        refine ⟨0, nI (NL.all fun q => decide (S_val ch' vs th q th 0 0 = vs q)).toNat, nI (NL.all fun q => decide (S_val ch' vs th q th 0 0 = vs q)).toNat, nI 0, ch', nd', nI NL.length, ?_, ?_, EK.of (by simp), fun _ => ⟨rfl, _, rfl⟩⟩
        · refine ob hS1 ?_
          refine ob h1 ?_
          refine ob hsi ?_
          refine ob c1 ?_
          refine (if_pos (nI_le (Nat.le_refl th) (by omega))).trans ?_
          exact a1
        · refine ob hl ?_
          refine (if_pos rfl).trans ?_
          refine ob g1 ?_
          refine ob (hRS.k hs) ?_
          exact a2
      · have hmin : min th NL.length = NL.length := by omega
        rw [hmin] at c1
        have hnle : ¬ nI th ≤ nI NL.length := nI_ge (by omega) (by omega)
        refine ⟨0, nI 1, nI 1, nI 0, ch', nd', nI NL.length, ?_, ?_, EK.of (by simp), fun _ => ⟨rfl, true, rfl⟩⟩
        · refine ob hS1 ?_
          refine ob h1 ?_
          refine ob hsi ?_
          refine ob c1 ?_
          exact if_neg hnle
        · refine ob hl ?_
          refine (if_pos rfl).trans ?_
          refine ob g1 ?_
          refine ob (hRS.k hs) ?_
          have hnle2 : nI NL.length ≤ nI th := nI_le (by omega) (by omega)
          obtain ⟨n, hn⟩ : ∃ n, (1000 : Nat) = n + 1 := ⟨999, rfl⟩
          rw [hn, F_X11_agree_L36]
          exact if_pos hnle2
  · refine ⟨2, 0, 0, nI 2, ch, nd, x, ?_, ?_, EK.of (by simp), fun h => by omega⟩
    · refine ob hS1 ?_
      exact ob h1 rfl
    · refine ob (lacksSet_no hS2 h2) ?_
      exact if_neg (show ¬ nI 2 = nI 0 by decide)
