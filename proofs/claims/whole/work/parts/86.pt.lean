/-! PURE: the reference's policy: parts, nesting, named -/
theorem dp_le : ∀ (t : Fm) (k : Nat), fok k t → dp t ≤ (fpr k t).length := by
  intro t
  induction t with
  | nest i f ih => intro k h; exact Nat.zero_le _
  | group P b ih =>
    intro k h
    cases k with
    | succ k => exact absurd h (by simp [fok])
    | zero =>
      have := ih 2 h
      rw [dp, fpr, List.length_cons]
      rw [List.length_append]
      omega
  | tag c l ih =>
    intro k h
    cases k with
    | succ k => exact absurd h (by simp [fok])
    | zero =>
      have h9 : (1 ≤ c ∧ c ≤ 9) ∧ fok 3 l := h
      have := ih 3 h9.2
      rw [dp, fpr]
      simp only [List.length_cons, List.length_append]
      omega
  | append a b iha ihb =>
    intro k hk
    cases k with
    | zero => exact absurd hk (by simp [fok])
    | succ k =>
      obtain ⟨h1, h2, h3⟩ := hk
      have i1 := iha k h2
      rcases h3 with h3 | ⟨h3, h4⟩
      · rw [dp, if_pos h3, fpr_a1 h3, Nat.max_zero]
        exact i1
      · have i2 := ihb (k + 1) h4
        rw [dp, if_neg (by simp [h3]), fpr_a2 h3, List.length_append, List.length_cons]
        omega
  | _ => intro k hk; exact Nat.zero_le _
def Pl (w : Nat → Nat) (s M : Nat) (wh th : Int32) (a p mo m : Nat) (X : Option (Int32 × Int32)) : Prop := ∀ n, M - a < n → F_X11_policy_L62 (L w) (nI s) wh n th (nI p) (nI mo) (nI m) (nI a) = X
theorem Pl_sk {w : Nat → Nat} {s a M p mo m : Nat} {wh th : Int32} {X : Option (Int32 × Int32)} (hs : s < 4) (hO : TxO w s M) (ha : a < M) (h1 : ¬ (48 ≤ Tx w s a ∧ Tx w s a ≤ 57)) (k : Pl w s M wh th (a + 1) p mo m X) : Pl w s M wh th a p mo m X := by
  obtain ⟨o1, o2, o3⟩ := hO
  intro n hn
  obtain ⟨n, rfl⟩ := z_fuel (show 0 < n by omega)
  have k1 := k n (by omega)
  have hM := z_of (w := w) (s := s) (k := 11) hs (by omega)
  rw [o2] at hM
  rw [F_X11_policy_L62]
  unfold F_X11_policy_L168
  rw [show nI a + 1 = nI (a + 1) from nI_1 a]
  refine ob hM ((if_neg (nI_ge ha (by omega))).trans (ob (z_digAt hs (by omega) rfl (o3 a (by omega))) ?_))
  rw [decide_eq_false h1]
  exact (if_pos rfl).trans k1
theorem Pl_dg {w : Nat → Nat} {s a M p mo m g c : Nat} {wh th : Int32} {X : Option (Int32 × Int32)} (hs : s < 4) (hO : TxO w s M) (ha : a < M) (hc : Tx w s a = 48 + c) (hc9 : c ≤ 9) (hc7 : ¬ (a + 1 < M ∧ Tx w s (a + 1) = 111) → c ≤ 7) (hg : g ≤ 200) (hmo : mo ≤ 300) (hC : Ca w s a 0 0 (some (nI g))) (k : Pl w s M wh th (a + 1) (p + 1) (max mo (g + (decide (a + 1 < M ∧ Tx w s (a + 1) = 111)).toNat)) (if a + 1 < M ∧ Tx w s (a + 1) = 111 then m else m ||| 2 ^ c) X) : Pl w s M wh th a p mo m X := by
  obtain ⟨o1, o2, o3⟩ := hO
  intro n hn
  obtain ⟨n, rfl⟩ := z_fuel (show 0 < n by omega)
  have k1 := k n (by omega)
  have hM := z_of (w := w) (s := s) (k := 11) hs (by omega)
  rw [o2] at hM
  have hCA : F_X11_countsAround (L w) (nI s) (nI a) = some (nI g) := by
    unfold F_X11_countsAround
    exact hC 1000 (by omega)
  have hT : F_X11_of (L w) (nI s) ((12 : Int32) + nI a) = some (nI (48 + c)) := by
    rw [show (12 : Int32) + nI a = nI (12 + a) from nI_add 12 a, z_ofT hs (by omega), hc]
  have hdd : 48 ≤ Tx w s a ∧ Tx w s a ≤ 57 := by omega
  rw [F_X11_policy_L62]
  unfold F_X11_policy_L168
  refine ob hM ((if_neg (nI_ge ha (by omega))).trans (ob (z_digAt hs (by omega) rfl (o3 a (by omega))) ?_))
  rw [decide_eq_true hdd]
  refine (if_neg (by decide)).trans (ob hM (ob (z_isCnt11 hs (by omega) o1 (fun h => o3 _ h)) (ob hCA ?_)))
  unfold F_X11_policy_L117 F_X11_policy_L137 F_X11_policy_L165 F_X11_policy_L168
  rw [show nI a + 1 = nI (a + 1) from nI_1 a, show nI p + 1 = nI (p + 1) from nI_1 p]
  by_cases hq : a + 1 < M ∧ Tx w s (a + 1) = 111
  · rw [decide_eq_true hq, if_pos hq] at k1
    rw [decide_eq_true hq]
    refine (if_neg (by decide)).trans ?_
    rw [show nI g + 1 = nI (g + 1) from nI_1 g, show nI m ||| 0 = nI m from by rw [show (0 : Int32) = nI 0 from rfl, q_or, Nat.or_zero]]
    by_cases hx : g + 1 ≤ mo
    · rw [show max mo (g + true.toNat) = mo from by show max mo (g + 1) = mo; omega] at k1
      exact (if_pos (nI_le hx (by omega))).trans ((if_neg (by decide)).trans k1)
    · rw [show max mo (g + true.toNat) = g + 1 from by show max mo (g + 1) = g + 1; omega] at k1
      exact (if_neg (nI_ge (by omega) (by omega))).trans ((if_neg (by decide)).trans k1)
  · rw [decide_eq_false hq, if_neg hq] at k1
    rw [decide_eq_false hq]
    refine (if_pos rfl).trans ?_
    have e1 : (nI m ||| ((1 : Int32) <<< ((nI (48 + c) - 48) &&& 31))) = nI (m ||| 2 ^ c) := by
      rw [show nI (48 + c) - 48 = nI c from (pk_sub (a := 48 + c) (b := 48) (by omega)).trans (by rw [Nat.add_sub_cancel_left])]
      show nI m ||| (nI 1 <<< (nI c &&& nI 31)) = _
      rw [q_shl1 c (by have := hc7 hq; omega), q_or]
    rw [show nI g + 0 = nI g from nI_add g 0]
    by_cases hx : g ≤ mo
    · rw [show max mo (g + false.toNat) = mo from by show max mo (g + 0) = mo; omega] at k1
      refine (if_pos (nI_le hx (by omega))).trans ((if_pos rfl).trans (ob hT ?_))
      rw [e1]
      exact k1
    · rw [show max mo (g + false.toNat) = g from by show max mo (g + 0) = g; omega] at k1
      refine (if_neg (nI_ge (by omega) (by omega))).trans ((if_pos rfl).trans (ob hT ?_))
      rw [e1]
      exact k1
theorem Pl_tree {w : Nat → Nat} {s M : Nat} {wh th : Int32} {X : Option (Int32 × Int32)} (hs : s < 4) (hO : TxO w s M) : ∀ (t : Fm) (k : Nat), fok k t → ∀ a g p mo m, Sg (Tx w s) a (fpr k t) → a + (fpr k t).length ≤ M → (a + (fpr k t).length < M → Tx w s (a + (fpr k t).length) ≠ 111) → g ≤ a → mo ≤ 100 → (∀ p1, a ≤ p1 → p1 < a + (fpr k t).length → ∀ Y, Ca w s p1 a g Y → Ca w s p1 0 0 Y) → Pl w s M wh th (a + (fpr k t).length) (p + np t) (max mo (g + dp t)) (m ||| nm t) X → Pl w s M wh th a p mo m X := by
  intro t
  induction t with
  | nest i f ih =>
    intro k h a g p mo m hS hl hn hg hmo hC hX
    cases k with
    | succ k => exact absurd h (by simp [fok])
    | zero =>
      have h1 : i.toNat ≤ 7 := h
      have hM40 := hO.1
      unfold fpr at hS hl hn hX hC
      simp only [List.length_cons, List.length_nil] at hl hn hX hC
      rw [Sg_cons] at hS
      have hq : ¬ (a + 1 < M ∧ Tx w s (a + 1) = 111) := fun e => hn e.1 e.2
      refine Pl_dg hs hO (by omega) hS.1 (by omega) (fun _ => h1) (g := g) (by omega) (by omega) (hC a (Nat.le_refl a) (by omega) _ (Ca_end (by omega))) ?_
      rw [decide_eq_false hq, if_neg hq]
      exact hX
  | group P b ih =>
    intro k h a g p mo m hS hl hn hg hmo hC hX
    cases k with
    | succ k => exact absurd h (by simp [fok])
    | zero =>
      have h1 : fok 2 P := h
      unfold fpr at hS hl hn hX hC
      simp only [List.length_cons, List.length_append, List.length_nil] at hl hn hX hC
      rw [Sg_cons, Sg_app, Sg_cons] at hS
      refine Pl_sk hs hO (by omega) (by omega) ?_
      refine ih 2 h1 (a + 1) g p mo m hS.2.1 (by omega) (fun _ => by omega) (by omega) hmo (fun p1 g1 g2 Y hY => hC p1 (by omega) (by omega) Y (Ca_st hs hO (by omega) (by omega) (Or.inl (by omega)) hY)) ?_
      refine Pl_sk hs hO (by omega) (by omega) ?_
      rw [show a + 1 + (fpr 2 P).length + 1 = a + ((fpr 2 P).length + (0 + 1) + 1) by omega]
      exact hX
  | tag c l ih =>
    intro k h a g p mo m hS hl hn hg hmo hC hX
    cases k with
    | succ k => exact absurd h (by simp [fok])
    | zero =>
      obtain ⟨h0, h1⟩ : (1 ≤ c ∧ c ≤ 9) ∧ fok 3 l := h
      have hS0 := hS
      have hl0 := hl
      have hM40 := hO.1
      have hlen : (fpr 0 (.tag c l)).length = (fpr 3 l).length + 5 := by simp [fpr]
      rw [hlen] at hl hn hX hC
      have hdl := dp_le l 3 h1
      unfold fpr at hS
      rw [Sg_cons, Sg_cons, Sg_cons, Sg_cons, Sg_app, Sg_cons] at hS
      obtain ⟨t0, t1, t2, t3, t4, t5, _⟩ := hS
      have hq : a + 1 < M ∧ Tx w s (a + 1) = 111 := ⟨by omega, t1⟩
      refine Pl_dg hs hO (by omega) t0 (by omega) (fun e => absurd hq e) (g := g) (by omega) (by omega) (hC a (Nat.le_refl a) (by omega) _ (Ca_end (by omega))) ?_
      rw [decide_eq_true hq, if_pos hq]
      refine Pl_sk hs hO (by omega) (by omega) ?_
      refine Pl_sk hs hO (by omega) (by omega) ?_
      refine Pl_sk hs hO (by omega) (by omega) ?_
      show Pl w s M wh th (a + 1 + 1 + 1 + 1) (p + 1) (max mo (g + 1)) m X
      refine ih 3 h1 (a + 1 + 1 + 1 + 1) (g + 1) (p + 1) (max mo (g + 1)) m t4 (by omega) (fun _ => by omega) (by omega) (by omega) (fun p1 g1 g2 Y hY => hC p1 (by omega) (by omega) Y ?_) ?_
      · refine Ca_cnt hs hO (by omega) (by omega) h0 h1 hS0 hl0 ?_
        rw [hlen, if_neg (by omega)]
        refine Ca_st hs hO (by omega) (by omega) (Or.inl (by omega)) ?_
        refine Ca_st hs hO (by omega) (by omega) (Or.inl (by omega)) ?_
        exact Ca_st hs hO (by omega) (by omega) (Or.inl (by omega)) hY
      · refine Pl_sk hs hO (by omega) (by omega) ?_
        rw [show a + 1 + 1 + 1 + 1 + (fpr 3 l).length + 1 = a + ((fpr 3 l).length + 5) by omega, show max (max mo (g + 1)) (g + 1 + dp l) = max mo (g + (1 + dp l)) by omega, Nat.add_assoc p]
        exact hX
  | append h t ih1 ih2 =>
    intro k hk a g p mo m hS hl hn hg hmo hC hX
    cases k with
    | zero => exact absurd hk (by simp [fok])
    | succ k =>
      obtain ⟨h1, h2, h3⟩ := hk
      have hM40 := hO.1
      rcases h3 with h3 | ⟨h3, h4⟩
      · rw [fpr_a1 h3] at hS hl hn hX hC
        rw [np, nm, dp, if_pos h3, if_pos h3, if_pos h3, Nat.add_zero, Nat.or_zero, Nat.max_zero] at hX
        exact ih1 k h2 a g p mo m hS hl hn hg hmo hC hX
      · have hn3 : ¬ fnil t = true := by simp [h3]
        rw [fpr_a2 h3] at hS hl hn hX hC
        rw [np, nm, dp, if_neg hn3, if_neg hn3, if_neg hn3] at hX
        simp only [List.length_cons, List.length_append] at hl hn hX hC
        rw [Sg_app, Sg_cons] at hS
        have hf : fsep (k + 1) < 48 ∨ 57 < fsep (k + 1) := by unfold fsep; split <;> omega
        have hf2 : fsep (k + 1) ≠ 111 := by unfold fsep; split <;> omega
        have e1 : a + (fpr k h).length + 1 + (fpr (k + 1) t).length = a + ((fpr k h).length + ((fpr (k + 1) t).length + 1)) := by omega
        have hdh := dp_le h k h2
        refine ih1 k h2 a g p mo m hS.1 (by omega) (fun _ => by rw [hS.2.1]; exact hf2) hg hmo (fun p1 g1 g2 Y hY => hC p1 g1 (by omega) Y hY) ?_
        refine Pl_sk hs hO (by omega) (by rw [hS.2.1]; omega) ?_
        refine ih2 (k + 1) h4 _ g _ _ _ hS.2.2 (by omega) (by rw [e1]; exact hn) (by omega) (by omega) (fun p1 g1 g2 Y hY => hC p1 (by omega) (by omega) Y ?_) ?_
        · refine Ca_tree hs hO (by omega) h k h2 a g hS.1 (by omega) (fun _ => by rw [hS.2.1]; exact hf2) ?_
          exact Ca_st hs hO (by omega) (by omega) (Or.inl (by rw [hS.2.1]; omega)) hY
        · rw [e1, Nat.add_assoc p, Nat.or_assoc, show max (max mo (g + dp h)) (g + dp t) = max mo (g + max (dp h) (dp t)) by omega]
          exact hX
  | _ => intro k hk; cases k <;> exact absurd hk (by simp [fok])
theorem z_pol62 {w : Nat → Nat} {s : Nat} {t : Fm} {wh th : Int32} (hs : s < 4) (hk : fok 2 t) (hw : w (ix s 11) = (fpr 2 t).length) (hM : (fpr 2 t).length ≤ 40) (hS : Sg (Tx w s) 0 (fpr 2 t)) (hO : ∀ i, i < (fpr 2 t).length → Tx w s i < 127) : F_X11_policy_L62 (L w) (nI s) wh 1000 th 0 0 0 0 = if wh = 0 then F_X11_policy_L195 th (nI (np t)) else if wh = 1 then F_X11_policy_L195 th (nI (dp t)) else F_X11_policy_L195 th (nI (nm t)) := by
  have hT : TxO w s (fpr 2 t).length := ⟨hM, hw, hO⟩
  have key := Pl_tree (wh := wh) (th := th) hs hT t 2 hk 0 0 0 0 0 hS (by omega) (fun h => by omega) (by omega) (by omega) (fun p1 _ _ Y hY => hY) (X := if wh = 0 then F_X11_policy_L195 th (nI (np t)) else if wh = 1 then F_X11_policy_L195 th (nI (dp t)) else F_X11_policy_L195 th (nI (nm t))) ?_
  · exact key 1000 (by omega)
  · intro n hn
    obtain ⟨n, rfl⟩ := z_fuel (show 0 < n by omega)
    rw [F_X11_policy_L62, Nat.zero_add, Nat.zero_add, Nat.zero_add, Nat.zero_max, Nat.zero_or]
    refine ob (z_of (k := 11) hs (by omega)) ?_
    rw [hw]
    exact if_pos (nI_le (Nat.le_refl _) (by omega))
