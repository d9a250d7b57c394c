/-! PURE: the reference counts around a place -/
def Dc (w : Nat → Nat) (s p1 : Nat) (K5 : Int32 → Int32 → Option Int32) (x y : Int32) (d b : Nat) (X : Option Int32) : Prop := ∀ n, 41 - b < n → F_X11_countsAround_L47 (L w) (nI s) (nI p1) K5 n x y (nI d) (nI b) = X
theorem Dc_st {w : Nat → Nat} {s p1 d b c : Nat} {K5 : Int32 → Int32 → Option Int32} {x y : Int32} {X : Option Int32} (hs : s < 4) (hb : b < 40) (hc : Tx w s b = c) (hc2 : c < 127) (h1 : c ≠ 40) (h2 : c ≠ 41) (hd : 0 < d) (hd2 : d < 200) (k : Dc w s p1 K5 x y d (b + 1) X) : Dc w s p1 K5 x y d b X := by
  intro n hn
  obtain ⟨n, rfl⟩ := z_fuel (show 0 < n by omega)
  have hT : F_X11_of (L w) (nI s) ((12 : Int32) + nI b) = some (nI c) := by
    rw [show (12 : Int32) + nI b = nI (12 + b) from nI_add 12 b, z_ofT hs hb, hc]
  have n1 : ¬ nI c = 40 := fun e => h1 ((q_eqI (b := 40) (by omega) (by omega)).mp e)
  have n2 : ¬ nI c = 41 := fun e => h2 ((q_eqI (b := 41) (by omega) (by omega)).mp e)
  rw [F_X11_countsAround_L47]
  refine ob hT ((if_neg n1).trans (ob hT ((if_neg n2).trans ?_)))
  unfold F_X11_countsAround_L88
  rw [show nI d + 0 = nI d from nI_add d 0, show nI b + 1 = nI (b + 1) from nI_1 b]
  exact (if_pos (show nI 0 < nI d from nI_lt hd (by omega))).trans (k n (by omega))
theorem Dc_op {w : Nat → Nat} {s p1 d b : Nat} {K5 : Int32 → Int32 → Option Int32} {x y : Int32} {X : Option Int32} (hs : s < 4) (hb : b < 40) (hc : Tx w s b = 40) (hd2 : d < 200) (k : Dc w s p1 K5 x y (d + 1) (b + 1) X) : Dc w s p1 K5 x y d b X := by
  intro n hn
  obtain ⟨n, rfl⟩ := z_fuel (show 0 < n by omega)
  have hT : F_X11_of (L w) (nI s) ((12 : Int32) + nI b) = some (nI 40) := by
    rw [show (12 : Int32) + nI b = nI (12 + b) from nI_add 12 b, z_ofT hs hb, hc]
  rw [F_X11_countsAround_L47]
  refine ob hT ((if_pos rfl).trans ?_)
  unfold F_X11_countsAround_L88
  rw [show nI d + 1 = nI (d + 1) from nI_1 d, show nI b + 1 = nI (b + 1) from nI_1 b]
  exact (if_pos (show nI 0 < nI (d + 1) from nI_lt (by omega) (by omega))).trans (k n (by omega))
theorem Dc_cl {w : Nat → Nat} {s p1 d b : Nat} {K5 : Int32 → Int32 → Option Int32} {x y : Int32} {X : Option Int32} (hs : s < 4) (hb : b < 40) (hc : Tx w s b = 41) (hd : 0 < d) (hd2 : d < 200) (k : Dc w s p1 K5 x y d (b + 1) X) : Dc w s p1 K5 x y (d + 1) b X := by
  intro n hn
  obtain ⟨n, rfl⟩ := z_fuel (show 0 < n by omega)
  have hT : F_X11_of (L w) (nI s) ((12 : Int32) + nI b) = some (nI 41) := by
    rw [show (12 : Int32) + nI b = nI (12 + b) from nI_add 12 b, z_ofT hs hb, hc]
  rw [F_X11_countsAround_L47]
  refine ob hT ((if_neg (by decide)).trans (ob hT ((if_pos rfl).trans ?_)))
  unfold F_X11_countsAround_L88
  rw [show nI (d + 1) + (-1) = nI d from q_back (e := d + 1) (by omega) (by omega), show nI b + 1 = nI (b + 1) from nI_1 b]
  exact (if_pos (show nI 0 < nI d from nI_lt (by omega) (by omega))).trans (k n (by omega))
theorem Dc_tree {w : Nat → Nat} {s p1 : Nat} {K5 : Int32 → Int32 → Option Int32} {x y : Int32} {X : Option Int32} (hs : s < 4) : ∀ (t : Fm) (k : Nat), fok k t → ∀ d a, Sg (Tx w s) a (fpr k t) → a + (fpr k t).length ≤ 40 → 0 < d → d + (fpr k t).length < 90 → Dc w s p1 K5 x y d (a + (fpr k t).length) X → Dc w s p1 K5 x y d a X := by
  intro t
  induction t with
  | nest i f ih =>
    intro k h d a hS hl hd hd2 hX
    cases k with
    | succ k => exact absurd h (by simp [fok])
    | zero =>
      have h1 : i.toNat ≤ 7 := h
      unfold fpr at hS hl hX
      rw [Sg_cons] at hS
      exact Dc_st hs (by simp at hl; omega) hS.1 (by omega) (by omega) (by omega) hd (by omega) hX
  | group P b ih =>
    intro k h d a hS hl hd hd2 hX
    cases k with
    | succ k => exact absurd h (by simp [fok])
    | zero =>
      have h1 : fok 2 P := h
      unfold fpr at hS hl hd2 hX
      simp only [List.length_cons, List.length_append, List.length_nil] at hl hd2 hX
      rw [Sg_cons, Sg_app, Sg_cons] at hS
      refine Dc_op hs (by omega) hS.1 (by omega) ?_
      refine ih 2 h1 (d + 1) (a + 1) hS.2.1 (by omega) (by omega) (by omega) ?_
      refine Dc_cl hs (by omega) hS.2.2.1 hd (by omega) ?_
      rw [show a + 1 + (fpr 2 P).length + 1 = a + ((fpr 2 P).length + (0 + 1) + 1) by omega]
      exact hX
  | tag c l ih =>
    intro k h d a hS hl hd hd2 hX
    cases k with
    | succ k => exact absurd h (by simp [fok])
    | zero =>
      obtain ⟨h0, h1⟩ : (1 ≤ c ∧ c ≤ 9) ∧ fok 3 l := h
      unfold fpr at hS hl hd2 hX
      simp only [List.length_cons, List.length_append, List.length_nil] at hl hd2 hX
      rw [Sg_cons, Sg_cons, Sg_cons, Sg_cons, Sg_app, Sg_cons] at hS
      refine Dc_st hs (by omega) hS.1 (by omega) (by omega) (by omega) hd (by omega) ?_
      refine Dc_st hs (by omega) hS.2.1 (by omega) (by omega) (by omega) hd (by omega) ?_
      refine Dc_st hs (by omega) hS.2.2.1 (by omega) (by omega) (by omega) hd (by omega) ?_
      refine Dc_op hs (by omega) hS.2.2.2.1 (by omega) ?_
      refine ih 3 h1 (d + 1) (a + 1 + 1 + 1 + 1) hS.2.2.2.2.1 (by omega) (by omega) (by omega) ?_
      refine Dc_cl hs (by omega) hS.2.2.2.2.2.1 hd (by omega) ?_
      rw [show a + 1 + 1 + 1 + 1 + (fpr 3 l).length + 1 = a + ((fpr 3 l).length + (0 + 1) + 1 + 1 + 1 + 1) by omega]
      exact hX
  | append h t ih1 ih2 =>
    intro k hk d a hS hl hd hd2 hX
    cases k with
    | zero => exact absurd hk (by simp [fok])
    | succ k =>
      obtain ⟨h1, h2, h3⟩ := hk
      unfold fpr at hS hl hd2 hX
      rw [Nat.add_sub_cancel] at hS hl hd2 hX
      rcases h3 with h3 | ⟨h3, h4⟩
      · rw [if_pos h3] at hS hl hd2 hX
        exact ih1 k h2 d a hS hl hd hd2 hX
      · rw [if_neg (by simp [h3])] at hS hl hd2 hX
        simp only [List.length_cons, List.length_append] at hl hd2 hX
        rw [Sg_app, Sg_cons] at hS
        have hf : fsep (k + 1) < 127 ∧ fsep (k + 1) ≠ 40 ∧ fsep (k + 1) ≠ 41 := by unfold fsep; split <;> omega
        refine ih1 k h2 d a hS.1 (by omega) hd (by omega) ?_
        refine Dc_st hs (by omega) hS.2.1 hf.1 hf.2.1 hf.2.2 hd (by omega) ?_
        refine ih2 (k + 1) h4 d _ hS.2.2 (by omega) hd (by omega) ?_
        rw [show a + (fpr k h).length + 1 + (fpr (k + 1) t).length = a + ((fpr k h).length + ((fpr (k + 1) t).length + 1)) by omega]
        exact hX
  | _ => intro k hk; cases k <;> exact absurd hk (by simp [fok])
def Ca (w : Nat → Nat) (s p1 a g : Nat) (X : Option Int32) : Prop := ∀ n, p1 - a < n → F_X11_countsAround_L5 (L w) (nI s) (nI p1) n (nI g) (nI a) = X
theorem z_digAt {w : Nat → Nat} {s a c : Nat} (hs : s < 4) (ha : a < 40) (hc : Tx w s a = c) (hc2 : c < 127) : F_X11_isDigitAt (L w) (nI s) (nI a) = some (nI (decide (48 ≤ c ∧ c ≤ 57)).toNat) := by
  have hT : F_X11_of (L w) (nI s) ((12 : Int32) + nI a) = some (nI c) := by
    rw [show (12 : Int32) + nI a = nI (12 + a) from nI_add 12 a, z_ofT hs ha, hc]
  unfold F_X11_isDigitAt
  refine ob hT ?_
  by_cases h : 48 ≤ c ∧ c ≤ 57
  · rw [decide_eq_true h]
    exact ob (z_inok (j := c) (a := 48) (b := 57) h.1 h.2 (by omega)) (by rw [q_nar1, q_gg]; rfl)
  · rw [decide_eq_false h]
    exact ob (z_inno (j := c) (a := 48) (b := 57) (by omega) (by omega) (by omega)) (by rw [q_nar0, q_gg]; rfl)
theorem z_isCnt11 {w : Nat → Nat} {s a M : Nat} (hs : s < 4) (ha : a < M) (hM : M ≤ 40) (hc : a + 1 < M → Tx w s (a + 1) < 127) : F_X11_isCount (L w) (nI s) (nI a) (nI M) = some (nI (decide (a + 1 < M ∧ Tx w s (a + 1) = 111)).toNat) := by
  by_cases h : a + 1 < M
  · rw [z_isCount1 hs h hM (hc h)]
    congr 2
    simp [h]
  · have : M = a + 1 := by omega
    subst this
    rw [z_isCount0 (by omega)]
    simp
def TxO (w : Nat → Nat) (s M : Nat) : Prop := M ≤ 40 ∧ w (ix s 11) = M ∧ ∀ i, i < M → Tx w s i < 127
theorem Ca_end {w : Nat → Nat} {s a g : Nat} (ha : a < 1000) : Ca w s a a g (some (nI g)) := by
  intro n hn
  obtain ⟨n, rfl⟩ := z_fuel (show 0 < n by omega)
  rw [F_X11_countsAround_L5]
  exact if_pos (nI_le (Nat.le_refl a) (by omega))
theorem Ca_st {w : Nat → Nat} {s p1 a g M : Nat} {X : Option Int32} (hs : s < 4) (hO : TxO w s M) (ha : a < p1) (hp : p1 ≤ M) (h1 : ¬ (48 ≤ Tx w s a ∧ Tx w s a ≤ 57) ∨ ¬ (a + 1 < M ∧ Tx w s (a + 1) = 111)) (k : Ca w s p1 (a + 1) g X) : Ca w s p1 a g X := by
  obtain ⟨o1, o2, o3⟩ := hO
  intro n hn
  obtain ⟨n, rfl⟩ := z_fuel (show 0 < n by omega)
  have k1 := k n (by omega)
  rw [F_X11_countsAround_L5]
  unfold F_X11_countsAround_L113
  rw [show nI a + 1 = nI (a + 1) from nI_1 a]
  refine (if_neg (nI_ge ha (by omega))).trans (ob (z_digAt hs (by omega) rfl (o3 a (by omega))) ?_)
  by_cases hd : 48 ≤ Tx w s a ∧ Tx w s a ≤ 57
  · have h2 : ¬ (a + 1 < M ∧ Tx w s (a + 1) = 111) := by
      rcases h1 with h1 | h1
      · exact absurd hd h1
      · exact h1
    rw [decide_eq_true hd]
    refine (if_neg (by decide)).trans (ob (z_of (k := 11) hs (by omega)) ?_)
    rw [o2]
    refine ob (z_isCnt11 hs (by omega) o1 (fun h => o3 _ h)) ?_
    rw [decide_eq_false h2]
    exact (if_pos rfl).trans k1
  · rw [decide_eq_false hd]
    exact (if_pos rfl).trans k1
theorem Ca_cnt {w : Nat → Nat} {s p1 a g M c : Nat} {l : Fm} {X : Option Int32} (hs : s < 4) (hO : TxO w s M) (ha : a < p1) (hp : p1 ≤ M) (hc : 1 ≤ c ∧ c ≤ 9) (hk : fok 3 l) (hS : Sg (Tx w s) a (fpr 0 (.tag c l))) (hl : a + (fpr 0 (.tag c l)).length ≤ M) (k : Ca w s p1 (a + 1) (g + (if a + (fpr 0 (.tag c l)).length ≤ p1 then 0 else 1)) X) : Ca w s p1 a g X := by
  obtain ⟨o1, o2, o3⟩ := hO
  unfold fpr at hS hl k
  simp only [List.length_cons, List.length_append, List.length_nil] at hl k
  rw [Sg_cons, Sg_cons, Sg_cons, Sg_cons, Sg_app, Sg_cons] at hS
  obtain ⟨t0, t1, t2, t3, t4, t5, _⟩ := hS
  intro n hn
  obtain ⟨n, rfl⟩ := z_fuel (show 0 < n by omega)
  have k1 := k n (by omega)
  have hT : F_X11_of (L w) (nI s) ((12 : Int32) + nI (a + 1 + 1 + 1 + 1 + (fpr 3 l).length)) = some (nI 41) := by
    rw [show (12 : Int32) + nI (a + 1 + 1 + 1 + 1 + (fpr 3 l).length) = nI (12 + (a + 1 + 1 + 1 + 1 + (fpr 3 l).length)) from nI_add 12 _, z_ofT hs (by omega), t5]
  have key : Dc w s p1 (F_X11_countsAround_L5 (L w) (nI s) (nI p1) n) (nI g) (nI a) 0 (a + 1 + 1 + 1) X := by
    refine Dc_op hs (by omega) t3 (by omega) ?_
    refine Dc_tree hs l 3 hk 1 _ t4 (by omega) (by omega) (by omega) ?_
    intro n' hn'
    obtain ⟨n', rfl⟩ := z_fuel (show 0 < n' by omega)
    rw [F_X11_countsAround_L47]
    refine ob hT ((if_neg (by decide)).trans (ob hT ((if_pos rfl).trans ?_)))
    unfold F_X11_countsAround_L88 F_X11_countsAround_L111 F_X11_countsAround_L113
    rw [show nI a + 1 = nI (a + 1) from nI_1 a, nI_1]
    refine (if_neg (by decide)).trans ?_
    by_cases h : a + ((fpr 3 l).length + (0 + 1) + 1 + 1 + 1 + 1) ≤ p1
    · rw [if_pos h] at k1
      rw [show nI g + 0 = nI (g + 0) from nI_add g 0]
      exact (if_pos (nI_le (by omega) (by omega))).trans k1
    · rw [if_neg h] at k1
      rw [show nI g + 1 = nI (g + 1) from nI_add g 1]
      exact (if_neg (nI_ge (by omega) (by omega))).trans k1
  rw [F_X11_countsAround_L5]
  have hd : 48 ≤ Tx w s a ∧ Tx w s a ≤ 57 := by omega
  refine (if_neg (nI_ge ha (by omega))).trans (ob (z_digAt hs (by omega) rfl (o3 a (by omega))) ?_)
  rw [decide_eq_true hd]
  refine (if_neg (by decide)).trans (ob (z_of (k := 11) hs (by omega)) ?_)
  rw [o2]
  refine ob (z_isCnt11 hs (by omega) o1 (fun h => o3 _ h)) ?_
  rw [decide_eq_true (show a + 1 < M ∧ Tx w s (a + 1) = 111 from ⟨by omega, t1⟩)]
  refine (if_neg (by decide)).trans ?_
  rw [show nI a + 3 = nI (a + 1 + 1 + 1) from nI_add a 3]
  exact key 1000 (by omega)
theorem Ca_tree {w : Nat → Nat} {s p1 M : Nat} {X : Option Int32} (hs : s < 4) (hO : TxO w s M) (hp : p1 ≤ M) : ∀ (t : Fm) (k : Nat), fok k t → ∀ a g, Sg (Tx w s) a (fpr k t) → a + (fpr k t).length ≤ p1 → (a + (fpr k t).length < M → Tx w s (a + (fpr k t).length) ≠ 111) → Ca w s p1 (a + (fpr k t).length) g X → Ca w s p1 a g X := by
  intro t
  induction t with
  | nest i f ih =>
    intro k h a g hS hl hn hX
    cases k with
    | succ k => exact absurd h (by simp [fok])
    | zero =>
      have h1 : i.toNat ≤ 7 := h
      unfold fpr at hS hl hn hX
      simp only [List.length_cons, List.length_nil] at hl hn hX
      rw [Sg_cons] at hS
      exact Ca_st hs hO (by omega) hp (Or.inr (fun e => hn e.1 e.2)) hX
  | group P b ih =>
    intro k h a g hS hl hn hX
    cases k with
    | succ k => exact absurd h (by simp [fok])
    | zero =>
      have h1 : fok 2 P := h
      unfold fpr at hS hl hn hX
      simp only [List.length_cons, List.length_append, List.length_nil] at hl hn hX
      rw [Sg_cons, Sg_app, Sg_cons] at hS
      refine Ca_st hs hO (by omega) hp (Or.inl (by omega)) ?_
      refine ih 2 h1 (a + 1) g hS.2.1 (by omega) (fun _ => by omega) ?_
      refine Ca_st hs hO (by omega) hp (Or.inl (by omega)) ?_
      rw [show a + 1 + (fpr 2 P).length + 1 = a + ((fpr 2 P).length + (0 + 1) + 1) by omega]
      exact hX
  | tag c l ih =>
    intro k h a g hS hl hn hX
    cases k with
    | succ k => exact absurd h (by simp [fok])
    | zero =>
      have hpos := fpr_pos (.tag c l) 0 h
      obtain ⟨h0, h1⟩ : (1 ≤ c ∧ c ≤ 9) ∧ fok 3 l := h
      refine Ca_cnt hs hO (by omega) hp h0 h1 hS (by omega) ?_
      rw [if_pos hl]
      unfold fpr at hS hl hn hX
      simp only [List.length_cons, List.length_append, List.length_nil] at hl hn hX
      rw [Sg_cons, Sg_cons, Sg_cons, Sg_cons, Sg_app, Sg_cons] at hS
      refine Ca_st hs hO (by omega) hp (Or.inl (by omega)) ?_
      refine Ca_st hs hO (by omega) hp (Or.inl (by omega)) ?_
      refine Ca_st hs hO (by omega) hp (Or.inl (by omega)) ?_
      refine ih 3 h1 (a + 1 + 1 + 1 + 1) _ hS.2.2.2.2.1 (by omega) (fun _ => by omega) ?_
      refine Ca_st hs hO (by omega) hp (Or.inl (by omega)) ?_
      rw [show a + 1 + 1 + 1 + 1 + (fpr 3 l).length + 1 = a + ((fpr 3 l).length + (0 + 1) + 1 + 1 + 1 + 1) by omega]
      exact hX
  | append h t ih1 ih2 =>
    intro k hk a g hS hl hn hX
    cases k with
    | zero => exact absurd hk (by simp [fok])
    | succ k =>
      obtain ⟨h1, h2, h3⟩ := hk
      unfold fpr at hS hl hn hX
      rw [Nat.add_sub_cancel] at hS hl hn hX
      rcases h3 with h3 | ⟨h3, h4⟩
      · rw [if_pos h3] at hS hl hn hX
        exact ih1 k h2 a g hS hl hn hX
      · rw [if_neg (by simp [h3])] at hS hl hn hX
        simp only [List.length_cons, List.length_append] at hl hn hX
        rw [Sg_app, Sg_cons] at hS
        have hf : fsep (k + 1) < 48 ∨ 57 < fsep (k + 1) := by unfold fsep; split <;> omega
        have hf2 : fsep (k + 1) ≠ 111 := by unfold fsep; split <;> omega
        have e1 : a + (fpr k h).length + 1 + (fpr (k + 1) t).length = a + ((fpr k h).length + ((fpr (k + 1) t).length + 1)) := by omega
        refine ih1 k h2 a g hS.1 (by omega) (fun _ => by rw [hS.2.1]; exact hf2) ?_
        refine Ca_st hs hO (by omega) hp (Or.inl (by rw [hS.2.1]; omega)) ?_
        refine ih2 (k + 1) h4 _ g hS.2.2 (by omega) (by rw [e1]; exact hn) ?_
        rw [e1]
        exact hX
  | _ => intro k hk; cases k <;> exact absurd hk (by simp [fok])
