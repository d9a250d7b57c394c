/-! PURE: what is left of a tree's text -/
def WT (N : Nat) (tf tp : Nat → Nat) (t : Fm) (k : Nat) (s : Bool) (a o : Nat) (nd st al : Nat → Nat) : Prop := ∃ nd' st' al', (∀ n, Wl N tf (n + (fpr k t).length) a o nd st al = Wl N tf n (a + (fpr k t).length) o nd' st' al') ∧ (∀ i, (i < a ∨ a + (fpr k t).length ≤ i) → nd' i = nd i) ∧ (∀ i, i ≤ o → st' i = st i) ∧ (∀ i, i < o → al' i = al i) ∧ al' o ≤ 1 ∧ (k ≤ 2 → al' o = if s = true then al o else max (al o) (fA k t).toNat) ∧ flt nd' tp a (fpr k t).length = fO k s t
theorem sfx_at {N a c : Nat} {tp : Nat → Nat} (h : a < N) (hc : tp a = c) : hd (sfx N tp a) = c := by rw [sfx_hd, if_pos h, hc]
theorem fA_n1 {x y : Fm} (hb : fnil y = true) : fA (0 + 1) (.append x y) = fA 0 x := by
  rw [fA, if_pos rfl, if_pos hb]
theorem fA_c1 {x y : Fm} (hb : ¬ fnil y = true) : fA (0 + 1) (.append x y) = false := by
  rw [fA, if_pos rfl, if_neg hb]
theorem fA_n2 {x y : Fm} (hb : fnil y = true) : fA (1 + 1) (.append x y) = fA 1 x := by
  rw [fA, if_neg (by omega), if_pos rfl, if_pos hb]
theorem fA_c2 {x y : Fm} (hb : ¬ fnil y = true) : fA (1 + 1) (.append x y) = true := by
  rw [fA, if_neg (by omega), if_pos rfl, if_neg hb]
theorem WT_tree {N : Nat} {tf tp : Nat → Nat} (h : TX N tf tp) : ∀ (t : Fm) (k : Nat), fok k t → ∀ (s : Bool) a o nd st al, Sg tp a (fpr k t) → a + (fpr k t).length ≤ N → o ≤ a → prv tp a ≠ 102 → al o ≤ 1 → (∀ i, a ≤ i → i < a + (fpr k t).length → nd i = 0) → (k ≤ 1 → s = (decide (prv tp a = 38) || decide (hd (sfx N tp (a + (fpr k t).length)) = 38))) → (2 ≤ k → prv tp a ≠ 38 ∧ hd (sfx N tp (a + (fpr k t).length)) ≠ 38 ∧ s = false) → WT N tf tp t k s a o nd st al := by
  intro t
  induction t with
  | nest i f ih =>
    intro k hk s a o nd st al hS hl ho hp hal hnd hs1 hs2
    cases k with
    | succ k => exact absurd hk (by simp [fok])
    | zero =>
      have h1 : i.toNat ≤ 7 := hk
      have hlen : (fpr 0 (.nest i f)).length = 1 := rfl
      unfold WT
      rw [hlen] at hl hnd ⊢
      unfold fpr at hS
      rw [Sg_cons] at hS
      refine ⟨nd, st, al, fun n => W_sk h (by omega) (by omega) (by omega) (by omega), fun _ _ => rfl, fun _ _ => rfl, fun _ _ => rfl, hal, fun _ => ?_, ?_⟩
      · show al o = if s = true then al o else max (al o) 0
        rw [Nat.max_zero, ite_self]
      · rw [flt_1 (hnd a (Nat.le_refl a) (by omega)), hS.1, fO]
  | group P b ih =>
    intro k hk s a o nd st al hS hl ho hp hal hnd hs1 hs2
    cases k with
    | succ k => exact absurd hk (by simp [fok])
    | zero =>
      have hk2 : fok 2 P := hk
      have hlen : (fpr 0 (.group P b)).length = (fpr 2 P).length + 2 := by simp [fpr]
      have hs := hs1 (by omega)
      unfold WT
      rw [hlen] at hl hnd hs ⊢
      unfold fpr at hS
      rw [Sg_cons, Sg_app, Sg_cons] at hS
      obtain ⟨t0, t1, t2, _⟩ := hS
      have hprv : prv tp (a + 1) = 40 := by rw [prv_s, t0]
      obtain ⟨nd1, st1, al1, g1, g2, g3, g4, g5, g6, g7⟩ := ih 2 hk2 false (a + 1) (o + 1) nd (updN st (o + 1) a) (updN al (o + 1) 0) t1 (by omega) (by omega) (by omega) (by rw [uN_s]; omega) (fun i h1 h2 => hnd i (by omega) (by omega)) (fun x => by omega) (fun _ => ⟨by omega, by rw [sfx_at (by omega) t2]; omega, rfl⟩)
      have hA := g6 (by omega)
      rw [if_neg (by decide), uN_s, Nat.zero_max] at hA
      have hAo : al1 o = al o := by rw [g4 o (by omega), uN_n _ _ (by omega)]
      have hst : st1 (o + 1) = a := by rw [g3 (o + 1) (Nat.le_refl _), uN_s]
      have hw : ∀ n, Wl N tf (n + ((fpr 2 P).length + 2)) a o nd st al = Wl N tf (n + 1) (a + 1 + (fpr 2 P).length) (o + 1) nd1 st1 al1 := by
        intro n
        rw [show n + ((fpr 2 P).length + 2) = (n + 1 + (fpr 2 P).length) + 1 by omega, W_op h (by omega) (by omega) t0]
        exact g1 (n + 1)
      have hcl := fun n => W_cl (n := n) (a := a + 1 + (fpr 2 P).length) (o := o) (b := a) (nd := nd1) (st := st1) (al := al1) h (by omega) (by omega) t2 hst (by omega) g5 (by rw [hAo]; exact hal)
      have hbes : (decide (prv tp a = 38) || decide (hd (sfx N tp (a + 1 + (fpr 2 P).length + 1)) = 38)) = s := by
        rw [show a + 1 + (fpr 2 P).length + 1 = a + ((fpr 2 P).length + 2) by omega]
        exact hs.symm
      rw [hbes] at hcl
      have hnd1a : nd1 a = 0 := by rw [g2 a (Or.inl (by omega))]; exact hnd a (Nat.le_refl a) (by omega)
      have hnd1e : nd1 (a + 1 + (fpr 2 P).length) = 0 := by rw [g2 _ (Or.inr (by omega))]; exact hnd _ (by omega) (by omega)
      have hfl : ∀ ndx : Nat → Nat, (∀ i, a + 1 ≤ i → i < a + 1 + (fpr 2 P).length → ndx i = nd1 i) → flt ndx tp a ((fpr 2 P).length + 2) = flt ndx tp a 1 ++ (fO 2 false P ++ flt ndx tp (a + 1 + (fpr 2 P).length) 1) := by
        intro ndx hx
        rw [show (fpr 2 P).length + 2 = 1 + ((fpr 2 P).length + 1) by omega, flt_app, flt_app, ← g7, flt_ext (nd := nd1) (nd' := ndx) _ _ hx]
      by_cases hc : (fA 2 P && s) = true
      · have hc2 : fA 2 P = true ∧ s = true := by simpa using hc
        refine ⟨nd1, st1, al1, fun n => ?_, fun i hi => g2 i (by omega), fun i hi => ?_, fun i hi => ?_, by rw [hAo]; exact hal, fun _ => ?_, ?_⟩
        · rw [hw n, hcl n, if_pos (Or.inr ⟨by rw [hA, hc2.1]; rfl, hc2.2⟩)]
          rw [show a + 1 + (fpr 2 P).length + 1 = a + ((fpr 2 P).length + 2) by omega]
        · rw [g3 i (by omega), uN_n _ _ (by omega)]
        · rw [g4 i (by omega), uN_n _ _ (by omega)]
        · rw [if_pos hc2.2, hAo]
        · rw [hfl nd1 (fun _ _ _ => rfl), flt_1 hnd1a, flt_1 hnd1e, t0, t2, fO, if_pos hc]
          rfl
      · have hc3 : ¬ (prv tp a = 102 ∨ (al1 (o + 1) = 1 ∧ s = true)) := by
          rintro (e | ⟨e1, e2⟩)
          · exact hp e
          · apply hc
            rw [hA] at e1
            rw [e2, Bool.and_true]
            cases hf : fA 2 P with
            | true => rfl
            | false => rw [hf] at e1; exact absurd e1 (by decide)
        have hav : max (al1 o) (al1 (o + 1)) ≤ 1 := by rw [hAo]; omega
        refine ⟨updN (updN nd1 a 1) (a + 1 + (fpr 2 P).length) 1, st1, updN al1 o (max (al1 o) (al1 (o + 1))), fun n => ?_, fun i hi => ?_, fun i hi => ?_, fun i hi => ?_, by rw [uN_s]; exact hav, fun _ => ?_, ?_⟩
        · rw [hw n, hcl n, if_neg hc3]
          rw [show a + 1 + (fpr 2 P).length + 1 = a + ((fpr 2 P).length + 2) by omega]
        · rw [uN_n _ _ (by omega), uN_n _ _ (by omega)]
          exact g2 i (by omega)
        · rw [g3 i (by omega), uN_n _ _ (by omega)]
        · rw [uN_n _ _ (by omega), g4 i (by omega), uN_n _ _ (by omega)]
        · rw [uN_s, hA, hAo, fA]
          by_cases hss : s = true
          · have hff : fA 2 P = false := by
              rw [hss, Bool.and_true] at hc
              simpa using hc
            rw [if_pos hss, hff]
            exact Nat.max_zero _
          · rw [if_neg hss]
        · rw [hfl _ (fun i h1 h2 => by rw [uN_n _ _ (by omega), uN_n _ _ (by omega)]), flt_0 (by rw [uN_n _ _ (by omega), uN_s]), flt_0 (by rw [uN_s]), fO, if_neg hc, List.nil_append, List.append_nil]
  | tag c l ih =>
    intro k hk s a o nd st al hS hl ho hp hal hnd hs1 hs2
    cases k with
    | succ k => exact absurd hk (by simp [fok])
    | zero =>
      have h9 : (1 ≤ c ∧ c ≤ 9) ∧ fok 3 l := hk
      have hlen : (fpr 0 (.tag c l)).length = (fpr 3 l).length + 5 := by simp [fpr]
      unfold WT
      rw [hlen] at hl hnd ⊢
      unfold fpr at hS
      rw [Sg_cons, Sg_cons, Sg_cons, Sg_cons, Sg_app, Sg_cons] at hS
      obtain ⟨t0, t1, t2, t3, t4, t5, _⟩ := hS
      have hprv : prv tp (a + 1 + 1 + 1 + 1) = 40 := by rw [prv_s, t3]
      obtain ⟨nd1, st1, al1, g1, g2, g3, g4, g5, g6, g7⟩ := ih 3 h9.2 false (a + 1 + 1 + 1 + 1) (o + 1) nd (updN st (o + 1) (a + 1 + 1 + 1)) (updN al (o + 1) 0) t4 (by omega) (by omega) (by omega) (by rw [uN_s]; omega) (fun i h1 h2 => hnd i (by omega) (by omega)) (fun x => by omega) (fun _ => ⟨by omega, by rw [sfx_at (by omega) t5]; omega, rfl⟩)
      have hAo : al1 o = al o := by rw [g4 o (by omega), uN_n _ _ (by omega)]
      have hst : st1 (o + 1) = a + 1 + 1 + 1 := by rw [g3 (o + 1) (Nat.le_refl _), uN_s]
      refine ⟨nd1, st1, al1, fun n => ?_, fun i hi => g2 i (by omega), fun i hi => ?_, fun i hi => ?_, by rw [hAo]; exact hal, fun _ => ?_, ?_⟩
      · rw [show n + ((fpr 3 l).length + 5) = (n + 1 + (fpr 3 l).length) + 1 + 1 + 1 + 1 by omega, W_sk h (by omega) (by omega) (by omega) (by omega), W_sk h (by omega) (by omega) (by omega) (by omega), W_sk h (by omega) (by omega) (by omega) (by omega), W_op h (by omega) (by omega) t3, g1 (n + 1), W_cl h (by omega) (by omega) t5 hst (by omega) g5 (by rw [hAo]; exact hal), if_pos (Or.inl (by rw [prv_s, t2]))]
        rw [show a + 1 + 1 + 1 + 1 + (fpr 3 l).length + 1 = a + ((fpr 3 l).length + 5) by omega]
      · rw [g3 i (by omega), uN_n _ _ (by omega)]
      · rw [g4 i (by omega), uN_n _ _ (by omega)]
      · rw [hAo]
        show al o = if s = true then al o else max (al o) 0
        rw [Nat.max_zero, ite_self]
      · have z : ∀ i, a ≤ i → i < a + 4 → nd1 i = 0 := fun i x1 x2 => by rw [g2 i (Or.inl (by omega))]; exact hnd i x1 (by omega)
        have ze : nd1 (a + 1 + 1 + 1 + 1 + (fpr 3 l).length) = 0 := by rw [g2 _ (Or.inr (by omega))]; exact hnd _ (by omega) (by omega)
        rw [show (fpr 3 l).length + 5 = 1 + (1 + (1 + (1 + ((fpr 3 l).length + 1)))) by omega, flt_app, flt_app, flt_app, flt_app, flt_app, flt_1 (z a (by omega) (by omega)), flt_1 (z (a + 1) (by omega) (by omega)), flt_1 (z (a + 1 + 1) (by omega) (by omega)), flt_1 (z (a + 1 + 1 + 1) (by omega) (by omega)), flt_1 ze, g7, t0, t1, t2, t3, t5, fO]
        rfl
  | append x y ihx ihy =>
    intro k hk s a o nd st al hS hl ho hp hal hnd hs1 hs2
    cases k with
    | zero => exact absurd hk (by simp [fok])
    | succ k =>
      obtain ⟨h1, h2, h3⟩ := hk
      by_cases hb : fnil y = true
      · have e1 : fpr (k + 1) (.append x y) = fpr k x := fpr_a1 hb
        have e2 : fO (k + 1) s (.append x y) = fO k (decide (k + 1 = 1) && s) x := fO_a1 hb
        unfold WT
        rw [e1] at hS hl hnd hs1 hs2 ⊢
        rw [e2]
        have hk012 : k = 0 ∨ k = 1 ∨ k = 2 := by omega
        rcases hk012 with rfl | rfl | rfl
        · obtain ⟨nd1, st1, al1, g1, g2, g3, g4, g5, g6, g7⟩ := ihx 0 h2 s a o nd st al hS hl ho hp hal hnd (fun _ => hs1 (by omega)) (fun q => by omega)
          refine ⟨nd1, st1, al1, g1, g2, g3, g4, g5, fun _ => ?_, g7⟩
          rw [fA_n1 hb]
          exact g6 (by omega)
        · obtain ⟨q1, q2, q3⟩ := hs2 (by omega)
          subst q3
          obtain ⟨nd1, st1, al1, g1, g2, g3, g4, g5, g6, g7⟩ := ihx 1 h2 false a o nd st al hS hl ho hp hal hnd (fun _ => by rw [decide_eq_false q1, decide_eq_false q2]; rfl) (fun q => by omega)
          refine ⟨nd1, st1, al1, g1, g2, g3, g4, g5, fun _ => ?_, g7⟩
          rw [fA_n2 hb]
          exact g6 (by omega)
        · obtain ⟨q1, q2, q3⟩ := hs2 (by omega)
          subst q3
          obtain ⟨nd1, st1, al1, g1, g2, g3, g4, g5, g6, g7⟩ := ihx 2 h2 false a o nd st al hS hl ho hp hal hnd (fun q => by omega) (fun _ => ⟨q1, q2, rfl⟩)
          exact ⟨nd1, st1, al1, g1, g2, g3, g4, g5, fun q => by omega, g7⟩
      · have hb' : fnil y = false := by simpa using hb
        have h3' : fok (k + 1) y := by
          rcases h3 with h3 | h3
          · rw [hb'] at h3; exact absurd h3 (by decide)
          · exact h3.2
        have e1 : fpr (k + 1) (.append x y) = fpr k x ++ fsep (k + 1) :: fpr (k + 1) y := fpr_a2 hb'
        have e2 : fO (k + 1) s (.append x y) = fO k (decide (k + 1 = 1)) x ++ fsep (k + 1) :: fO (k + 1) (decide (k + 1 = 1)) y := fO_a2 hb'
        have hlen : (fpr (k + 1) (.append x y)).length = (fpr k x).length + (1 + (fpr (k + 1) y).length) := by rw [e1, List.length_append, List.length_cons]; omega
        unfold WT
        rw [hlen] at hl hnd hs1 hs2 ⊢
        rw [e1, Sg_app, Sg_cons] at hS
        rw [e2]
        obtain ⟨t0, t1, t2⟩ := hS
        have eQ : a + (fpr k x).length + 1 + (fpr (k + 1) y).length = a + ((fpr k x).length + (1 + (fpr (k + 1) y).length)) := by omega
        have hnx : hd (sfx N tp (a + (fpr k x).length)) = fsep (k + 1) := sfx_at (by omega) t1
        have hpv : prv tp (a + (fpr k x).length + 1) = fsep (k + 1) := by rw [prv_s, t1]
        have hpy := fpr_pos y (k + 1) h3'
        -- what is common: three pieces
        have fin : ∀ (nd1 nd2 : Nat → Nat) (sx sy : Bool), (∀ i, (i < a ∨ a + (fpr k x).length ≤ i) → nd1 i = nd i) → (∀ i, (i < a + (fpr k x).length + 1 ∨ a + (fpr k x).length + 1 + (fpr (k + 1) y).length ≤ i) → nd2 i = nd1 i) → flt nd1 tp a (fpr k x).length = fO k sx x → flt nd2 tp (a + (fpr k x).length + 1) (fpr (k + 1) y).length = fO (k + 1) sy y → flt nd2 tp a ((fpr k x).length + (1 + (fpr (k + 1) y).length)) = fO k sx x ++ fsep (k + 1) :: fO (k + 1) sy y := by
          intro nd1 nd2 sx sy f1 f2 f3 f4
          have z0 : nd2 (a + (fpr k x).length) = 0 := by
            rw [f2 _ (Or.inl (by omega)), f1 _ (Or.inr (by omega))]
            exact hnd _ (by omega) (by omega)
          rw [flt_app, flt_app, flt_ext (nd := nd1) (nd' := nd2) _ _ (fun i x1 x2 => f2 i (Or.inl (by omega))), f3, flt_1 z0, f4, t1]
          rfl
        have hk012 : k = 0 ∨ k = 1 ∨ k = 2 := by omega
        rcases hk012 with rfl | rfl | rfl
        · have hsep : fsep (0 + 1) = 38 := rfl
          rw [hsep] at hnx hpv t1
          obtain ⟨nd1, st1, al1, g1, g2, g3, g4, g5, g6, g7⟩ := ihx 0 h2 true a o nd st al t0 (by omega) ho hp hal (fun i x1 x2 => hnd i x1 (by omega)) (fun _ => by rw [hnx]; simp) (fun q => by omega)
          obtain ⟨nd2, st2, al2, k1, k2, k3, k4, k5, k6, k7⟩ := ihy (0 + 1) h3' true (a + (fpr 0 x).length + 1) o nd1 st1 al1 t2 (by omega) (by omega) (by rw [hpv]; omega) g5 (fun i x1 x2 => by rw [g2 i (Or.inr (by omega))]; exact hnd i (by omega) (by omega)) (fun _ => by rw [hpv]; simp) (fun q => by omega)
          have ga := g6 (by omega)
          have ka := k6 (by omega)
          rw [if_pos rfl] at ga ka
          refine ⟨nd2, st2, al2, fun n => ?_, fun i hi => ?_, fun i hi => by rw [k3 i hi, g3 i hi], fun i hi => by rw [k4 i hi, g4 i hi], k5, fun _ => ?_, fin nd1 nd2 true true g2 k2 g7 k7⟩
          · rw [show n + ((fpr 0 x).length + (1 + (fpr (0 + 1) y).length)) = (n + (fpr (0 + 1) y).length + 1) + (fpr 0 x).length by omega, g1, W_sk h (by omega) (by omega) (by omega) (by omega), k1, eQ]
          · rw [k2 i (by omega), g2 i (by omega)]
          · rw [ka, ga, fA_c1 hb]
            show al o = if s = true then al o else max (al o) 0
            rw [Nat.max_zero, ite_self]
        · have hsep : fsep (1 + 1) = 124 := rfl
          rw [hsep] at hnx hpv t1
          obtain ⟨q1, q2, q3⟩ := hs2 (by omega)
          subst q3
          obtain ⟨nd1, st1, al1, g1, g2, g3, g4, g5, g6, g7⟩ := ihx 1 h2 false a o nd st al t0 (by omega) ho hp hal (fun i x1 x2 => hnd i x1 (by omega)) (fun _ => by rw [hnx, decide_eq_false q1]; rfl) (fun q => by omega)
          obtain ⟨nd2, st2, al2, k1, k2, k3, k4, k5, k6, k7⟩ := ihy (1 + 1) h3' false (a + (fpr 1 x).length + 1) o nd1 st1 (updN al1 o 1) t2 (by omega) (by omega) (by rw [hpv]; omega) (by rw [uN_s]; omega) (fun i x1 x2 => by rw [g2 i (Or.inr (by omega))]; exact hnd i (by omega) (by omega)) (fun q => by omega) (fun _ => ⟨by rw [hpv]; omega, by rw [eQ]; exact q2, rfl⟩)
          have ka := k6 (by omega)
          rw [if_neg (by decide), uN_s] at ka
          refine ⟨nd2, st2, al2, fun n => ?_, fun i hi => ?_, fun i hi => by rw [k3 i hi, g3 i hi], fun i hi => by rw [k4 i hi, uN_n _ _ (by omega), g4 i hi], k5, fun _ => ?_, fin nd1 nd2 false false g2 k2 g7 k7⟩
          · rw [show n + ((fpr 1 x).length + (1 + (fpr (1 + 1) y).length)) = (n + (fpr (1 + 1) y).length + 1) + (fpr 1 x).length by omega, g1, W_or h (by omega) (by omega) t1, k1, eQ]
          · rw [k2 i (by omega), g2 i (by omega)]
          · rw [if_neg (show ¬ false = true by decide), fA_c2 hb]
            show al2 o = max (al o) 1
            omega
        · have hsep : fsep (2 + 1) = 44 := rfl
          rw [hsep] at hnx hpv t1
          obtain ⟨q1, q2, q3⟩ := hs2 (by omega)
          subst q3
          obtain ⟨nd1, st1, al1, g1, g2, g3, g4, g5, g6, g7⟩ := ihx 2 h2 false a o nd st al t0 (by omega) ho hp hal (fun i x1 x2 => hnd i x1 (by omega)) (fun q => by omega) (fun _ => ⟨q1, by rw [hnx]; omega, rfl⟩)
          obtain ⟨nd2, st2, al2, k1, k2, k3, k4, k5, k6, k7⟩ := ihy (2 + 1) h3' false (a + (fpr 2 x).length + 1) o nd1 st1 al1 t2 (by omega) (by omega) (by rw [hpv]; omega) g5 (fun i x1 x2 => by rw [g2 i (Or.inr (by omega))]; exact hnd i (by omega) (by omega)) (fun q => by omega) (fun _ => ⟨by rw [hpv]; omega, by rw [eQ]; exact q2, rfl⟩)
          refine ⟨nd2, st2, al2, fun n => ?_, fun i hi => ?_, fun i hi => by rw [k3 i hi, g3 i hi], fun i hi => by rw [k4 i hi, g4 i hi], k5, fun q => by omega, fin nd1 nd2 false false g2 k2 g7 k7⟩
          · rw [show n + ((fpr 2 x).length + (1 + (fpr (2 + 1) y).length)) = (n + (fpr (2 + 1) y).length + 1) + (fpr 2 x).length by omega, g1, W_sk h (by omega) (by omega) (by omega) (by omega), k1, eQ]
          · rw [k2 i (by omega), g2 i (by omega)]
  | _ => intro k hk; cases k <;> exact absurd hk (by simp [fok])
