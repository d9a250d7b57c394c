/-! PURE: groups of members -/
def GPn (th ep : Nat) (cm vs es : Nat → Nat) (p : Nat) : Bool := decide (es p ≠ 0) && decide (S_state th ep cm (vs p) (es p) p = 0)
def gN (pr th ep : Nat) (cm vs es : Nat → Nat) (j : Nat) : Nat := cntP (fun p => pr.testBit j && GPn th ep cm vs es p) (1 + 3 * j) 3
def S_sum (f : Nat → Nat) : Nat → Nat → Nat
  | 0, _ => 0
  | k + 1, j => f j + S_sum f k (j + 1)
theorem S_sum_congr {f g : Nat → Nat} : ∀ k j, (∀ i, j ≤ i → i < j + k → f i = g i) → S_sum f k j = S_sum g k j := by
  intro k
  induction k with
  | zero => intro j _; rfl
  | succ k ih =>
    intro j h
    show f j + S_sum f k (j + 1) = g j + S_sum g k (j + 1)
    rw [h j (Nat.le_refl j) (by omega), ih (j + 1) (fun i a b => h i (by omega) (by omega))]
theorem cnt_split (P : Nat → Bool) : ∀ k j, cntP P (1 + 3 * j) (3 * k) = S_sum (fun i => cntP P (1 + 3 * i) 3) k j := by
  intro k
  induction k with
  | zero => intro j; rfl
  | succ k ih =>
    intro j
    rw [show 3 * (k + 1) = 3 + 3 * k by omega, cntP_add, show 1 + 3 * j + 3 = 1 + 3 * (j + 1) by omega, ih (j + 1)]
    rfl
theorem nGood_sum {pr th ep m : Nat} {cm vs es : Nat → Nat} : nGood th ep cm vs es (m &&& pr) = S_sum (fun i => if m.testBit i then gN pr th ep cm vs es i else 0) 8 0 := by
  unfold nGood
  have h := cnt_split (chP th ep cm vs es (m &&& pr) true) 8 0
  rw [show cntP (chP th ep cm vs es (m &&& pr) true) 1 24 = cntP (chP th ep cm vs es (m &&& pr) true) (1 + 3 * 0) (3 * 8) from rfl, h]
  refine S_sum_congr 8 0 (fun i _ hi => ?_)
  have key : cntP (chP th ep cm vs es (m &&& pr) true) (1 + 3 * i) 3 = cntP (fun p => (m.testBit i && pr.testBit i) && GPn th ep cm vs es p) (1 + 3 * i) 3 := by
    refine cntP_congr 3 (1 + 3 * i) (fun p h1 h2 => ?_)
    unfold chP GPn
    rw [show (p - 1) / 3 = i by omega, Nat.testBit_and]
    simp
  rw [key]
  cases hm : m.testBit i with
  | false =>
    rw [if_neg (by simp)]
    exact cntP_none 3 (1 + 3 * i) (fun _ _ _ => by simp)
  | true =>
    rw [if_pos rfl]
    unfold gN
    simp only [Bool.true_and]
theorem gN_le {pr th ep j : Nat} {cm vs es : Nat → Nat} : gN pr th ep cm vs es j ≤ 3 := cntP_le _ 3 _
theorem z_gsum_L {gs : Nat → Nat} {m : Nat} (hm : m < 256) (hg : ∀ j, j < 8 → gs j ≤ 3) : ∀ k n j acc, j + k = 8 → k < n → F_X10_goodSharesOf_L4 (L gs) (nI m) n (nI acc) (nI j) = some (nI (acc + S_sum (fun i => if m.testBit i then gs i else 0) k j)) := by
  intro k
  induction k with
  | zero =>
    intro n j acc hj hn
    obtain ⟨n, rfl⟩ := z_fuel hn
    have h0 : 8 ≤ j := by omega
    rw [F_X10_goodSharesOf_L4]
    simp (disch := omega) only [q_lit, q_leI, h0, if_true]
    rfl
  | succ k ih =>
    intro n j acc hj hn
    obtain ⟨n, rfl⟩ := z_fuel (show 0 < n by omega)
    have h0 : ¬ 8 ≤ j := by omega
    rw [F_X10_goodSharesOf_L4]
    unfold F_X10_goodSharesOf_L29
    simp (disch := omega) only [q_lit, q_leI, h0, if_false, z_contains, Option.bind_some, q_b0, q_gi, q_gg, q_cl, L_app, nI_add]
    rw [ih n (j + 1) (acc + 0) (by omega) (by omega), ih n (j + 1) (acc + gs j) (by omega) (by omega)]
    show _ = some (nI (acc + ((if m.testBit j then gs j else 0) + S_sum (fun i => if m.testBit i then gs i else 0) k (j + 1))))
    cases m.testBit j <;> simp [Nat.add_assoc]
theorem z_goodSharesOf {gs : Nat → Nat} {m : Nat} (hm : m < 256) (hg : ∀ j, j < 8 → gs j ≤ 3) : F_X10_goodSharesOf (L gs) (nI m) = some (nI (S_sum (fun i => if m.testBit i then gs i else 0) 8 0)) := by
  unfold F_X10_goodSharesOf
  simp only [q_lit]
  rw [z_gsum_L hm hg 8 1000 0 0 (by omega) (by omega), Nat.zero_add]
theorem q_nb : ∀ b, b < 2 → vp_nar .boolean (nI b) = nI b := by decide
theorem z_mark38 {pr th ep : Nat} {gs cm vs es : Nat → Nat} {rule : Option Nat} {ful : Nat → Int32} {al : Nat → Bool} (hpr : pr < 256) (hth : th ≤ 8) (hgs : ∀ j, j < 8 → gs j = gN pr th ep cm vs es j) (hF : ∀ m, m < 256 → F_X7_allows rule ful (nI m) = some (nI (al m).toNat)) : ∀ k n m (op : Nat → Nat), m + k = 256 → k < n →
    ∃ op', F_X10_markOpeningSets_L38 (nI pr) (nI th) rule ful n (L gs) (L op) (nI m) = some (L gs, L op') ∧ (∀ q, m ≤ q → q < 256 → op' q = (OPn th ep cm vs es pr al q).toNat) ∧ ∀ q, q < m → op' q = op q := by
  intro k
  induction k with
  | zero =>
    intro n m op hm hn
    obtain ⟨n, rfl⟩ := z_fuel hn
    refine ⟨op, ?_, fun q a b => by omega, fun _ _ => rfl⟩
    rw [F_X10_markOpeningSets_L38]
    exact if_pos (show nI 256 ≤ nI m from nI_le (by omega) (by omega))
  | succ k ih =>
    intro n m op hm hn
    obtain ⟨n, rfl⟩ := z_fuel (show 0 < n by omega)
    have hm8 : m < 256 := by omega
    have hnle : ¬ nI 256 ≤ nI m := nI_ge (by omega) (by omega)
    have hg := z_goodSharesOf (gs := gs) hm8 (fun j hj => by rw [hgs j hj]; exact gN_le)
    rw [S_sum_congr 8 0 (fun i _ hi => by rw [hgs i (by omega)]) (g := fun i => if m.testBit i then gN pr th ep cm vs es i else 0), ← nGood_sum] at hg
    have hng := @nGood_le th ep cm vs es (m &&& pr)
    have ha := hF (m &&& pr) (q_andlt pr hm8)
    have step : ∀ b : Nat, b < 2 → b = (OPn th ep cm vs es pr al m).toNat → ∃ op', F_X10_markOpeningSets_L83 (F_X10_markOpeningSets_L38 (nI pr) (nI th) rule ful n) (L gs) (L op) (nI m) (nI b) (nI m) = some (L gs, L op') ∧ (∀ q, m ≤ q → q < 256 → op' q = (OPn th ep cm vs es pr al q).toNat) ∧ ∀ q, q < m → op' q = op q := by
      intro b hb hbo
      obtain ⟨op', e1, e2, e3⟩ := ih n (m + 1) (updN op m b) (by omega) (by omega)
      refine ⟨op', ?_, fun q a c => ?_, fun q a => ?_⟩
      · unfold F_X10_markOpeningSets_L83
        rw [q_nb b hb, q_gi hm8 (by omega), q_gg, q_gl, q_cl (by omega), L_upd, show nI m + 1 = nI (m + 1) from nI_1 m]
        exact e1
      · by_cases h : q = m
        · subst h
          rw [e3 q (by omega), uN_s, hbo]
        · exact e2 q (by omega) c
      · rw [e3 q (by omega), uN_n _ _ (by omega)]
    have hOP : OPn th ep cm vs es pr al m = (al (m &&& pr) && decide (th ≤ nGood th ep cm vs es (m &&& pr))) := rfl
    by_cases hlt : nGood th ep cm vs es (m &&& pr) < th
    · obtain ⟨op', e1, e2⟩ := step 0 (by omega) (by
        have : ¬ th ≤ nGood th ep cm vs es (m &&& pr) := by omega
        rw [hOP, decide_eq_false this, Bool.and_false]; rfl)
      refine ⟨op', ?_, e2⟩
      rw [F_X10_markOpeningSets_L38]
      refine (if_neg hnle).trans ?_
      refine ob hg ?_
      refine (if_pos (nI_lt hlt (by omega))).trans ?_
      exact e1
    · have hle : th ≤ nGood th ep cm vs es (m &&& pr) := by omega
      cases hal : al (m &&& pr) with
      | false =>
        rw [hal] at ha
        obtain ⟨op', e1, e2⟩ := step 0 (by omega) (by rw [hOP, hal]; rfl)
        refine ⟨op', ?_, e2⟩
        rw [F_X10_markOpeningSets_L38]
        refine (if_neg hnle).trans ?_
        refine ob hg ?_
        refine (if_neg (nI_nlt hle (by omega))).trans ?_
        rw [q_and]
        refine ob ha ?_
        refine (if_pos (show nI false.toNat = nI 0 from rfl)).trans ?_
        exact e1
      | true =>
        rw [hal] at ha
        obtain ⟨op', e1, e2⟩ := step 1 (by omega) (by rw [hOP, hal, decide_eq_true hle]; rfl)
        refine ⟨op', ?_, e2⟩
        rw [F_X10_markOpeningSets_L38]
        refine (if_neg hnle).trans ?_
        refine ob hg ?_
        refine (if_neg (nI_nlt hle (by omega))).trans ?_
        rw [q_and]
        refine ob ha ?_
        refine (if_neg (show ¬ nI true.toNat = nI 0 by decide)).trans ?_
        exact e1
theorem z_mark2 {pr th ep : Nat} {cm vs es op : Nat → Nat} {rule : Option Nat} {ful : Nat → Int32} (hpr : pr < 256) (ok : okS th ep cm vs es) : ∀ k n j (gs : Nat → Nat), j + k = 8 → k < n → (∀ i, i < j → gs i = gN pr th ep cm vs es i) →
    ∃ gs', F_X10_markOpeningSets_L2 (nI pr) (nI th) (nI ep) rule (L cm) (L vs) (L es) ful n (L gs) (L op) (nI j) = F_X10_markOpeningSets_L38 (nI pr) (nI th) rule ful 1000 (L gs') (L op) (nI 0) ∧ ∀ i, i < 8 → gs' i = gN pr th ep cm vs es i := by
  intro k
  induction k with
  | zero =>
    intro n j gs hj hn hg
    obtain ⟨n, rfl⟩ := z_fuel hn
    refine ⟨gs, ?_, fun i hi => hg i (by omega)⟩
    rw [F_X10_markOpeningSets_L2]
    exact if_pos (show nI 8 ≤ nI j from nI_le (by omega) (by omega))
  | succ k ih =>
    intro n j gs hj hn hg
    obtain ⟨n, rfl⟩ := z_fuel (show 0 < n by omega)
    have hj8 : j < 8 := by omega
    have hnle : ¬ nI 8 ≤ nI j := nI_ge (by omega) (by omega)
    have hc := z_shareCount_ (m := 2 ^ j &&& pr) (x := 0) ok (q_andlt pr (q_m256 j hj8)) (by omega)
    have hgr := cnt_grp (P := GPn th ep cm vs es) hj8 (fun i => (2 ^ j &&& pr).testBit i) (fun i hi hne => by show (2 ^ j &&& pr).testBit i = false; rw [Nat.testBit_and, q_2m j hj8 i hi]; simp [hne])
    have hb : (2 ^ j &&& pr).testBit j = pr.testBit j := by rw [Nat.testBit_and, q_2m j hj8 j hj8]; simp
    simp only [hb] at hgr
    have hc2 : F_X7_shareCount_ (nI th) (nI ep) (L cm) (L vs) (L es) (nI (2 ^ j &&& pr)) (nI 0) = some (nI (gN pr th ep cm vs es j)) := by
      rw [hc]
      exact congrArg (fun x => some (nI x)) hgr
    obtain ⟨gs', e1, e2⟩ := ih n (j + 1) (updN gs j (gN pr th ep cm vs es j)) (by omega) (by omega) (fun i hi => by
      by_cases h : i = j
      · rw [h, uN_s]
      · rw [uN_n _ _ h]; exact hg i (by omega))
    refine ⟨gs', ?_, e2⟩
    rw [F_X10_markOpeningSets_L2]
    refine (if_neg hnle).trans ?_
    have e8 : nI 1 <<< (nI j &&& nI 31) &&& nI pr = nI (2 ^ j &&& pr) := by rw [q_shl1 j hj8, q_and]
    refine ob (show F_X7_shareCount_ (nI th) (nI ep) (L cm) (L vs) (L es) (nI 1 <<< (nI j &&& nI 31) &&& nI pr) (nI 0) = _ by rw [e8]; exact hc2) ?_
    rw [q_gi hj8 (by omega), q_gg, q_gl, q_cl (by omega), L_upd, show nI j + 1 = nI (j + 1) from nI_1 j]
    exact e1
theorem z_mark {pr th ep : Nat} {cm vs es gs op : Nat → Nat} {rule : Option Nat} {ful : Nat → Int32} {al : Nat → Bool} (hpr : pr < 256) (ok : okS th ep cm vs es) (hF : ∀ m, m < 256 → F_X7_allows rule ful (nI m) = some (nI (al m).toNat)) :
    ∃ gs' op', F_X10_markOpeningSets (L gs) (L op) (nI pr) (nI th) (nI ep) rule (L cm) (L vs) (L es) ful = some (L gs', L op') ∧ ∀ q, q < 256 → op' q = (OPn th ep cm vs es pr al q).toNat := by
  obtain ⟨gs', e1, e2⟩ := z_mark2 (op := op) (rule := rule) (ful := ful) hpr ok 8 1000 0 gs (by omega) (by omega) (fun i hi => by omega)
  obtain ⟨op', f1, f2, -⟩ := z_mark38 (th := th) (ep := ep) (cm := cm) (vs := vs) (es := es) hpr ok.1 e2 hF 256 1000 0 op (by omega) (by omega)
  refine ⟨gs', op', ?_, fun q hq => f2 q (by omega) hq⟩
  unfold F_X10_markOpeningSets
  exact e1.trans f1
/-! groups -/
theorem z_grp17 {gs op : Nat → Nat} {OP : Nat → Bool} (ho : ∀ q, q < 256 → op q = (OP q).toNat) : ∀ k n m acc, m + k = 256 → k < n → F_X10_groups_L17 n (L gs) (L op) (nI acc) (nI m) = some (0, nI (acc + cntP OP m k), L gs, L op) := by
  intro k
  induction k with
  | zero =>
    intro n m acc hm hn
    obtain ⟨n, rfl⟩ := z_fuel hn
    rw [F_X10_groups_L17]
    exact if_pos (show nI 256 ≤ nI m from nI_le (by omega) (by omega))
  | succ k ih =>
    intro n m acc hm hn
    obtain ⟨n, rfl⟩ := z_fuel (show 0 < n by omega)
    have hm8 : m < 256 := by omega
    have hnle : ¬ nI 256 ≤ nI m := nI_ge (by omega) (by omega)
    have h1 := ho m hm8
    rw [F_X10_groups_L17]
    refine (if_neg hnle).trans ?_
    rw [q_gi hm8 (by omega), q_gg, q_cl (by omega), L_app, h1, cntP_s, ← Nat.add_assoc]
    unfold F_X10_groups_L39
    rw [show nI m + 1 = nI (m + 1) from nI_1 m]
    cases OP m with
    | false =>
      refine (if_pos (show nI false.toNat = nI 0 from rfl)).trans ?_
      rw [show nI acc + 0 = nI (acc + 0) from nI_add acc 0]
      exact ih n (m + 1) (acc + 0) (by omega) (by omega)
    | true =>
      refine (if_neg (show ¬ nI true.toNat = nI 0 by decide)).trans ?_
      rw [show nI acc + 1 = nI (acc + 1) from nI_1 acc]
      exact ih n (m + 1) (acc + 1) (by omega) (by omega)
theorem z_grp21 {w wt cm vs es : Nat → Nat} {pr s th ep : Nat} {t : Int32} {rule : Option Nat} {ful : Nat → Int32} {al : Nat → Bool} (hs : s < 4) (hH : HW w pr wt) (hR : RS w s th ep cm vs es) (hF : HF w s rule ful al) : ∀ k n m acc (nd : Nat → Nat) (x : Int32), m + k = 256 → k < n → ∃ nd' x', F_X11_groups_L21 (L w) (nI s) n t (L nd) x (nI acc) (nI m) = some (nI (acc + cntP (OPn th ep cm vs es pr al) m k), nI 0, L nd', x') := by
  intro k
  induction k with
  | zero =>
    intro n m acc nd x hm hn
    obtain ⟨n, rfl⟩ := z_fuel hn
    refine ⟨nd, x, ?_⟩
    rw [F_X11_groups_L21]
    refine (if_pos (show nI 256 ≤ nI m from nI_le (by omega) (by omega))).trans ?_
    rfl
  | succ k ih =>
    intro n m acc nd x hm hn
    obtain ⟨n, rfl⟩ := z_fuel (show 0 < n by omega)
    have hm8 : m < 256 := by omega
    have hnle : ¬ nI 256 ≤ nI m := nI_ge (by omega) (by omega)
    obtain ⟨nd1, o1, -⟩ := z_opens (nd := nd) (x := x) hs hH hm8 hR hF
    rw [F_X11_groups_L21, cntP_s, ← Nat.add_assoc]
    unfold F_X11_groups_L45
    cases hO : OPn th ep cm vs es pr al m with
    | false =>
      rw [hO] at o1
      obtain ⟨nd', x', e1⟩ := ih n (m + 1) (acc + 0) nd1 (nI (nGood th ep cm vs es (m &&& pr))) (by omega) (by omega)
      refine ⟨nd', x', ?_⟩
      refine (if_neg hnle).trans ?_
      refine ob o1 ?_
      refine (if_pos (show nI false.toNat = nI 0 from rfl)).trans ?_
      rw [show nI m + 1 = nI (m + 1) from nI_1 m, show nI acc + 0 = nI (acc + 0) from nI_add acc 0]
      exact e1
    | true =>
      rw [hO] at o1
      obtain ⟨nd', x', e1⟩ := ih n (m + 1) (acc + 1) nd1 (nI (nGood th ep cm vs es (m &&& pr))) (by omega) (by omega)
      refine ⟨nd', x', ?_⟩
      refine (if_neg hnle).trans ?_
      refine ob o1 ?_
      refine (if_neg (show ¬ nI true.toNat = nI 0 by decide)).trans ?_
      rw [show nI m + 1 = nI (m + 1) from nI_1 m, show nI acc + 1 = nI (acc + 1) from nI_1 acc]
      exact e1
theorem m_groups {w wt cm vs es nd gs op : Nat → Nat} {s c pr fi th ep : Nat} {t x : Int32} {rule : Option Nat} {ful : Nat → Int32} {al : Nat → Bool} (hs : s < 4) (hH : HW w pr wt) (hR : RSl w s c fi th ep cm vs es) (hF : fi = 1 → HF w s rule ful al) (hS1 : F_X10_checkSlot (nI s) = some 0) (hS2 : F_X11_isSlot (nI s) = some (nI 1)) :
    ∃ e r b k gs' op' nd' nm, F_X10_groups (L gs) (L op) (nI pr) (nI fi) (nI th) (nI ep) rule (L cm) (L vs) (L es) ful (nI s) = some (e, r, L gs', L op') ∧ F_X11_groups t (L w) (L nd) x (nI s) = some (b, k, L nd', nm) ∧ EK [(0, 0), (1, 1), (3, 2)] e k ∧ (e = 0 → r = b) := by
  have hf := hR.1
  have hl := hR.lacks hs hS2
  have hsi := z_secretIn hs hf
  unfold F_X10_groups F_X11_groups
  have hcase : fi = 0 ∨ fi = 1 := by omega
  rcases hcase with rfl | rfl
  · refine ⟨3, 0, 0, nI 2, gs, op, nd, x, ?_, ?_, EK.of (by simp), fun h => by omega⟩
    · refine ob hS1 ?_
      exact ob hsi rfl
    · refine ob hl ?_
      exact if_neg (show ¬ nI 2 = nI 0 by decide)
  · have hRS := hR.2.2.2.2.2.2 rfl
    obtain ⟨gs', op', e1, e2⟩ := z_mark (gs := gs) (op := op) hH.1 hRS.2.1 (fun m hm => (hF rfl m hm).1)
    obtain ⟨nd', x', f1⟩ := z_grp21 (t := t) hs hH hRS (hF rfl) 256 1000 0 0 nd x (by omega) (by omega)
    refine ⟨0, nI (0 + cntP (OPn th ep cm vs es pr al) 0 256), nI (0 + cntP (OPn th ep cm vs es pr al) 0 256), nI 0, gs', op', nd', x', ?_, ?_, EK.of (by simp), fun _ => rfl⟩
    · refine ob hS1 ?_
      refine ob hsi ?_
      refine ob e1 ?_
      exact z_grp17 e2 256 1000 0 0 (by omega) (by omega)
    · refine ob hl ?_
      refine (if_pos rfl).trans ?_
      exact f1
