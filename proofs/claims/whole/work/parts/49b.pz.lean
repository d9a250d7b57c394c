/-! PURE: opening -/
theorem z_taken_L {w wt : Nat → Nat} {pr m : Nat} (hH : HW w pr wt) (hm : m < 256) : ∀ k n j acc, j + k = 8 → k < n → acc < 256 → ∃ r, F_X11_taken_L4 (L w) (nI m) n (nI acc) (nI j) = some (nI r) ∧ r < 256 ∧ ∀ i, i < 8 → r.testBit i = (acc.testBit i || (decide (j ≤ i) && (m.testBit i && pr.testBit i))) := by
  intro k
  induction k with
  | zero =>
    intro n j acc hj hn ha
    obtain ⟨n, rfl⟩ := z_fuel hn
    have h0 : 8 ≤ j := by omega
    refine ⟨acc, ?_, ha, fun i hi => ?_⟩
    · rw [F_X11_taken_L4]
      simp (disch := omega) only [q_lit, q_leI, h0, if_true]
    · have : ¬ j ≤ i := by omega
      simp [this]
  | succ k ih =>
    intro n j acc hj hn ha
    obtain ⟨n, rfl⟩ := z_fuel (show 0 < n by omega)
    have h0 : ¬ 8 ≤ j := by omega
    have hj8 : j < 8 := by omega
    have hp := q_m256 j hj8
    rw [F_X11_taken_L4]
    unfold F_X11_taken_L34 F_X11_taken_L35
    simp (disch := omega) only [q_lit, q_leI, h0, if_false, q_bit, hH.pres hj8, Option.bind_some, q_b0, nI_add, q_or, q_shl1 j hj8]
    obtain ⟨r1, a1, a2, a3⟩ := ih n (j + 1) (acc ||| 0) (by omega) (by omega) (by rw [Nat.or_zero]; exact ha)
    obtain ⟨r2, b1, b2, b3⟩ := ih n (j + 1) (acc ||| 2 ^ j) (by omega) (by omega) (q_orlt ha hp)
    rw [a1, b1]
    rw [Nat.or_zero] at a3
    cases h1 : m.testBit j with
    | false =>
      refine ⟨r1, by simp, a2, fun i hi => ?_⟩
      rw [a3 i hi]
      by_cases e : i = j
      · subst e
        simp [h1]
      · have : decide (j + 1 ≤ i) = decide (j ≤ i) := decide_eq_decide.mpr (by omega)
        rw [this]
    | true =>
      cases h2 : pr.testBit j with
      | false =>
        refine ⟨r1, by simp, a2, fun i hi => ?_⟩
        rw [a3 i hi]
        by_cases e : i = j
        · subst e
          simp [h1, h2]
        · have : decide (j + 1 ≤ i) = decide (j ≤ i) := decide_eq_decide.mpr (by omega)
          rw [this]
      | true =>
        refine ⟨r2, by simp, b2, fun i hi => ?_⟩
        rw [b3 i hi, Nat.testBit_or, q_2m j hj8 i hi]
        by_cases e : i = j
        · subst e
          simp [h1, h2]
        · have : decide (j + 1 ≤ i) = decide (j ≤ i) := decide_eq_decide.mpr (by omega)
          rw [this]
          simp [e]
theorem z_taken {w wt : Nat → Nat} {pr m : Nat} (hH : HW w pr wt) (hm : m < 256) : F_X11_taken (L w) (nI m) = some (nI (m &&& pr)) := by
  obtain ⟨r, h1, h2, h3⟩ := z_taken_L hH hm 8 1000 0 0 (by omega) (by omega) (by omega)
  unfold F_X11_taken
  simp only [q_lit]
  rw [h1, q_bitD h2 (q_andlt pr hm) (fun i hi => by rw [h3 i hi, Nat.testBit_and]; simp)]
/-- what both sides say of a policy -/
def HF (w : Nat → Nat) (s : Nat) (rule : Option Nat) (ful : Nat → Int32) (al : Nat → Bool) : Prop := ∀ m, m < 256 → F_X7_allows rule ful (nI m) = some (nI (al m).toNat) ∧ F_X11_fulfilled (L w) (nI s) (nI m) = some (nI (al m).toNat)
def nGood (th ep : Nat) (cm vs es : Nat → Nat) (m : Nat) : Nat := cntP (chP th ep cm vs es m true) 1 24
def OPn (th ep : Nat) (cm vs es : Nat → Nat) (pr : Nat) (al : Nat → Bool) (m : Nat) : Bool := al (m &&& pr) && decide (th ≤ nGood th ep cm vs es (m &&& pr))
theorem nGood_le {th ep : Nat} {cm vs es : Nat → Nat} {m : Nat} : nGood th ep cm vs es m ≤ 24 := cntP_le _ 24 1
theorem z_opens {w wt cm vs es nd : Nat → Nat} {pr m s th ep : Nat} {x : Int32} {rule : Option Nat} {ful : Nat → Int32} {al : Nat → Bool} (hs : s < 4) (hH : HW w pr wt) (hm : m < 256) (hR : RS w s th ep cm vs es) (hF : HF w s rule ful al) :
    ∃ nd', F_X11_opens (L w) (L nd) x (nI s) (nI m) = some (nI (OPn th ep cm vs es pr al m).toNat, L nd', nI (nGood th ep cm vs es (m &&& pr))) ∧ ∀ i, i < nGood th ep cm vs es (m &&& pr) → nd' i = (S_nodes (chP th ep cm vs es (m &&& pr) true) 1 24).getD i 0 := by
  have hmp := q_andlt pr hm
  have hth := hR.2.1.1
  have hng := @nGood_le th ep cm vs es (m &&& pr)
  obtain ⟨nd', h1, h2⟩ := z_tellNodes hs hR hmp true nd x
  rw [S_nodes_len] at h1 h2
  rw [show cntP (chP th ep cm vs es (m &&& pr) true) 1 24 = nGood th ep cm vs es (m &&& pr) from rfl] at h1 h2
  refine ⟨nd', ?_, h2⟩
  have h3 := (hF _ hmp).2
  rw [show nI true.toNat = nI 1 from rfl] at h1
  unfold F_X11_opens F_X11_opens_L39 F_X11_opens_L40 OPn
  rw [z_taken hH hm]
  simp only [Option.bind_some, q_lit]
  rw [h1]
  simp only [Option.bind_some]
  rw [h3]
  simp (disch := omega) only [Option.bind_some, q_b0, hR.k hs, q_ltI, q_nar0, q_nar1, q_gg]
  cases al (m &&& pr) with
  | false => simp
  | true =>
    by_cases h : nGood th ep cm vs es (m &&& pr) < th
    · have h4 : ¬ th ≤ nGood th ep cm vs es (m &&& pr) := by omega
      simp [h, h4]
    · have h4 : th ≤ nGood th ep cm vs es (m &&& pr) := by omega
      simp [h, h4]
/-! the report -/
theorem z_add {n a b : Nat} {rc rd : Nat → Nat} (h : n < 26) : F_X6_add (nI n) (L rc) (L rd) (nI a) (nI b) = some (nI (n + 1), L (updN rc n a), L (updN rd n b)) := by
  have h0 : ¬ 26 ≤ n := by omega
  unfold F_X6_add F_X6_add_L42
  simp (disch := omega) only [q_lit, q_leI, h0, if_false, q_gi, q_gg, q_gl, q_cl, L_upd, nI_add]
theorem z_begin {n b : Nat} {rc rd : Nat → Nat} : F_X6_begin (nI n) (L rc) (L rd) (nI b) = some (nI 1, L (updN rc 0 1), L (updN rd 0 b)) := by
  unfold F_X6_begin
  simp only [q_lit]
  rw [z_add (by omega)]
  rfl
theorem z_level {n a b : Nat} {cd dt : Nat → Nat} (h : n < 30) : F_X11_level (L cd) (L dt) (nI n) (nI a) (nI b) = some (L (updN cd n a), L (updN dt n b), nI (n + 1)) := by
  unfold F_X11_level
  simp (disch := omega) only [q_lit, q_gi, q_gg, q_gl, q_cl, L_upd, nI_add]
/-- the report, as both sides hold it -/
def RRep (n : Nat) (rc rd cd dt : Nat → Nat) : Prop := n ≤ 26 ∧ ∀ i, i < n → rc i = cd i ∧ rd i = dt i
theorem RRep.add {n a b : Nat} {rc rd cd dt : Nat → Nat} (h : RRep n rc rd cd dt) (hn : n < 26) : RRep (n + 1) (updN rc n a) (updN rd n b) (updN cd n a) (updN dt n b) := by
  refine ⟨by omega, fun i hi => ?_⟩
  by_cases e : i = n
  · subst e
    rw [uN_s, uN_s, uN_s, uN_s]
    exact ⟨rfl, rfl⟩
  · rw [uN_n _ _ e, uN_n _ _ e, uN_n _ _ e, uN_n _ _ e]
    exact h.2 i (by omega)
theorem z_rep_L {w cm vs es : Nat → Nat} {s th ep m : Nat} {nd : Nat → Nat} {x : Int32} (hs : s < 4) (hR : RS w s th ep cm vs es) (hm : m < 256) : ∀ k n p lv (rc rd cd dt : Nat → Nat), p + k = 25 → 1 ≤ p → k < n → lv + k ≤ 26 → RRep lv rc rd cd dt →
    ∃ lv' rc' rd' cd' dt', F_X10_reportBadShares_L2 (nI th) (nI ep) (L cm) (L vs) (L es) (nI m) n (nI lv) (L rc) (L rd) (nI p) = some (nI lv', L rc', L rd') ∧ F_X11_reports_L59 (L w) (nI s) n (L nd) x (L cd) (L dt) (nI lv) (nI m) (nI p) = some (L nd, x, L cd', L dt', nI lv') ∧ RRep lv' rc' rd' cd' dt' := by
  intro k
  induction k with
  | zero =>
    intro n p lv rc rd cd dt hp h1 hn hlv hRR
    obtain ⟨n, rfl⟩ := z_fuel hn
    have h0 : 24 < p := by omega
    refine ⟨lv, rc, rd, cd, dt, ?_, ?_, hRR⟩
    · rw [F_X10_reportBadShares_L2]
      simp (disch := omega) only [q_lit, q_ltI, h0, if_true]
    · rw [F_X11_reports_L59]
      simp (disch := omega) only [q_lit, q_ltI, h0, if_true]
  | succ k ih =>
    intro n p lv rc rd cd dt hp h1 hn hlv hRR
    obtain ⟨n, rfl⟩ := z_fuel (show 0 < n by omega)
    have h0 : ¬ 24 < p := by omega
    have h24 : p ≤ 24 := by omega
    have he := hR.2.1.2.2.2.2 p h24
    have hst := @S_state_lt cm th ep (vs p) (es p) p
    rw [F_X10_reportBadShares_L2, F_X11_reports_L59]
    unfold F_X10_reportBadShares_L54 F_X10_reportBadShares_L58 F_X11_reports_L114
    simp (disch := omega) only [q_lit, q_ltI, h0, if_false, z_ownerOf, z_owner, z_contains, z_holds, q_bit, hR.2.1.st h24, hR.1.has hs h1 h24, hR.st hs h1 h24, Option.bind_some, q_b0, q_eqI, nI_add, z_add, z_level]
    obtain ⟨l1, a1, a2, a3, a4, i1, i2, i3⟩ := ih n (p + 1) lv rc rd cd dt (by omega) (by omega) (by omega) (by omega) hRR
    have j1 := fun a => ih n (p + 1) (lv + 1) (updN rc lv a) (updN rd lv p) (updN cd lv a) (updN dt lv p) (by omega) (by omega) (by omega) (by omega) (hRR.add (by omega))
    cases hb : m.testBit ((p - 1) / 3) with
    | false =>
      simp only [if_true, Bool.false_eq_true, if_false]
      exact ⟨l1, a1, a2, a3, a4, i1, i2, i3⟩
    | true =>
      simp only [Bool.true_eq_false, if_false, if_true]
      by_cases h2 : decide (es p ≠ 0) = false
      · simp only [h2, if_true]
        exact ⟨l1, a1, a2, a3, a4, i1, i2, i3⟩
      · simp only [h2, if_false]
        have h012 : S_state th ep cm (vs p) (es p) p = 0 ∨ S_state th ep cm (vs p) (es p) p = 1 ∨ S_state th ep cm (vs p) (es p) p = 2 := by omega
        rcases h012 with h3 | h3 | h3
        · simp only [h3, if_true]
          exact ⟨l1, a1, a2, a3, a4, i1, i2, i3⟩
        · have e1 : ¬ (1 : Nat) = 0 := by omega
          simp only [h3, e1, if_false, if_true]
          exact j1 4
        · have e1 : ¬ (2 : Nat) = 0 := by omega
          have e2 : ¬ (2 : Nat) = 1 := by omega
          simp only [h3, e1, e2, if_false]
          exact j1 5
/-- opening as a part of a call: it goes, and both have the same places -/
theorem z_lack_ok {w wt cm vs es nd ch rc rd cd dt : Nat → Nat} {pr m s th ep rs : Nat} {x : Int32} {rule : Option Nat} {ful : Nat → Int32} {al : Nat → Bool} {c : Nat} (hs : s < 4) (hH : HW w pr wt) (hm : m < 256) (hRl : RSl w s c 1 th ep cm vs es) (hF : HF w s rule ful al) (hS2 : F_X11_isSlot (nI s) = some (nI 1)) (hSet : F_X11_isSet (nI m) = some (nI 1)) (hO : OPn th ep cm vs es pr al m = true) :
    ∃ ch' nd' nm, F_X10_chooseForOpening (L ch) (nI pr) (nI th) (nI ep) rule (L cm) (L vs) (L es) (nI rs) (L rc) (L rd) ful (nI s) (nI m) = some (0, L ch', nI rs, L rc, L rd) ∧ F_X11_lacksOpen (L w) (L nd) x (L cd) (L dt) (nI rs) (nI s) (nI m) = some (nI 0, L nd', nI nm, L cd, L dt, nI rs) ∧ ∀ i, i < th → ch' i = nd' i ∧ 1 ≤ nd' i ∧ nd' i ≤ 24 ∧ chP th ep cm vs es (m &&& pr) true (nd' i) = true := by
  have hR := hRl.2.2.2.2.2.2 rfl
  have hmp := q_andlt pr hm
  have hth := hR.2.1.1
  have hng := @nGood_le th ep cm vs es (m &&& pr)
  obtain ⟨nd', h1, h2⟩ := z_opens (nd := nd) (x := x) hs hH hm hR hF
  obtain ⟨ch', g1, g2⟩ := z_choose hR.2.1 hmp true ch
  rw [S_nodes_len] at g1 g2
  rw [show cntP (chP th ep cm vs es (m &&& pr) true) 1 24 = nGood th ep cm vs es (m &&& pr) from rfl] at g1 g2
  have hO2 := hO
  unfold OPn at hO2
  rw [Bool.and_eq_true, decide_eq_true_eq] at hO2
  have ha := (hF _ hmp).1
  rw [hO2.1] at ha
  rw [show nI true.toNat = nI 1 from rfl] at ha g1
  have hmin : min th (nGood th ep cm vs es (m &&& pr)) = th := by omega
  rw [hmin] at g1
  have n10 : ¬ nI 1 = nI 0 := by decide
  refine ⟨ch', nd', nGood th ep cm vs es (m &&& pr), ?_, ?_, fun i hi => ?_⟩
  · unfold F_X10_chooseForOpening
    rw [q_and, ha]
    simp only [Option.bind_some, q_lit, n10, if_false]
    rw [g1]
    simp (disch := omega) only [Option.bind_some, q_leI, Nat.le_refl, if_true]
  · unfold F_X11_lacksOpen
    simp only [q_lit, hS2, hSet, hRl.has hs, Option.bind_some, n10, if_false]
    rw [h1, hO]
    simp only [Option.bind_some]
    exact if_neg (show ¬ nI true.toNat = nI 0 by decide)
  · have hi2 : i < nGood th ep cm vs es (m &&& pr) := by omega
    have hin := S_nodes_in (chP th ep cm vs es (m &&& pr) true) 24 1 i (by rw [S_nodes_len]; exact hi2)
    have hsat : ∀ k s i, i < (S_nodes (chP th ep cm vs es (m &&& pr) true) s k).length → chP th ep cm vs es (m &&& pr) true ((S_nodes (chP th ep cm vs es (m &&& pr) true) s k).getD i 0) = true := by
      intro k
      induction k with
      | zero => intro s i h; exact absurd h (Nat.not_lt_zero _)
      | succ k ihk =>
        intro s i h
        rw [S_nodes_s] at h ⊢
        by_cases hP : chP th ep cm vs es (m &&& pr) true s = true
        · rw [if_pos hP] at h ⊢
          cases i with
          | zero => rw [List.getD_cons_zero]; exact hP
          | succ i => rw [List.getD_cons_succ]; exact ihk (s + 1) i (by simpa using h)
        · rw [if_neg hP] at h ⊢
          exact ihk (s + 1) i h
    have hs2 := hsat 24 1 i (by rw [S_nodes_len]; exact hi2)
    rw [g2 i hi hi2, h2 i hi2]
    exact ⟨rfl, by omega, by omega, hs2⟩
theorem z_lack_nf {w wt cm vs es nd ch rc rd cd dt : Nat → Nat} {pr m s th ep rs : Nat} {x : Int32} {rule : Option Nat} {ful : Nat → Int32} {al : Nat → Bool} {c : Nat} (hs : s < 4) (hH : HW w pr wt) (hm : m < 256) (hRl : RSl w s c 1 th ep cm vs es) (hF : HF w s rule ful al) (hS2 : F_X11_isSlot (nI s) = some (nI 1)) (hSet : F_X11_isSet (nI m) = some (nI 1)) (hO : OPn th ep cm vs es pr al m = false) (hal : al (m &&& pr) = false) :
    ∃ ch' nd' nm rs' rc' rd' cd' dt', F_X10_chooseForOpening (L ch) (nI pr) (nI th) (nI ep) rule (L cm) (L vs) (L es) (nI rs) (L rc) (L rd) ful (nI s) (nI m) = some (4, L ch', nI rs', L rc', L rd') ∧ F_X11_lacksOpen (L w) (L nd) x (L cd) (L dt) (nI rs) (nI s) (nI m) = some (nI 4, L nd', nI nm, L cd', L dt', nI rs') ∧ RRep rs' rc' rd' cd' dt' := by
  have hR := hRl.2.2.2.2.2.2 rfl
  have hmp := q_andlt pr hm
  have hth := hR.2.1.1
  have hng := @nGood_le th ep cm vs es (m &&& pr)
  obtain ⟨nd', h1, -⟩ := z_opens (nd := nd) (x := x) hs hH hm hR hF
  obtain ⟨ch', g1, -⟩ := z_choose hR.2.1 hmp true ch
  obtain ⟨nd2, k1, -⟩ := z_tellNodes hs hR hmp true nd' (nI (nGood th ep cm vs es (m &&& pr)))
  rw [S_nodes_len] at g1 k1
  rw [show cntP (chP th ep cm vs es (m &&& pr) true) 1 24 = nGood th ep cm vs es (m &&& pr) from rfl] at g1 k1
  rw [show nI true.toNat = nI 1 from rfl] at g1 k1
  have n10 : ¬ nI 1 = nI 0 := by decide
  have r0 : RRep 1 (updN rc 0 1) (updN rd 0 s) (updN cd 0 1) (updN dt 0 s) := RRep.add (n := 0) ⟨by omega, fun i hi => by omega⟩ (by omega)
  have ha := hF _ hmp
  rw [hal, show nI false.toNat = nI 0 from rfl] at ha
  refine ⟨ch, nd', nGood th ep cm vs es (m &&& pr), 2, _, _, _, _, ?_, ?_, r0.add (a := 2) (b := m &&& pr) (by omega)⟩
  · unfold F_X10_chooseForOpening
    rw [q_and, ha.1]
    simp only [Option.bind_some, q_lit, if_true]
    rw [z_begin]
    simp only [Option.bind_some]
    rw [z_add (by omega)]
    rfl
  · unfold F_X11_lacksOpen F_X11_reports
    simp only [q_lit, hS2, hSet, hRl.has hs, Option.bind_some, n10, if_false]
    rw [h1, hO]
    simp only [Option.bind_some]
    refine (if_pos (show nI false.toNat = nI 0 from rfl)).trans ?_
    rw [z_taken hH hm]
    simp only [Option.bind_some]
    rw [z_level (n := 0) (by omega)]
    simp only [Option.bind_some]
    rw [ha.2]
    simp only [Option.bind_some, if_true]
    rw [z_level (by omega)]
    rfl
theorem ob {α β : Type} {o : Option α} {f : α → Option β} {x : α} {v : Option β} (h1 : o = some x) (h2 : f x = v) : o.bind f = v := by
  rw [h1]
  exact h2
set_option maxHeartbeats 40000 in
theorem z_reports {w wt cm vs es nd cd dt nd2 cd' dt' : Nat → Nat} {pr m s th ep N lv' : Nat} {x rs : Int32} (hs : s < 4) (hH : HW w pr wt) (hm : m < 256) (hR : RS w s th ep cm vs es) (ha : F_X11_fulfilled (L w) (nI s) (nI (m &&& pr)) = some (nI 1)) (hN : N < th) (k1 : F_X11_tellNodes (L w) (L nd) x (nI s) (nI (m &&& pr)) (nI 1) = some (L nd2, nI N))
    (b2 : F_X11_reports_L59 (L w) (nI s) 1000 (L nd2) (nI N) (L (updN (updN cd 0 1) 1 3)) (L (updN (updN dt 0 s) 1 (th - N))) (nI (1 + 1)) (nI (m &&& pr)) (nI 1) = some (L nd2, nI N, L cd', L dt', nI lv')) :
    F_X11_reports (L w) (L nd) x (L cd) (L dt) rs (nI s) (nI m) = some (L nd2, nI N, L cd', L dt', nI lv') := by
  have n10 : ¬ nI 1 = nI 0 := by decide
  have e1 : F_X11_level (L cd) (L dt) (nI 0) (nI 1) (nI s) = some (L (updN cd 0 1), L (updN dt 0 s), nI 1) := z_level (by omega)
  have e5 : F_X11_level (L (updN cd 0 1)) (L (updN dt 0 s)) (nI 1) (nI 3) (nI th - nI N) = some (L (updN (updN cd 0 1) 1 3), L (updN (updN dt 0 s) 1 (th - N)), nI (1 + 1)) := by
    rw [pk_sub (by omega)]
    exact z_level (by omega)
  unfold F_X11_reports
  refine ob (z_taken hH hm) ?_
  refine ob e1 ?_
  refine ob ha ?_
  refine (if_neg n10).trans ?_
  refine ob k1 ?_
  refine ob (hR.k hs) ?_
  refine ob e5 ?_
  exact b2
theorem z_lack_nt {w wt cm vs es nd ch rc rd cd dt : Nat → Nat} {pr m s th ep rs : Nat} {x : Int32} {rule : Option Nat} {ful : Nat → Int32} {al : Nat → Bool} {c : Nat} (hs : s < 4) (hH : HW w pr wt) (hm : m < 256) (hRl : RSl w s c 1 th ep cm vs es) (hF : HF w s rule ful al) (hS2 : F_X11_isSlot (nI s) = some (nI 1)) (hSet : F_X11_isSet (nI m) = some (nI 1)) (hO : OPn th ep cm vs es pr al m = false) (hal : al (m &&& pr) = true) :
    ∃ ch' nd' nm rs' rc' rd' cd' dt', F_X10_chooseForOpening (L ch) (nI pr) (nI th) (nI ep) rule (L cm) (L vs) (L es) (nI rs) (L rc) (L rd) ful (nI s) (nI m) = some (4, L ch', nI rs', L rc', L rd') ∧ F_X11_lacksOpen (L w) (L nd) x (L cd) (L dt) (nI rs) (nI s) (nI m) = some (nI 4, L nd', nI nm, L cd', L dt', nI rs') ∧ RRep rs' rc' rd' cd' dt' := by
  have hR := hRl.2.2.2.2.2.2 rfl
  have hmp := q_andlt pr hm
  have hth := hR.2.1.1
  have hng := @nGood_le th ep cm vs es (m &&& pr)
  obtain ⟨nd', h1, -⟩ := z_opens (nd := nd) (x := x) hs hH hm hR hF
  obtain ⟨ch', g1, -⟩ := z_choose hR.2.1 hmp true ch
  obtain ⟨nd2, k1, -⟩ := z_tellNodes hs hR hmp true nd' (nI (nGood th ep cm vs es (m &&& pr)))
  rw [S_nodes_len] at g1 k1
  rw [show cntP (chP th ep cm vs es (m &&& pr) true) 1 24 = nGood th ep cm vs es (m &&& pr) from rfl] at g1 k1
  rw [show nI true.toNat = nI 1 from rfl] at g1 k1
  have n10 : ¬ nI 1 = nI 0 := by decide
  have r0 : RRep 1 (updN rc 0 1) (updN rd 0 s) (updN cd 0 1) (updN dt 0 s) := RRep.add (n := 0) ⟨by omega, fun i hi => by omega⟩ (by omega)
  have ha := hF _ hmp
  rw [hal, show nI true.toNat = nI 1 from rfl] at ha
  have hlt : nGood th ep cm vs es (m &&& pr) < th := by
    unfold OPn at hO
    rw [hal, Bool.true_and] at hO
    have := of_decide_eq_false hO
    omega
  have hmin : min th (nGood th ep cm vs es (m &&& pr)) = nGood th ep cm vs es (m &&& pr) := by omega
  have hnle : ¬ th ≤ nGood th ep cm vs es (m &&& pr) := by omega
  rw [hmin] at g1
  have r1 := r0.add (a := 3) (b := th - nGood th ep cm vs es (m &&& pr)) (by omega)
  obtain ⟨lv', a1, a2, a3, a4, b1, b2, b3⟩ := z_rep_L (nd := nd2) (x := nI (nGood th ep cm vs es (m &&& pr))) hs hR hmp 24 1000 1 (1 + 1) _ _ _ _ (by omega) (by omega) (by omega) (by omega) r1
  refine ⟨ch', nd2, nGood th ep cm vs es (m &&& pr), lv', a1, a2, a3, a4, ?_, ?_, b3⟩
  · unfold F_X10_chooseForOpening F_X10_reportBadShares
    rw [q_and, ha.1]
    simp only [Option.bind_some, q_lit, n10, if_false]
    rw [g1]
    simp (disch := omega) only [Option.bind_some, q_leI, hnle, if_false, pk_sub]
    rw [z_begin]
    simp only [Option.bind_some]
    rw [z_add (by omega)]
    simp only [Option.bind_some]
    rw [b1]
    rfl
  · have hr := z_reports (rs := nI rs) hs hH hm hR ha.2 hlt k1 b2
    unfold F_X11_lacksOpen
    simp only [q_lit, hS2, hSet, hRl.has hs, Option.bind_some, n10, if_false]
    rw [h1, hO]
    simp only [Option.bind_some]
    refine (if_pos (show nI false.toNat = nI 0 from rfl)).trans ?_
    rw [hr]
    rfl
theorem z_lack_no {w wt cm vs es nd ch rc rd cd dt : Nat → Nat} {pr m s th ep rs : Nat} {x : Int32} {rule : Option Nat} {ful : Nat → Int32} {al : Nat → Bool} {c : Nat} (hs : s < 4) (hH : HW w pr wt) (hm : m < 256) (hRl : RSl w s c 1 th ep cm vs es) (hF : HF w s rule ful al) (hS2 : F_X11_isSlot (nI s) = some (nI 1)) (hSet : F_X11_isSet (nI m) = some (nI 1)) (hO : OPn th ep cm vs es pr al m = false) :
    ∃ ch' nd' nm rs' rc' rd' cd' dt', F_X10_chooseForOpening (L ch) (nI pr) (nI th) (nI ep) rule (L cm) (L vs) (L es) (nI rs) (L rc) (L rd) ful (nI s) (nI m) = some (4, L ch', nI rs', L rc', L rd') ∧ F_X11_lacksOpen (L w) (L nd) x (L cd) (L dt) (nI rs) (nI s) (nI m) = some (nI 4, L nd', nI nm, L cd', L dt', nI rs') ∧ RRep rs' rc' rd' cd' dt' := by
  cases hal : al (m &&& pr) with
  | false => exact z_lack_nf hs hH hm hRl hF hS2 hSet hO hal
  | true => exact z_lack_nt hs hH hm hRl hF hS2 hSet hO hal
