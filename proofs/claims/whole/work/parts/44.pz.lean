/-! PURE: dealing and refreshing -/
theorem z_dropShares_L : ∀ k n p (vs es : Nat → Nat), p + k = 25 → k < n → ∃ vs' es', F_X7_dropShares_L2 n (L vs) (L es) (nI p) = some (L vs', L es') ∧ (∀ q, p ≤ q → q ≤ 24 → vs' q = 0 ∧ es' q = 0) ∧ ∀ q, q < p → vs' q = vs q ∧ es' q = es q := by
  intro k
  induction k with
  | zero =>
    intro n p vs es hp hn
    obtain ⟨n, rfl⟩ := z_fuel hn
    have h0 : 24 < p := by omega
    refine ⟨vs, es, ?_, fun q h1 h2 => by omega, fun q _ => ⟨rfl, rfl⟩⟩
    rw [F_X7_dropShares_L2]
    simp (disch := omega) only [q_lit, q_ltI, h0, if_true]
  | succ k ih =>
    intro n p vs es hp hn
    obtain ⟨n, rfl⟩ := z_fuel (show 0 < n by omega)
    have h0 : ¬ 24 < p := by omega
    obtain ⟨a, b, e1, e2, e3⟩ := ih n (p + 1) (updN vs p 0) (updN es p 0) (by omega) (by omega)
    refine ⟨a, b, ?_, fun q h1 h2 => ?_, fun q h1 => ?_⟩
    · rw [F_X7_dropShares_L2]
      simp (disch := omega) only [q_lit, q_ltI, h0, if_false, z_drop, Option.bind_some, nI_add]
      exact e1
    · by_cases hq : q = p
      · subst hq
        have := e3 q (by omega)
        rw [this.1, this.2, uN_s, uN_s]
        exact ⟨rfl, rfl⟩
      · exact e2 q (by omega) h2
    · have := e3 q (by omega)
      rw [this.1, this.2, uN_n _ _ (by omega), uN_n _ _ (by omega)]
      exact ⟨rfl, rfl⟩
theorem z_dropShares (vs es : Nat → Nat) : ∃ vs' es', F_X7_dropShares (L vs) (L es) = some (L vs', L es') ∧ (∀ q, 1 ≤ q → q ≤ 24 → vs' q = 0 ∧ es' q = 0) ∧ vs' 0 = vs 0 ∧ es' 0 = es 0 := by
  obtain ⟨a, b, e1, e2, e3⟩ := z_dropShares_L 24 1000 1 vs es (by omega) (by omega)
  exact ⟨a, b, e1, e2, (e3 0 (by omega)).1, (e3 0 (by omega)).2⟩
theorem z_deal59 {pr th e : Nat} {wt co : Nat → Nat} {z thI epI : Int32} {cmI : Nat → Int32} (hpr : pr < 256) (hw : ∀ m, m < 8 → wt m < 4) (hth : th ≤ 8) (hc : ∀ j, j < th → co j < 1019) : ∀ k n p acc (vs es : Nat → Nat), p + k = 25 → 1 ≤ p → k < n →
    ∃ vs' es', F_X10_deal_L59 (nI pr) (L wt) (nI th) (nI e) n (L co) z thI epI cmI (L vs) (L es) (nI acc) (nI p) = some (nI (acc + cntP (dealt pr wt) p k), L co, z, thI, epI, cmI, L vs', L es') ∧ (∀ q, p ≤ q → q ≤ 24 → vs' q = (if dealt pr wt q = true then S_pol co q th 0 else vs q) ∧ es' q = (if dealt pr wt q = true then e else es q)) ∧ ∀ q, q < p → vs' q = vs q ∧ es' q = es q := by
  intro k
  induction k with
  | zero =>
    intro n p acc vs es hp h1 hn
    obtain ⟨n, rfl⟩ := z_fuel hn
    have h0 : 24 < p := by omega
    refine ⟨vs, es, ?_, fun q h1 h2 => by omega, fun q _ => ⟨rfl, rfl⟩⟩
    rw [F_X10_deal_L59]
    simp (disch := omega) only [q_lit, q_ltI, h0, if_true]
    rfl
  | succ k ih =>
    intro n p acc vs es hp h1 hn
    obtain ⟨n, rfl⟩ := z_fuel (show 0 < n by omega)
    have h0 : ¬ 24 < p := by omega
    rw [F_X10_deal_L59]
    unfold F_X10_deal_L99
    simp (disch := omega) only [q_lit, q_ltI, h0, if_false, z_isDealtTo h1 (show p ≤ 24 by omega) hpr hw, Option.bind_some, q_b0, z_polyAt (show p ≤ 24 by omega) hth hc, z_give, nI_add]
    cases hd : dealt pr wt p with
    | false =>
      obtain ⟨a, b, e1, e2, e3⟩ := ih n (p + 1) acc vs es (by omega) (by omega) (by omega)
      refine ⟨a, b, ?_, fun q h1 h2 => ?_, fun q h1 => e3 q (by omega)⟩
      · rw [if_pos rfl, e1]
        simp [cntP, hd]
      · by_cases hq : q = p
        · subst hq
          rw [(e3 q (by omega)).1, (e3 q (by omega)).2, hd]
          simp
        · exact e2 q (by omega) h2
    | true =>
      obtain ⟨a, b, e1, e2, e3⟩ := ih n (p + 1) (acc + 1) (updN vs p (S_pol co p th 0)) (updN es p e) (by omega) (by omega) (by omega)
      refine ⟨a, b, ?_, fun q h1 h2 => ?_, fun q h1 => ?_⟩
      · rw [if_neg (by simp), e1]
        simp [cntP, hd, Nat.add_assoc]
      · by_cases hq : q = p
        · subst hq
          rw [(e3 q (by omega)).1, (e3 q (by omega)).2, hd, uN_s, uN_s]
          simp
        · have := e2 q (by omega) h2
          rw [this.1, this.2, uN_n _ _ hq, uN_n _ _ hq]
          exact ⟨rfl, rfl⟩
      · rw [(e3 q (by omega)).1, (e3 q (by omega)).2, uN_n _ _ (by omega), uN_n _ _ (by omega)]
        exact ⟨rfl, rfl⟩
theorem z_deal20 {pr th e : Nat} {wt co vs es : Nat → Nat} {z thI epI : Int32} (hpr : pr < 256) (hw : ∀ m, m < 8 → wt m < 4) (hth : th ≤ 8) (hc : ∀ j, j < th → co j < 1019) : ∀ k n j (cm : Nat → Nat), j + k = th → k < n →
    ∃ cm' vs' es', F_X10_deal_L20 (nI pr) (L wt) (nI th) (nI e) n (L co) z thI epI (L cm) (L vs) (L es) (nI j) = some (nI (cntP (dealt pr wt) 1 24), L co, z, thI, epI, L cm', L vs', L es') ∧ (∀ i, cm' i = if j ≤ i ∧ i < th then 4 ^ co i % 2039 else cm i) ∧ (∀ q, 1 ≤ q → q ≤ 24 → vs' q = (if dealt pr wt q = true then S_pol co q th 0 else 0) ∧ es' q = (if dealt pr wt q = true then e else 0)) ∧ vs' 0 = vs 0 ∧ es' 0 = es 0 := by
  intro k
  induction k with
  | zero =>
    intro n j cm hj hn
    obtain ⟨n, rfl⟩ := z_fuel hn
    have h0 : th ≤ j := by omega
    obtain ⟨a, b, e1, e2, e3, e4⟩ := z_dropShares vs es
    obtain ⟨a2, b2, f1, f2, f3⟩ := z_deal59 (e := e) (z := z) (thI := thI) (epI := epI) (cmI := L cm) hpr hw hth hc 24 1000 1 0 a b (by omega) (by omega) (by omega)
    rw [Nat.zero_add] at f1
    refine ⟨cm, a2, b2, ?_, fun i => ?_, fun q h1 h2 => ?_, ?_, ?_⟩
    · rw [F_X10_deal_L20]
      simp (disch := omega) only [q_lit, q_leI, h0, if_true, e1, Option.bind_some]
      exact f1
    · rw [if_neg (by omega)]
    · have := f2 q h1 h2
      rw [(e2 q h1 h2).1, (e2 q h1 h2).2] at this
      exact this
    · rw [(f3 0 (by omega)).1, e3]
    · rw [(f3 0 (by omega)).2, e4]
  | succ k ih =>
    intro n j cm hj hn
    obtain ⟨n, rfl⟩ := z_fuel (show 0 < n by omega)
    have h0 : ¬ th ≤ j := by omega
    have h1 := hc j (by omega)
    obtain ⟨a, b, c, e1, e2, e3⟩ := ih n (j + 1) (updN cm j (4 ^ co j % 2039)) (by omega) (by omega)
    refine ⟨a, b, c, ?_, fun i => ?_, e3⟩
    · rw [F_X10_deal_L20]
      simp (disch := omega) only [q_lit, q_leI, h0, if_false, q_gi, q_gg, q_gl, q_cl, L_app, z_commitmentTo, Option.bind_some, L_upd, nI_add]
      exact e1
    · rw [e2 i]
      by_cases hi : i = j
      · subst hi
        rw [if_neg (by omega), uN_s, if_pos (by omega)]
      · rw [uN_n _ _ hi]
        by_cases h5 : j + 1 ≤ i ∧ i < th
        · rw [if_pos h5, if_pos (by omega)]
        · rw [if_neg h5, if_neg (by omega)]
theorem S_dr0_lt {th a : Nat} (z : Int32) (co : Nat → Nat) (ha : a < 1019) : ∀ j, j < th → (S_dr0 th a z co).2 j < 1019 := by
  intro j hj
  refine (S_drw_ok (th - 1) 1 z (updN co 0 a) (fun i hi => ?_)).1 j (by omega)
  rw [show i = 0 by omega, uN_s]
  exact ha
theorem S_dr0_eq {th a : Nat} (z : Int32) (co co' : Nat → Nat) (ha : a < 1019) : ∀ j, j < th → (S_dr0 th a z co).2 j = (S_dr0 th a z co').2 j := by
  intro j hj
  refine (S_drw_ok (th - 1) 1 z (updN co 0 a) (fun i hi => ?_)).2.2 (updN co' 0 a) (fun i hi => ?_) j (by omega)
  · rw [show i = 0 by omega, uN_s]
    exact ha
  · rw [show i = 0 by omega, uN_s, uN_s]
theorem z_deal {pr th e a : Nat} {wt co cm vs es : Nat → Nat} {z thI epI : Int32} (hpr : pr < 256) (hw : ∀ m, m < 8 → wt m < 4) (hth : th ≤ 8) (ha : a < 1019) :
    ∃ cm' vs' es', F_X10_deal (L co) z (nI pr) (L wt) thI epI (L cm) (L vs) (L es) (nI a) (nI th) (nI e) = some (nI (cntP (dealt pr wt) 1 24), L (S_dr0 th a z co).2, (S_dr0 th a z co).1, nI th, nI e, L cm', L vs', L es') ∧ (∀ i, cm' i = if i < th then 4 ^ (S_dr0 th a z co).2 i % 2039 else cm i) ∧ (∀ q, 1 ≤ q → q ≤ 24 → vs' q = (if dealt pr wt q = true then S_pol (S_dr0 th a z co).2 q th 0 else 0) ∧ es' q = (if dealt pr wt q = true then e else 0)) ∧ vs' 0 = vs 0 ∧ es' 0 = es 0 := by
  obtain ⟨a1, a2, a3, e1, e2, e3⟩ := z_deal20 (e := e) (vs := vs) (es := es) (z := (S_dr0 th a z co).1) (thI := nI th) (epI := nI e) hpr hw hth (S_dr0_lt z co ha) th 1000 0 cm (by omega) (by omega)
  refine ⟨a1, a2, a3, ?_, fun i => ?_, e3⟩
  · unfold F_X10_deal
    rw [z_drawC hth]
    simp only [Option.bind_some, q_lit]
    exact e1
  · rw [e2 i]
    by_cases h : i < th
    · rw [if_pos (by omega), if_pos h]
    · rw [if_neg (by omega), if_neg h]
/-! the reference's dealing -/
def HW (w : Nat → Nat) (pr : Nat) (wt : Nat → Nat) : Prop := pr < 256 ∧ ∀ m, m < 8 → w (9 + m) = (pr.testBit m).toNat ∧ w (1 + m) = wt m ∧ wt m < 4
theorem HW.of {w w' : Nat → Nat} {pr : Nat} {wt : Nat → Nat} (h : HW w pr wt) (e : ∀ i, 1 ≤ i → i < 17 → w' i = w i) : HW w' pr wt := by
  refine ⟨h.1, fun m hm => ?_⟩
  rw [e (9 + m) (by omega) (by omega), e (1 + m) (by omega) (by omega)]
  exact h.2 m hm
theorem HW.pres {w : Nat → Nat} {pr : Nat} {wt : Nat → Nat} (h : HW w pr wt) {m : Nat} (hm : m < 8) : F_X11_isPresent (L w) (nI m) = some (nI (pr.testBit m).toNat) := by
  have h1 := (h.2 m hm).1
  have h2 := Bool.toNat_le (pr.testBit m)
  rw [z_isPresent hm (by omega), h1]
  cases pr.testBit m <;> rfl
theorem HW.used {w : Nat → Nat} {pr : Nat} {wt : Nat → Nat} (h : HW w pr wt) {p : Nat} (hp : 1 ≤ p) (hp2 : p ≤ 24) : F_X11_isUsed (L w) (nI p) = some (nI (decide ((p - 1) % 3 < wt ((p - 1) / 3))).toNat) := by
  have h1 := (h.2 ((p - 1) / 3) (by omega)).2
  rw [z_isUsed hp hp2 (by omega), h1.1]
theorem z_deals102 {s th e : Nat} {cf : Nat → Nat} (hs : s < 4) (hth : th ≤ 8) (hc : ∀ j, j < th → cf j < 1019) : ∀ k n j acc (w : Nat → Nat), j + k = 8 → k < n →
    ∃ w', F_X11_deals_L102 (nI s) (nI th) (nI e) n (L w) (L cf) (nI acc) (nI j) = some (nI acc, L w', L cf) ∧ w' (ix s 0) = 1 ∧ w' (ix s 1) = th ∧ w' (ix s 2) = e ∧ (∀ i, j ≤ i → i < 8 → w' (ix s (3 + i)) = if i < th then 4 ^ cf i % 2039 else 0) ∧ (∀ i, (i < ix s 0 ∨ ix s 11 ≤ i ∨ (ix s 3 ≤ i ∧ i < ix s (3 + j))) → w' i = w i) := by
  intro k
  induction k with
  | zero =>
    intro n j acc w hj hn
    obtain ⟨n, rfl⟩ := z_fuel hn
    have h0 : 8 ≤ j := by omega
    refine ⟨updN (updN (updN w (ix s 0) 1) (ix s 1) th) (ix s 2) e, ?_, ?_, ?_, ?_, fun i h1 h2 => by omega, fun i hi => ?_⟩
    · rw [F_X11_deals_L102]
      simp (disch := omega) only [q_lit, q_leI, h0, if_true, z_sets, Option.bind_some]
    · rw [uN_n _ _ (by simp only [ix]; omega), uN_n _ _ (by simp only [ix]; omega), uN_s]
    · rw [uN_n _ _ (by simp only [ix]; omega), uN_s]
    · rw [uN_s]
    · simp only [ix] at *
      rw [uN_n _ _ (by omega), uN_n _ _ (by omega), uN_n _ _ (by omega)]
  | succ k ih =>
    intro n j acc w hj hn
    obtain ⟨n, rfl⟩ := z_fuel (show 0 < n by omega)
    have h0 : ¬ 8 ≤ j := by omega
    obtain ⟨w', e1, e2, e3, e4, e5, e6⟩ := ih n (j + 1) acc (updN w (ix s (3 + j)) (if j < th then 4 ^ cf j % 2039 else 0)) (by omega) (by omega)
    refine ⟨w', ?_, e2, e3, e4, fun i h1 h2 => ?_, fun i hi => ?_⟩
    · rw [F_X11_deals_L102]
      unfold F_X11_deals_L139
      by_cases h5 : th ≤ j
      · rw [if_neg (by omega)] at e1
        simp (disch := omega) only [q_lit, q_leI, h0, if_false, h5, if_true, nI_add, z_sets, Option.bind_some]
        exact e1
      · rw [if_pos (by omega)] at e1
        have h6 := hc j (by omega)
        simp (disch := omega) only [q_lit, q_leI, h0, if_false, h5, q_gi, q_gg, q_cl, L_app, z_power, nI_add, z_sets, Option.bind_some]
        exact e1
    · by_cases h5 : i = j
      · subst h5
        rw [e6 _ (by simp only [ix]; omega), uN_s]
      · exact e5 i (by omega) h2
    · rw [e6 i (by simp only [ix] at *; omega), uN_n _ _ (by simp only [ix] at *; omega)]
theorem z_deals39 {s th e pr : Nat} {cf wt : Nat → Nat} (hs : s < 4) (hth : th ≤ 8) (hc : ∀ j, j < th → cf j < 1019) : ∀ k n p acc (w : Nat → Nat), p + k = 25 → 1 ≤ p → k < n → HW w pr wt →
    ∃ w', F_X11_deals_L39 (nI s) (nI th) (nI e) n (L w) (L cf) (nI acc) (nI p) = F_X11_deals_L102 (nI s) (nI th) (nI e) 1000 (L w') (L cf) (nI (acc + cntP (dealt pr wt) p k)) (nI 0) ∧
      (∀ q, p ≤ q → q ≤ 24 → w' (ix s (shx q 0)) = (dealt pr wt q).toNat ∧ w' (ix s (shx q 1)) = (if dealt pr wt q = true then S_pol cf q th 0 else 0) ∧ w' (ix s (shx q 2)) = (if dealt pr wt q = true then e else 0)) ∧
      ∀ i, (i < ix s (shx p 0) ∨ ix s 123 < i) → w' i = w i := by
  intro k
  induction k with
  | zero =>
    intro n p acc w hp h1 hn hH
    obtain ⟨n, rfl⟩ := z_fuel hn
    have h0 : 24 < p := by omega
    refine ⟨w, ?_, fun q h1 h2 => by omega, fun i _ => rfl⟩
    rw [F_X11_deals_L39]
    simp (disch := omega) only [q_lit, q_ltI, h0, if_true]
    rfl
  | succ k ih =>
    intro n p acc w hp h1 hn hH
    obtain ⟨n, rfl⟩ := z_fuel (show 0 < n by omega)
    have h0 : ¬ 24 < p := by omega
    have h24 : p ≤ 24 := by omega
    have hH1 : HW (shW w s p 0 0 0) pr wt := hH.of (fun i a b => shW_n w 0 0 0 (by simp only [ix, shx]; omega))
    rw [F_X11_deals_L39]
    unfold F_X11_deals_L93
    simp (disch := omega) only [q_lit, q_ltI, h0, if_false, z_removes hs h1 h24, Option.bind_some, z_owner, hH1.pres (show (p - 1) / 3 < 8 by omega), hH1.used h1 h24, q_b0, z_poly h24 hth hc, z_setsShare hs h1 h24, nI_add]
    have hdd : dealt pr wt p = (pr.testBit ((p - 1) / 3) && decide ((p - 1) % 3 < wt ((p - 1) / 3))) := rfl
    cases hd : dealt pr wt p with
    | false =>
      obtain ⟨w', e1, e2, e3⟩ := ih n (p + 1) acc (shW w s p 0 0 0) (by omega) (by omega) (by omega) hH1
      refine ⟨w', ?_, fun q h1 h2 => ?_, fun i hi => ?_⟩
      · rw [hdd] at hd
        have : acc + cntP (dealt pr wt) p (k + 1) = acc + cntP (dealt pr wt) (p + 1) k := by simp [cntP, hdd, hd]
        rw [this, ← e1]
        cases h2 : pr.testBit ((p - 1) / 3) with
        | false => simp
        | true =>
          rw [h2, Bool.true_and] at hd
          simp [hd]
      · by_cases hq : q = p
        · subst hq
          rw [e3 _ (by simp only [ix, shx]; omega), e3 _ (by simp only [ix, shx]; omega), e3 _ (by simp only [ix, shx]; omega), shW_0, shW_1, shW_2, hd]
          simp
        · exact e2 q (by omega) h2
      · rw [e3 i (by simp only [ix, shx] at *; omega), shW_n w 0 0 0 (by simp only [ix, shx] at *; omega)]
    | true =>
      obtain ⟨w', e1, e2, e3⟩ := ih n (p + 1) (acc + 1) (shW (shW w s p 0 0 0) s p 1 (S_pol cf p th 0) e) (by omega) (by omega) (by omega) (hH1.of (fun i a b => shW_n _ _ _ _ (by simp only [ix, shx]; omega)))
      refine ⟨w', ?_, fun q h1 h2 => ?_, fun i hi => ?_⟩
      · rw [hdd] at hd
        have : acc + cntP (dealt pr wt) p (k + 1) = acc + 1 + cntP (dealt pr wt) (p + 1) k := by simp [cntP, hdd, hd, Nat.add_assoc]
        rw [this, ← e1]
        rw [Bool.and_eq_true] at hd
        simp [hd.1, hd.2]
      · by_cases hq : q = p
        · subst hq
          rw [e3 _ (by simp only [ix, shx]; omega), e3 _ (by simp only [ix, shx]; omega), e3 _ (by simp only [ix, shx]; omega), shW_0, shW_1, shW_2, hd]
          simp
        · exact e2 q (by omega) h2
      · rw [e3 i (by simp only [ix, shx] at *; omega), shW_n _ _ _ _ (by simp only [ix, shx] at *; omega), shW_n _ _ _ _ (by simp only [ix, shx] at *; omega)]
theorem z_deals10 {s th e : Nat} (hs : s < 4) (hth : th ≤ 8) : ∀ k n j (w cf : Nat → Nat), j + k = th → 1 ≤ j → k < n →
    F_X11_deals_L10 (nI s) (nI th) (nI e) n (L w) (L cf) (nI j) = F_X11_deals_L39 (nI s) (nI th) (nI e) 1000 (L (updN w 0 (tw (S_drw k j (nI (w 0)) cf).1))) (L (S_drw k j (nI (w 0)) cf).2) (nI 0) (nI 1) := by
  intro k
  induction k with
  | zero =>
    intro n j w cf hj h1 hn
    obtain ⟨n, rfl⟩ := z_fuel hn
    have h0 : th ≤ j := by omega
    rw [F_X11_deals_L10]
    simp (disch := omega) only [q_lit, q_leI, h0, if_true]
    have : L (updN w 0 (tw (nI (w 0)))) = L w := by
      rw [← L_upd, nI_tw]
      funext i
      by_cases hi : i = 0
      · rw [hi, pk_us]; rfl
      · rw [pk_un hi]
    show _ = F_X11_deals_L39 (nI s) (nI th) (nI e) 1000 (L (updN w 0 (tw (nI (w 0))))) (L cf) (nI 0) (nI 1)
    rw [this]
  | succ k ih =>
    intro n j w cf hj h1 hn
    obtain ⟨n, rfl⟩ := z_fuel (show 0 < n by omega)
    have h0 : ¬ th ≤ j := by omega
    rw [F_X11_deals_L10]
    simp (disch := omega) only [q_lit, q_leI, h0, if_false, z_drawn, Option.bind_some, q_gi, q_gg, q_gl, q_cl, L_upd, nI_add]
    rw [ih n (j + 1) _ _ (by omega) (by omega) (by omega), uN_s, nI_tw]
    have : ∀ x, updN (updN w 0 (tw (nz (nI (w 0))))) 0 x = updN w 0 x := by
      intro x
      funext i
      by_cases hi : i = 0
      · rw [hi, uN_s, uN_s]
      · rw [uN_n _ _ hi, uN_n _ _ hi, uN_n _ _ hi]
    rw [this]
    rfl
theorem z_deals {s th e a pr : Nat} {w cf wt : Nat → Nat} (hs : s < 4) (hth : th ≤ 8) (hth1 : 1 ≤ th) (ha : a < 1019) (hH : HW w pr wt) :
    ∃ w' cf', F_X11_deals (L w) (L cf) (nI s) (nI a) (nI th) (nI e) = some (nI (cntP (dealt pr wt) 1 24), L w', L cf') ∧ w' 0 = tw (S_dr0 th a (nI (w 0)) cf).1 ∧ w' (ix s 0) = 1 ∧ w' (ix s 1) = th ∧ w' (ix s 2) = e ∧
      (∀ i, i < th → w' (ix s (3 + i)) = 4 ^ (S_dr0 th a (nI (w 0)) cf).2 i % 2039) ∧ (∀ i, th ≤ i → i < 8 → w' (ix s (3 + i)) = 0) ∧
      (∀ q, 1 ≤ q → q ≤ 24 → w' (ix s (shx q 0)) = (dealt pr wt q).toNat ∧ w' (ix s (shx q 1)) = (if dealt pr wt q = true then S_pol (S_dr0 th a (nI (w 0)) cf).2 q th 0 else 0) ∧ w' (ix s (shx q 2)) = (if dealt pr wt q = true then e else 0)) ∧
      (∀ i, 1 ≤ i → (i < ix s 0 ∨ (ix s 11 ≤ i ∧ i < ix s 52) ∨ ix s 123 < i) → w' i = w i) := by
  have hc := S_dr0_lt (th := th) (nI (w 0)) cf ha
  have e0 := z_deals10 (e := e) hs hth (th - 1) 1000 1 w (updN cf 0 a) (by omega) (by omega) (by omega)
  have hH1 : HW (updN w 0 (tw (S_dr0 th a (nI (w 0)) cf).1)) pr wt := hH.of (fun i h1 _ => uN_n _ _ (by omega))
  obtain ⟨w1, e1, e2, e3⟩ := z_deals39 (e := e) hs hth hc 24 1000 1 0 _ (by omega) (by omega) (by omega) hH1
  obtain ⟨w2, f1, f2, f3, f4, f5, f6⟩ := z_deals102 (e := e) hs hth hc 8 1000 0 (0 + cntP (dealt pr wt) 1 24) w1 (by omega) (by omega)
  refine ⟨w2, (S_dr0 th a (nI (w 0)) cf).2, ?_, ?_, f2, f3, f4, fun i hi => ?_, fun i h1 h2 => ?_, fun q h1 h2 => ?_, fun i h1 hi => ?_⟩
  · unfold F_X11_deals
    simp (disch := omega) only [q_lit, q_gi, q_gg, q_gl, q_cl, L_upd]
    rw [e0]
    have := e1.trans f1
    rw [Nat.zero_add] at this
    exact this
  · rw [f6 0 (by simp only [ix]; omega), e3 0 (by simp only [ix, shx]; omega), uN_s]
  · rw [f5 i (by omega) (by omega), if_pos hi]
  · rw [f5 i (by omega) h2, if_neg (by omega)]
  · rw [f6 _ (by simp only [ix, shx]; omega), f6 _ (by simp only [ix, shx]; omega), f6 _ (by simp only [ix, shx]; omega)]
    exact e2 q h1 h2
  · rw [f6 i (by simp only [ix] at *; omega), e3 i (by simp only [ix, shx] at *; omega), uN_n _ _ (by omega)]
