/-! PURE: the class's table of sets; its nesting -/
theorem jd_le {m : Nat} : ∀ (l : List Nat) (f : JFr) (st : List JFr) (c : Nat), jd m l f st c ≤ 1 := by
  intro l
  induction l with
  | nil => intro f st c; exact jend_le f
  | cons x r ih =>
    intro f st c
    rw [jd]
    unfold jdc
    repeat' split
    all_goals exact ih _ _ _
theorem z_ful {N m : Nat} {tf tp : Nat → Nat} {opn : Int32} {du me an al : Nat → Nat} (h : TX N tf tp) (hm : m < 256) : ∃ o' du' me' an' al', F_X1_isFulfilledBy opn (N + 1) (L du) (N + 1) (L me) (N + 1) (L an) (N + 1) (L al) N (L tf) (nI m) = some (nI (jd m (sfx N tp 0) (1, 0, 0, 1) [] 1), nI o', L du', L me', L an', L al') := by
  have hN := h.1
  obtain ⟨o', du', me', an', al', e⟩ := z_jd h hm N 1000 0 0 (1, 0, 0, 1) [] 1 (updN du 0 1) (updN me 0 0) (updN an 0 0) (updN al 0 1) (by omega) (by omega) (by omega) (by omega) ⟨uN_s _ _ _, uN_s _ _ _, uN_s _ _ _, uN_s _ _ _⟩ ⟨by show 1 ≤ 9; omega, Nat.le_refl _, Nat.zero_le _, Nat.le_refl _⟩ rfl
  refine ⟨o', du', me', an', al', ?_⟩
  unfold F_X1_isFulfilledBy
  exact ob (z_begin1 (o := 0) (c := 1) (by omega) (by omega)) e
theorem z_L23 {N : Nat} {tf tp : Nat → Nat} {h1 h2 : Int32} (h : TX N tf tp) : ∀ k n j (o : Int32) (du me an al ful : Nat → Nat), j + k = 256 → k < n → ∃ fin, F_X3_from_L23 n h1 h2 N (L tf) o (N + 1) (L du) (N + 1) (L me) (N + 1) (L an) (N + 1) (L al) (L ful) (nI j) = F_X3_from_L56 1000 h1 h2 N (L tf) (L fin) 0 0 0 ∧ (∀ i, i < j → fin i = ful i) ∧ ∀ i, j ≤ i → i < 256 → fin i = jd i (sfx N tp 0) (1, 0, 0, 1) [] 1 := by
  intro k
  induction k with
  | zero =>
    intro n j o du me an al ful hj hn
    obtain ⟨n, rfl⟩ := z_fuel hn
    refine ⟨ful, ?_, fun _ _ => rfl, fun i _ _ => by omega⟩
    rw [F_X3_from_L23]
    exact if_pos (show nI 256 ≤ nI j from nI_le (by omega) (by omega))
  | succ k ih =>
    intro n j o du me an al ful hj hn
    obtain ⟨n, rfl⟩ := z_fuel (show 0 < n by omega)
    obtain ⟨o', du', me', an', al', e⟩ := z_ful (opn := o) (du := du) (me := me) (an := an) (al := al) h (show j < 256 by omega)
    obtain ⟨fin, e1, e2, e3⟩ := ih n (j + 1) (nI o') du' me' an' al' (updN ful j (jd j (sfx N tp 0) (1, 0, 0, 1) [] 1)) (by omega) (by omega)
    refine ⟨fin, ?_, fun i hi => ?_, fun i hi hi2 => ?_⟩
    · rw [F_X3_from_L23]
      refine (if_neg (show ¬ nI 256 ≤ nI j from nI_ge (by omega) (by omega))).trans (ob e ?_)
      rw [q_gi (show j < 256 by omega) (by omega), q_gg, q_gl, q_cl (show j < 2 ^ 31 by omega), z_bol _ (Nat.lt_succ_of_le (jd_le _ _ _ _)), L_upd, show nI j + 1 = nI (j + 1) from nI_1 j]
      exact e1
    · rw [e2 i (by omega), uN_n _ _ (by omega)]
    · by_cases hij : i = j
      · rw [hij, e2 j (by omega), uN_s]
      · exact e3 i (by omega) hi2
/-- the character before -/
def prv (T : Nat → Nat) (a : Nat) : Nat := if a = 0 then 0 else T (a - 1)
theorem prv_s (T : Nat → Nat) (a : Nat) : prv T (a + 1) = T a := by
  unfold prv
  rw [if_neg (by omega), Nat.add_sub_cancel]
theorem z_signB {N a c : Nat} {tf tp : Nat → Nat} (h : TX N tf tp) (ha : a ≤ N) (hc : c < 127) (hc0 : c ≠ 0) : F_X5_isSignAt N (L tf) (nI a - 1) (nI c) = some (nI (decide (prv tp a = c)).toNat) := by
  have hN := h.1
  cases a with
  | zero =>
    unfold F_X5_isSignAt F_X5_isSignAt_L25 F_X5_isSignAt_L26 prv
    rw [if_pos rfl, decide_eq_false (fun e => hc0 e.symm)]
    exact (if_pos (show nI 0 - 1 < 0 by decide)).trans rfl
  | succ a =>
    rw [show nI (a + 1) - 1 = nI a from pk_sub (a := a + 1) (b := 1) (by omega), prv_s, z_signAt h (by omega) hc hc0, sfx_hd, if_pos (by omega)]
def nsc (K : Nat → List Nat → Nat) (g : Nat) : List Nat → Nat
  | [] => K g []
  | g' :: st => K g' st
def ns : Nat → List Nat → Nat → List Nat → Nat → Nat
  | _, [], _, _, mo => mo
  | p, c :: r, g, st, mo => if c = 40 then ns c r (g + (decide (p = 102)).toNat) (g :: st) (max mo (g + (decide (p = 102)).toNat)) else if c = 41 then nsc (fun g' st' => ns c r g' st' mo) g st else ns c r g st mo
def NS (B : Nat) (y : Nat → Nat) : Nat → List Nat → Prop
  | 0, st => st = []
  | _ + 1, [] => False
  | o + 1, g :: st => y o = g ∧ g ≤ B ∧ NS B y o st
theorem NS_ext {B B' : Nat} {y y' : Nat → Nat} (hB : B ≤ B') : ∀ (o : Nat) (st : List Nat), NS B y o st → (∀ i, i < o → y' i = y i) → NS B' y' o st := by
  intro o
  induction o with
  | zero => intro st h _; exact h
  | succ o ih =>
    intro st h he
    cases st with
    | nil => exact h
    | cons g st =>
      obtain ⟨a1, b1, h3⟩ := h
      exact ⟨(he o (Nat.lt_succ_self o)).trans a1, by omega, ih st h3 (fun i hi => he i (by omega))⟩
theorem z_max9 {a b : Nat} (ha : a < 1000) (hb : b < 1000) : F_J9_max_7cf53 (nI a) (nI b) = some (nI (max a b)) := by
  unfold F_J9_max_7cf53 F_J9_max_7cf53_L10
  by_cases h : a < b
  · rw [show max a b = b by omega]
    exact if_pos (nI_lt h (by omega))
  · rw [show max a b = a by omega]
    exact if_neg (nI_nlt (by omega) (by omega))
theorem z_ns {N : Nat} {tf tp : Nat → Nat} (h : TX N tf tp) : ∀ k n a o g st mo (y : Nat → Nat), a + k = N → k < n → o ≤ a → y o = g → g ≤ a → mo ≤ a → NS a y o st → F_X5_nestingOf_L16 N (L tf) n (N + 1) (L y) (nI o) (nI mo) (nI a) = some (nI (ns (prv tp a) (sfx N tp a) g st mo)) := by
  have hN := h.1
  intro k
  induction k with
  | zero =>
    intro n a o g st mo y ha hn ho hg hg2 hmo hS
    obtain ⟨n, rfl⟩ := z_fuel hn
    rw [F_X5_nestingOf_L16, sfx_nil (by omega), ns]
    exact ob z_tLen (if_pos (nI_le (by omega) (by omega)))
  | succ k ih =>
    intro n a o g st mo y ha hn ho hg hg2 hmo hS
    obtain ⟨n, rfl⟩ := z_fuel (show 0 < n by omega)
    have haN : a < N := by omega
    obtain ⟨h3, h4, h5⟩ := h.2 a haN
    have hch := z_tChar (N := N) (i := a) (tf := tf) (by omega) haN (by omega)
    rw [h3] at hch
    have nx : nI a + 1 = nI (a + 1) := nI_1 a
    have hne : ∀ x, x < 127 → tp a ≠ x → ¬ nI (tp a) = nI x := fun x hx e g => e ((q_eqI (by omega) (by omega)).mp g)
    have hsb := z_signB (a := a) (c := 102) h (by omega) (by omega) (by omega)
    rw [F_X5_nestingOf_L16, sfx_cons haN, ns]
    have i0 := fun g st => ih n (a + 1) o g st mo y (by omega) (by omega) (by omega)
    rw [prv_s] at i0
    by_cases c40 : tp a = 40
    · rw [if_pos c40]
      have hb : (decide (prv tp a = 102)).toNat ≤ 1 := Bool.toNat_le _
      have i1 := ih n (a + 1) (o + 1) (g + (decide (prv tp a = 102)).toNat) (g :: st) (max mo (g + (decide (prv tp a = 102)).toNat)) (updN y (o + 1) (g + (decide (prv tp a = 102)).toNat)) (by omega) (by omega) (by omega) (uN_s _ _ _) (by omega) (by omega) (NS_ext (Nat.le_succ a) (o + 1) (g :: st) ⟨hg, hg2, hS⟩ (fun i hi => uN_n _ _ (by omega)))
      rw [prv_s] at i1
      refine ob z_tLen ((if_neg (nI_ge haN (by omega))).trans (ob hch ((if_pos (congrArg nI c40)).trans ?_)))
      rw [q_gi (show o < N + 1 by omega) (by omega), q_gg]
      refine ob hsb ?_
      have go : ∀ b, b ≤ 1 → b = (decide (prv tp a = 102)).toNat → F_X5_nestingOf_L61 (F_X5_nestingOf_L16 N (L tf) n) (N + 1) (L y) (nI o) (nI mo) (nI a) (nI b) ((L y) (Int32.toNatClampNeg (nI o))) (nI o + 1) = some (nI (ns (tp a) (sfx N tp (a + 1)) (g + (decide (prv tp a = 102)).toNat) (g :: st) (max mo (g + (decide (prv tp a = 102)).toNat)))) := by
        intro b hb1 hbe
        subst hbe
        unfold F_X5_nestingOf_L61 F_X5_nestingOf_L95
        rw [show nI o + 1 = nI (o + 1) from nI_1 o, q_gi (show o + 1 < N + 1 by omega) (by omega), q_gg, q_gl, q_cl (show o < 2 ^ 31 by omega), q_cl (show o + 1 < 2 ^ 31 by omega), L_app, hg, nI_add, L_upd, q_gg]
        refine ob (x := nI (max mo (g + (decide (prv tp a = 102)).toNat))) ?_ ?_
        · rw [L_app, uN_s]
          exact z_max9 (by omega) (by omega)
        · rw [nx]
          exact i1
      by_cases hp : prv tp a = 102
      · rw [decide_eq_true hp]
        rw [decide_eq_true hp] at go
        exact (if_neg (by decide)).trans (go 1 (by omega) rfl)
      · rw [decide_eq_false hp]
        rw [decide_eq_false hp] at go
        exact (if_pos rfl).trans (go 0 (by omega) rfl)
    · rw [if_neg c40]
      unfold F_X5_nestingOf_L95
      rw [nx]
      by_cases c41 : tp a = 41
      · rw [if_pos c41]
        cases o with
        | zero =>
          have hst : st = [] := hS
          subst hst
          exact ob z_tLen ((if_neg (nI_ge haN (by omega))).trans (ob hch ((if_neg (hne 40 (by omega) c40)).trans (ob hch ((if_pos (congrArg nI c41)).trans ((if_pos (show nI 0 ≤ 0 by decide)).trans (i0 g [] hg (by omega) (by omega) rfl)))))))
        | succ o =>
          cases st with
          | nil => exact absurd hS (by intro x; exact x)
          | cons g' st =>
            obtain ⟨s1, s2, s3⟩ := hS
            have i1 := ih n (a + 1) o g' st mo y (by omega) (by omega) (by omega) s1 (by omega) (by omega) (NS_ext (Nat.le_succ a) o st s3 (fun _ _ => rfl))
            rw [prv_s] at i1
            refine ob z_tLen ((if_neg (nI_ge haN (by omega))).trans (ob hch ((if_neg (hne 40 (by omega) c40)).trans (ob hch ((if_pos (congrArg nI c41)).trans ((if_neg (show ¬ nI (o + 1) ≤ 0 from nI_ge (show 0 < o + 1 by omega) (by omega))).trans ?_))))))
            rw [show nI (o + 1) + (-1) = nI o from q_back (e := o + 1) (by omega) (by omega)]
            exact i1
      · rw [if_neg c41]
        exact ob z_tLen ((if_neg (nI_ge haN (by omega))).trans (ob hch ((if_neg (hne 40 (by omega) c40)).trans (ob hch ((if_neg (hne 41 (by omega) c41)).trans (i0 g st hg (by omega) (by omega) (NS_ext (Nat.le_succ a) o st hS (fun _ _ => rfl))))))))
def dp : Fm → Nat
  | .nest _ _ => 0
  | .group P _ => dp P
  | .tag _ l => 1 + dp l
  | .append a b => max (dp a) (if fnil b = true then 0 else dp b)
  | _ => 0
theorem ns_sk {p c g mo : Nat} {r st : List Nat} (h1 : c ≠ 40) (h2 : c ≠ 41) : ns p (c :: r) g st mo = ns c r g st mo := by rw [ns, if_neg h1, if_neg h2]
theorem ns_cl {p g g' mo : Nat} {r st : List Nat} : ns p (41 :: r) g (g' :: st) mo = ns 41 r g' st mo := by
  rw [ns, if_neg (by decide), if_pos rfl]
  rfl
theorem ns_op {p g mo : Nat} {r st : List Nat} : ns p (40 :: r) g st mo = ns 40 r (g + (decide (p = 102)).toNat) (g :: st) (max mo (g + (decide (p = 102)).toNat)) := by rw [ns, if_pos rfl]
theorem ns_tree : ∀ (t : Fm) (k : Nat), fok k t → ∀ s p r g st mo, p ≠ 102 → g ≤ mo → ∃ q, q ≠ 102 ∧ ns p (fO k s t ++ r) g st mo = ns q r g st (max mo (g + dp t)) := by
  intro t
  induction t with
  | nest i f ih =>
    intro k hk s p r g st mo hp hg
    cases k with
    | succ k => exact absurd hk (by simp [fok])
    | zero =>
      have h1 : i.toNat ≤ 7 := hk
      refine ⟨48 + i.toNat, by omega, ?_⟩
      rw [fO, dp, List.singleton_append, ns_sk (by omega) (by omega), show max mo (g + 0) = mo by omega]
  | group P b ih =>
    intro k hk s p r g st mo hp hg
    cases k with
    | succ k => exact absurd hk (by simp [fok])
    | zero =>
      rw [fO, dp]
      split
      · obtain ⟨q, h1, h2⟩ := ih 2 hk false 40 (41 :: r) g (g :: st) mo (by omega) hg
        refine ⟨41, by omega, ?_⟩
        rw [List.cons_append, List.append_assoc, ns_op, decide_eq_false hp]
        show ns 40 (fO 2 false P ++ ([41] ++ r)) (g + 0) (g :: st) (max mo (g + 0)) = _
        rw [Nat.add_zero, show max mo g = mo by omega, List.singleton_append, h2, ns_cl]
      · exact ih 2 hk false p r g st mo hp hg
  | tag c l ih =>
    intro k hk s p r g st mo hp hg
    cases k with
    | succ k => exact absurd hk (by simp [fok])
    | zero =>
      have h9 : (1 ≤ c ∧ c ≤ 9) ∧ fok 3 l := hk
      obtain ⟨q, h1, h2⟩ := ih 3 h9.2 false 40 (41 :: r) (g + 1) (g :: st) (max mo (g + 1)) (by omega) (by omega)
      refine ⟨41, by omega, ?_⟩
      rw [fO, dp]
      simp only [List.cons_append, List.append_assoc, List.nil_append]
      rw [ns_sk (by omega) (by omega), ns_sk (by omega) (by omega), ns_sk (by omega) (by omega), ns_op]
      show ns 40 (fO 3 false l ++ 41 :: r) (g + 1) (g :: st) (max mo (g + 1)) = _
      rw [h2, ns_cl, show max (max mo (g + 1)) (g + 1 + dp l) = max mo (g + (1 + dp l)) by omega]
  | append a b iha ihb =>
    intro k hk s p r g st mo hp hg
    cases k with
    | zero => exact absurd hk (by simp [fok])
    | succ k =>
      obtain ⟨h1, h2, h3⟩ := hk
      by_cases hb : fnil b = true
      · obtain ⟨q, g1, g2⟩ := iha k h2 (decide (k + 1 = 1) && s) p r g st mo hp hg
        refine ⟨q, g1, ?_⟩
        rw [fO_a1 hb, dp, if_pos hb, Nat.max_zero]
        exact g2
      · have hb' : fnil b = false := by simpa using hb
        have h3' : fok (k + 1) b := by
          rcases h3 with h3 | h3
          · rw [hb'] at h3; exact absurd h3 (by decide)
          · exact h3.2
        have hsp : fsep (k + 1) ≠ 40 ∧ fsep (k + 1) ≠ 41 ∧ fsep (k + 1) ≠ 102 := by unfold fsep; split <;> omega
        obtain ⟨q, g1, g2⟩ := iha k h2 (decide (k + 1 = 1)) p (fsep (k + 1) :: (fO (k + 1) (decide (k + 1 = 1)) b ++ r)) g st mo hp hg
        obtain ⟨q', g1', g2'⟩ := ihb (k + 1) h3' (decide (k + 1 = 1)) (fsep (k + 1)) r g st (max mo (g + dp a)) hsp.2.2 (by omega)
        refine ⟨q', g1', ?_⟩
        rw [fO_a2 hb', dp, if_neg hb, List.append_assoc, List.cons_append, show k + 1 - 1 = k from rfl, g2, ns_sk hsp.1 hsp.2.1, g2', show max (max mo (g + dp a)) (g + dp b) = max mo (g + max (dp a) (dp b)) by omega]
  | _ => intro k hk; cases k <;> exact absurd hk (by simp [fok])
