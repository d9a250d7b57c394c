/-! PURE: append -/
theorem q_b255 (y : Int32) : ∃ b, b < 256 ∧ y &&& 255 = nI b := by
  refine ⟨(y &&& 255).toBitVec.toNat, ?_, ?_⟩
  · have : (y &&& 255).toBitVec = y.toBitVec &&& 255#32 := rfl
    rw [this, BitVec.toNat_and]
    exact Nat.lt_of_le_of_lt Nat.and_le_right (by decide)
  · apply Int32.toBitVec_inj.1
    show _ = BitVec.ofNat 32 _
    rw [BitVec.ofNat_toNat]
    simp
def byX (x l : Int32) : Int32 := ((Int32.toUInt32 x >>> (Int32.toUInt32 l &&& Int32.toUInt32 31)).toInt32) &&& 255
def lvA : Nat → Int32
  | 0 => -8
  | k + 1 => nI (8 * k)
theorem lvA_p (k : Nat) (h : k < 5) : lvA (k + 1) + -8 = lvA k := by
  have : ∀ k, k < 5 → lvA (k + 1) + -8 = lvA k := by decide
  exact this k h
theorem lvA_n (k : Nat) (h : k < 100) : ¬ lvA (k + 1) < 0 := nI_nlt (show 0 ≤ 8 * k by omega) (by omega)
def S_cnt (b : Nat → Nat) : Nat → Nat → Option Nat
  | 0, c => some c
  | k + 1, c => if b k = 0 then S_cnt b k c else if b k < 33 then none else if b k ≤ 126 then S_cnt b k (c + 1) else none
theorem S_cnt_none (b : Nat → Nat) (k c : Nat) : S_cnt b (k + 1) c = if b k = 0 then S_cnt b k c else if b k < 33 then none else if b k ≤ 126 then S_cnt b k (c + 1) else none := rfl
theorem S_cnt_le (b : Nat → Nat) : ∀ k c c', S_cnt b k c = some c' → c ≤ c' ∧ c' ≤ c + k := by
  intro k
  induction k with
  | zero => intro c c' h; cases h; omega
  | succ k ih =>
    intro c c' h
    rw [S_cnt_none] at h
    split at h
    · have := ih _ _ h; omega
    · split at h
      · cases h
      · split at h
        · have := ih _ _ h; omega
        · cases h
theorem z_ap1 {x : Int32} {b : Nat → Nat} {n : Int32} {cap : Nat} {bs : Nat → Int32} (hb : ∀ k, k < 4 → byX x (lvA (k + 1)) = nI (b k) ∧ b k < 256) : ∀ k f c, k ≤ 4 → k < f → c + k < 100 → F_X10_append_L5 x f n cap bs (nI c) (lvA k) = (match S_cnt b k c with
    | none => some (2, 0, n, cap, bs)
    | some c' => if n + nI c' ≤ 40 then F_X10_append_L93 x 8 n cap bs 24 else some (5, 0, n, cap, bs)) := by
  intro k
  induction k with
  | zero =>
    intro f c _ hf _
    obtain ⟨f, rfl⟩ := z_fuel hf
    rw [F_X10_append_L5]
    exact if_pos (by decide)
  | succ k ih =>
    intro f c h4 hf hc
    obtain ⟨f, rfl⟩ := z_fuel (show 0 < f by omega)
    obtain ⟨hbk, hb2⟩ := hb k (by omega)
    rw [F_X10_append_L5]
    refine (if_neg (lvA_n k (by omega))).trans ?_
    show (if byX x (lvA (k + 1)) = 0 then F_X10_append_L47 (F_X10_append_L5 x f) n cap bs (nI c) (lvA (k + 1)) (byX x (lvA (k + 1))) else if byX x (lvA (k + 1)) < 33 then F_X10_append_L37 n cap bs else if byX x (lvA (k + 1)) ≤ 126 then F_X10_append_L47 (F_X10_append_L5 x f) n cap bs (nI c) (lvA (k + 1)) (byX x (lvA (k + 1))) else F_X10_append_L37 n cap bs) = _
    rw [hbk, S_cnt_none]
    by_cases h0 : b k = 0
    · rw [if_pos h0, h0]
      refine (if_pos rfl).trans ?_
      unfold F_X10_append_L47 F_X10_append_L58
      refine (if_pos rfl).trans ?_
      rw [lvA_p k (by omega), show nI c + 0 = nI c from nI_add c 0]
      exact ih f c (by omega) (by omega) (by omega)
    · rw [if_neg h0]
      have hz : ¬ nI (b k) = 0 := fun h => h0 ((q_eqI (b := 0) (by omega) (by omega)).mp h)
      refine (if_neg hz).trans ?_
      by_cases h1 : b k < 33
      · rw [if_pos h1]
        refine (if_pos (nI_lt h1 (by omega))).trans ?_
        rfl
      · rw [if_neg h1]
        refine (if_neg (show ¬ nI (b k) < nI 33 from nI_nlt (by omega) (by omega))).trans ?_
        by_cases h2 : b k ≤ 126
        · rw [if_pos h2]
          refine (if_pos (show nI (b k) ≤ nI 126 from nI_le h2 (by omega))).trans ?_
          unfold F_X10_append_L47 F_X10_append_L58
          refine (if_neg hz).trans ?_
          rw [lvA_p k (by omega), show nI c + 1 = nI (c + 1) from nI_1 c]
          exact ih f (c + 1) (by omega) (by omega) (by omega)
        · rw [if_neg h2]
          refine (if_neg (show ¬ nI (b k) ≤ nI 126 from nI_ge (by omega) (by omega))).trans ?_
          rfl
theorem z_ap2 {x : Int32} {b : Nat → Nat} {t n : Int32} {tp : Nat → Int32} (hb : ∀ k, k < 4 → byX x (lvA (k + 1)) = nI (b k) ∧ b k < 256) : ∀ k f c, k ≤ 4 → k < f → c + k < 100 → F_X11_append_L5 x f t tp n (nI c) (lvA k) = (match S_cnt b k c with
    | none => some (nI 0, nI 1, tp, n)
    | some c' => if n + nI c' ≤ 40 then F_X11_append_L80 x 1000 t tp n 24 else some (nI 0, nI 2, tp, n)) := by
  intro k
  induction k with
  | zero =>
    intro f c _ hf _
    obtain ⟨f, rfl⟩ := z_fuel hf
    rw [F_X11_append_L5]
    exact if_pos (by decide)
  | succ k ih =>
    intro f c h4 hf hc
    obtain ⟨f, rfl⟩ := z_fuel (show 0 < f by omega)
    obtain ⟨hbk, hb2⟩ := hb k (by omega)
    rw [F_X11_append_L5]
    refine (if_neg (lvA_n k (by omega))).trans ?_
    show (if byX x (lvA (k + 1)) = 0 then F_X11_append_L41 (F_X11_append_L5 x f) t tp n (nI c) (lvA (k + 1)) (byX x (lvA (k + 1))) else (F_X11_in (byX x (lvA (k + 1))) 33 126).bind fun v15 => if v15 = 0 then ((F_X11_fails t 1).bind fun v18 => some (v18.1, v18.2, tp, n)) else F_X11_append_L41 (F_X11_append_L5 x f) t tp n (nI c) (lvA (k + 1)) (byX x (lvA (k + 1)))) = _
    rw [hbk, S_cnt_none]
    by_cases h0 : b k = 0
    · rw [if_pos h0, h0]
      refine (if_pos rfl).trans ?_
      unfold F_X11_append_L41 F_X11_append_L52
      refine (if_pos rfl).trans ?_
      rw [lvA_p k (by omega), show nI c + 0 = nI c from nI_add c 0]
      exact ih f c (by omega) (by omega) (by omega)
    · rw [if_neg h0]
      have hz : ¬ nI (b k) = 0 := fun h => h0 ((q_eqI (b := 0) (by omega) (by omega)).mp h)
      refine (if_neg hz).trans ?_
      by_cases h1 : b k < 33
      · rw [if_pos h1]
        refine ob (z_inno (j := b k) (a := 33) (b := 126) (Or.inl h1) (by omega) (by omega)) ?_
        refine (if_pos rfl).trans ?_
        rfl
      · rw [if_neg h1]
        by_cases h2 : b k ≤ 126
        · rw [if_pos h2]
          refine ob (z_inok (j := b k) (a := 33) (b := 126) (by omega) h2 (by omega)) ?_
          refine (if_neg (by decide)).trans ?_
          unfold F_X11_append_L41 F_X11_append_L52
          refine (if_neg hz).trans ?_
          rw [lvA_p k (by omega), show nI c + 1 = nI (c + 1) from nI_1 c]
          exact ih f (c + 1) (by omega) (by omega) (by omega)
        · rw [if_neg h2]
          refine ob (z_inno (j := b k) (a := 33) (b := 126) (Or.inr (by omega)) (by omega) (by omega)) ?_
          refine (if_pos rfl).trans ?_
          rfl
/-- the two buffers -/
def RBf (N cap : Nat) (bf tp : Nat → Nat) : Prop := N ≤ 40 ∧ Bf N cap bf ∧ ∀ i, i < N → bf i = tp i ∧ 33 ≤ tp i
set_option maxRecDepth 20000 in
theorem q_chr : ∀ b, b < 127 → (Int32.toUInt32 (nI b) % 65536).toInt32 = nI b ∧ vp_nar .char ((Int32.toUInt32 (nI b) % 65536).toInt32) = nI b := by decide
theorem z_ap3 {x : Int32} {b : Nat → Nat} {t : Int32} (hb : ∀ k, k < 4 → byX x (lvA (k + 1)) = nI (b k) ∧ b k < 256) : ∀ k f g c c' N cap bf tp, k ≤ 4 → k < f → k < g → S_cnt b k c = some c' → N + c' ≤ 40 + c → RBf N cap bf tp → ∃ cap' bf' tp', F_X10_append_L93 x f (nI N) cap (L bf) (lvA k) = some (0, nI (N + (c' - c)), nI (N + (c' - c)), cap', L bf') ∧ F_X11_append_L80 x g t (L tp) (nI N) (lvA k) = some (nI (N + (c' - c)), nI 0, L tp', nI (N + (c' - c))) ∧ RBf (N + (c' - c)) cap' bf' tp' := by
  intro k
  induction k with
  | zero =>
    intro f g c c' N cap bf tp _ hf hg hc hN hR
    obtain ⟨f, rfl⟩ := z_fuel hf
    obtain ⟨g, rfl⟩ := z_fuel hg
    cases hc
    rw [Nat.sub_self, Nat.add_zero, F_X10_append_L93, F_X11_append_L80]
    exact ⟨cap, bf, tp, if_pos (by decide), if_pos (by decide), hR⟩
  | succ k ih =>
    intro f g c c' N cap bf tp h4 hf hg hc hN hR
    obtain ⟨f, rfl⟩ := z_fuel (show 0 < f by omega)
    obtain ⟨g, rfl⟩ := z_fuel (show 0 < g by omega)
    obtain ⟨hbk, hb2⟩ := hb k (by omega)
    rw [F_X10_append_L93, F_X11_append_L80]
    show ∃ cap' bf' tp', (if lvA (k + 1) < 0 then _ else if byX x (lvA (k + 1)) = 0 then F_X10_append_L122 (F_X10_append_L93 x f) (nI N) cap (L bf) (lvA (k + 1)) else (F_J4_append_cf468 (nI N) cap (L bf) ((Int32.toUInt32 (byX x (lvA (k + 1))) % 65536).toInt32)).bind fun v10 => F_X10_append_L122 (F_X10_append_L93 x f) v10.1 v10.2.1 v10.2.2 (lvA (k + 1))) = _ ∧ (if lvA (k + 1) < 0 then _ else if byX x (lvA (k + 1)) = 0 then F_X11_append_L120 (F_X11_append_L80 x g) t (L tp) (nI N) (lvA (k + 1)) else gg (gi (nI N) 40) (gl (upd (L tp) (Int32.toNatClampNeg (nI N)) (vp_nar .char ((Int32.toUInt32 (byX x (lvA (k + 1))) % 65536).toInt32))) fun f9 => F_X11_append_L120 (F_X11_append_L80 x g) t f9 (nI N + 1) (lvA (k + 1)))) = _ ∧ _
    rw [hbk]
    rw [S_cnt_none] at hc
    by_cases h0 : b k = 0
    · rw [if_pos h0] at hc
      obtain ⟨cap', bf', tp', e1, e2, e3⟩ := ih f g c c' N cap bf tp (by omega) (by omega) (by omega) hc hN hR
      refine ⟨cap', bf', tp', (if_neg (lvA_n k (by omega))).trans ?_, (if_neg (lvA_n k (by omega))).trans ?_, e3⟩
      · rw [h0]
        refine (if_pos rfl).trans ?_
        unfold F_X10_append_L122
        rw [lvA_p k (by omega)]
        exact e1
      · rw [h0]
        refine (if_pos rfl).trans ?_
        unfold F_X11_append_L120
        rw [lvA_p k (by omega)]
        exact e2
    · rw [if_neg h0] at hc
      by_cases h1 : b k < 33
      · rw [if_pos h1] at hc; cases hc
      rw [if_neg h1] at hc
      by_cases h2 : b k ≤ 126
      · rw [if_pos h2] at hc
        have hle := S_cnt_le b _ _ _ hc
        obtain ⟨r1, r2, r3⟩ := hR
        obtain ⟨cap1, bf1, a1, a2, a3, a4⟩ := z_appc r2 (by omega) h2
        have hR1 : RBf (N + 1) cap1 bf1 (updN tp N (b k)) := ⟨by omega, a2, fun i hi => by
          by_cases hi2 : i = N
          · rw [hi2, uN_s, a4]; exact ⟨rfl, by omega⟩
          · rw [uN_n _ _ hi2, a3 i (by omega)]; exact r3 i (by omega)⟩
        obtain ⟨cap', bf', tp', e1, e2, e3⟩ := ih f g (c + 1) c' (N + 1) cap1 bf1 _ (by omega) (by omega) (by omega) hc (by omega) hR1
        have hz : ¬ nI (b k) = 0 := fun h => h0 ((q_eqI (b := 0) (by omega) (by omega)).mp h)
        have hs : N + 1 + (c' - (c + 1)) = N + (c' - c) := by omega
        rw [hs] at e1 e2 e3
        refine ⟨cap', bf', tp', (if_neg (lvA_n k (by omega))).trans ((if_neg hz).trans ?_), (if_neg (lvA_n k (by omega))).trans ((if_neg hz).trans ?_), e3⟩
        · rw [(q_chr (b k) (by omega)).1]
          refine ob a1 ?_
          unfold F_X10_append_L122
          show F_X10_append_L93 x f (nI (N + 1)) cap1 (L bf1) (lvA (k + 1) + -8) = _
          rw [lvA_p k (by omega)]
          exact e1
        · rw [q_gi (show N < 40 by omega) (by omega), q_gg, q_gl, q_cl (by omega), (q_chr (b k) (by omega)).2, L_upd, show nI N + 1 = nI (N + 1) from nI_1 N]
          unfold F_X11_append_L120
          rw [lvA_p k (by omega)]
          exact e2
      · rw [if_neg h2] at hc; cases hc
theorem m_append {N cap : Nat} {bf tp : Nat → Nat} {t x : Int32} (hR : RBf N cap bf tp) : ∃ e r b k N' cap' bf' tp', F_X10_append (nI N) cap (L bf) x = some (e, r, nI N', cap', L bf') ∧ F_X11_append t (L tp) (nI N) x = some (b, k, L tp', nI N') ∧ EK [(0, 0), (2, 1), (5, 2)] e k ∧ (e = 0 → r = b) ∧ RBf N' cap' bf' tp' := by
  obtain ⟨b, hb⟩ : ∃ b : Nat → Nat, ∀ k, byX x (lvA (k + 1)) = nI (b k) ∧ b k < 256 := by
    refine ⟨fun k => Classical.choose (q_b255 ((Int32.toUInt32 x >>> (Int32.toUInt32 (lvA (k + 1)) &&& Int32.toUInt32 31)).toInt32)), fun k => ?_⟩
    have := Classical.choose_spec (q_b255 ((Int32.toUInt32 x >>> (Int32.toUInt32 (lvA (k + 1)) &&& Int32.toUInt32 31)).toInt32))
    exact ⟨this.2, this.1⟩
  have e1 := z_ap1 (n := nI N) (cap := cap) (bs := L bf) (fun k _ => hb k) 4 1000 0 (by omega) (by omega) (by omega)
  have e2 := z_ap2 (t := t) (n := nI N) (tp := L tp) (fun k _ => hb k) 4 1000 0 (by omega) (by omega) (by omega)
  have f1 : F_X10_append (nI N) cap (L bf) x = F_X10_append_L5 x 1000 (nI N) cap (L bf) (nI 0) (lvA 4) := rfl
  have f2 : F_X11_append t (L tp) (nI N) x = F_X11_append_L5 x 1000 t (L tp) (nI N) (nI 0) (lvA 4) := rfl
  rw [f1, f2, e1, e2]
  cases hc : S_cnt b 4 0 with
  | none => exact ⟨2, 0, nI 0, nI 1, N, cap, bf, tp, rfl, rfl, EK.of (by simp), fun h => by omega, hR⟩
  | some c =>
    have hle := S_cnt_le b _ _ _ hc
    show ∃ e r b k N' cap' bf' tp', (if nI N + nI c ≤ nI 40 then _ else _) = _ ∧ (if nI N + nI c ≤ nI 40 then _ else _) = _ ∧ _
    rw [nI_add]
    have hN := hR.1
    by_cases h : N + c ≤ 40
    · obtain ⟨cap', bf', tp', e1, e2, e3⟩ := z_ap3 (t := t) (fun k _ => hb k) 4 8 1000 0 c N cap bf tp (by omega) (by omega) (by omega) hc (by omega) hR
      rw [Nat.sub_zero] at e1 e2 e3
      exact ⟨0, nI (N + c), nI (N + c), nI 0, N + c, cap', bf', tp', (if_pos (nI_le h (by omega))).trans e1, (if_pos (nI_le h (by omega))).trans e2, EK.of (by simp), fun _ => rfl, e3⟩
    · exact ⟨5, 0, nI 0, nI 2, N, cap, bf, tp, if_neg (nI_ge (by omega) (by omega)), if_neg (nI_ge (by omega) (by omega)), EK.of (by simp), fun h => by omega, hR⟩
