/-! LAW: worlds by blocks -/
theorem pac (a b c : va_W) : (a ++ (b ++ c)).Perm (b ++ (a ++ c)) := by
  rw [← List.append_assoc, ← List.append_assoc]
  exact List.Perm.append_right c List.perm_append_comm
theorem fl_perm {l l' : List va_W} (h : l.Perm l') : l.flatten.Perm l'.flatten := by
  induction h with
  | nil => exact List.Perm.refl _
  | cons x _ ih =>
    rw [List.flatten_cons, List.flatten_cons]
    exact List.Perm.append_left x ih
  | swap x y l =>
    rw [List.flatten_cons, List.flatten_cons, List.flatten_cons, List.flatten_cons]
    exact pac _ _ _
  | trans _ _ h1 h2 => exact h1.trans h2
def pk (Bs : List va_W) (is : List Nat) : va_W := (is.map (fun i => Bs.getD i [])).flatten
theorem pk_app (Bs : List va_W) (is js : List Nat) : pk Bs (is ++ js) = pk Bs is ++ pk Bs js := by
  unfold pk
  rw [List.map_append, List.flatten_append]
theorem pk_all (Bs : List va_W) : pk Bs (List.range Bs.length) = Bs.flatten := by
  unfold pk
  congr 1
  apply List.ext_getElem?
  intro i
  rw [List.getElem?_map]
  by_cases h : i < Bs.length
  · rw [List.getElem?_range h, List.getElem?_eq_getElem h]
    show some (Bs.getD i []) = _
    rw [List.getD_eq_getElem?_getD, List.getElem?_eq_getElem h]
    rfl
  · rw [List.getElem?_eq_none (by rw [List.length_range]; omega), List.getElem?_eq_none (by omega)]
    rfl
theorem pk_perm {Bs : List va_W} {is js : List Nat} {n : Nat} (hn : Bs.length = n) (h : (is ++ js).Perm (List.range n)) : Bs.flatten.Perm (pk Bs is ++ pk Bs js) := by
  rw [← pk_app, ← pk_all Bs, hn]
  exact (fl_perm (h.map _)).symm
theorem pk_mem {Bs : List va_W} {js : List Nat} {q : Nat × va_E} (i : Nat) (h : i ∈ js) (hq : q ∈ Bs.getD i []) : q ∈ pk Bs js := List.mem_flatten.mpr ⟨_, List.mem_map.mpr ⟨i, h, rfl⟩, hq⟩
theorem gCutP_of {ro ro' wc : va_W} {S : Type} {w1 : S → va_W} {Bs : List va_W} {Bs' : S → List va_W} (is js : List Nat) (n : Nat) (hp : (is ++ js).Perm (List.range n)) (hn : Bs.length = n) (hn' : ∀ u, (Bs' u).length = n) (hc : pk Bs is = wc) (hc' : ∀ u, pk (Bs' u) is = w1 u) (hr : ∀ u, pk (Bs' u) js = pk Bs js) (hro : ∀ q ∈ ro', q ∈ pk Bs js ∨ q ∈ ro) : gCutP Bs.flatten ro wc (pk Bs js) ro' w1 (fun u => (Bs' u).flatten) :=
  ⟨by rw [← hc]; exact pk_perm hn hp, hro, fun u => by rw [← hc' u, ← hr u]; exact List.perm_append_comm.trans (pk_perm (hn' u) hp).symm⟩
theorem no_ro {A B : va_W} : ∀ q ∈ ([] : va_W), q ∈ A ∨ q ∈ B := fun _ h => nomatch h
/-- the four slots -/
abbrev Bsec (cy : Nat → ClassId) (c : Nat → Nat → Nat) (fi th ep : Nat → Nat) (ru : Nat → Option Nat) (cm vs es : Nat → Nat → Nat) (s : Nat) : va_W := wSec cy (c s) (nI (fi s)) (nI (th s)) (nI (ep s)) (ru s) (L (cm s)) (L (vs s)) (L (es s))
def sl4 (B : Nat → va_W) : va_W := B 0 ++ (B 1 ++ (B 2 ++ B 3))
def slr (B : Nat → va_W) : Nat → va_W
  | 0 => B 1 ++ (B 2 ++ B 3)
  | 1 => B 0 ++ (B 2 ++ B 3)
  | 2 => B 0 ++ (B 1 ++ B 3)
  | _ => B 0 ++ (B 1 ++ B 2)
theorem sl4_perm {B : Nat → va_W} {s : Nat} (hs : s < 4) : (sl4 B).Perm (B s ++ slr B s) := by
  have h : s = 0 ∨ s = 1 ∨ s = 2 ∨ s = 3 := by omega
  rcases h with rfl | rfl | rfl | rfl
  · exact List.Perm.refl _
  · exact pac _ _ _
  · exact (List.Perm.append_left _ (pac _ _ _)).trans (pac _ _ _)
  · refine (List.Perm.append_left _ (List.Perm.append_left _ List.perm_append_comm)).trans ?_
    exact (List.Perm.append_left _ (pac _ _ _)).trans (pac _ _ _)
theorem slr_up {cy : Nat → ClassId} {c : Nat → Nat → Nat} {fi th ep : Nat → Nat} {ru : Nat → Option Nat} {cm vs es : Nat → Nat → Nat} {s f t e : Nat} {r : Option Nat} {cm' vs' es' : Nat → Nat} (hs : s < 4) : slr (Bsec cy c (upA fi s f) (upA th s t) (upA ep s e) (upA ru s r) (upA cm s cm') (upA vs s vs') (upA es s es')) s = slr (Bsec cy c fi th ep ru cm vs es) s := by
  have h : s = 0 ∨ s = 1 ∨ s = 2 ∨ s = 3 := by omega
  rcases h with rfl | rfl | rfl | rfl <;> rfl
/-- the law's whole world: both sides, the long that answers come in -/
def LBx (cy : Nat → ClassId) (v b k r a : Nat → Nat) (c0 : Nat → Nat) (sa : Nat → Option Nat) (sb lb o0 : Nat) (ak fa : Int32) (co ch gs op : Nat → Int32) (z pr le ec : Int32) (wt ev : Nat → Int32) (f t e : Int32) (ru : Option Nat) (cm vs es : Nat → Int32) (SR KW : va_W) (sy : Nat) (ml n : Int32) (cap : Nat) (bs : Nat → Int32) (ly : Nat) (ml2 n2 : Int32) (cap2 : Nat) (lf : Nat → Int32) (rs : Int32) (rc rd : Nat → Int32) (PW : va_W) (thr : Int32) (g sv : Nat → Int32) (hs : Int32) (cf nd : Nat → Int32) (nm isd : Int32) (cd dt : Nat → Int32) (lm : Int32) (gv pa : Nat → Int32) (pq : Int32) (tp : Nat → Int32) (tpn wa at_ va rp rv re : Int32) (ot : Nat → Int64) : List va_W :=
  [wV cy v (b 0) (k 0) ak sb fa (r 0) lb co ch gs op, wSt cy b z pr le ec wt sa ev, wSec cy c0 f t e ru cm vs es, SR, KW, wSb cy sb sy ml n cap bs, wSb cy lb ly ml2 n2 cap2 lf, wRep cy r rs rc rd, PW, wM cy a thr g sv hs cf nd nm isd cd dt lm gv pa pq tp tpn wa at_ va rp rv re, wO cy o0 ot]
abbrev sa4 (c : Nat → Nat → Nat) : Nat → Option Nat := gA4 (c 0 0) (c 1 0) (c 2 0) (c 3 0)
theorem sa4_at {c : Nat → Nat → Nat} {x : Int32} {s : Nat} (hx : SA x s) : gi x 4 = true → sa4 c (Int32.toNatClampNeg x) = some (c s 0) := by
  intro h
  obtain ⟨hs, h1, -⟩ := hx
  rw [h1 h, q_cl (show s < 2 ^ 31 by omega)]
  have h : s = 0 ∨ s = 1 ∨ s = 2 ∨ s = 3 := by omega
  rcases h with rfl | rfl | rfl | rfl <;> rfl
/-- what is kept -/
def KIn (cy : Nat → ClassId) (k : Nat → Nat) (u : Nat → Nat → Nat) (PW : va_W) (sv : Nat → Nat) (n hs : Nat) (KW : va_W) : Prop := ∃ (z : Int32) (pr le ec : Nat) (wt ev fi th ep : Nat → Nat) (ru : Nat → Option Nat) (cm vs es : Nat → Nat → Nat), KW = wSt cy k z (nI pr) (nI le) (nI ec) (L wt) (sa4 u) (L ev) ++ sl4 (Bsec cy u fi th ep ru cm vs es) ∧ (hs = 1 → JS1 cy PW sv n z pr le ec wt ev fi th ep ru cm vs es)
theorem KIn.next {cy : Nat → ClassId} {k : Nat → Nat} {u : Nat → Nat → Nat} {PW PW' : va_W} {sv : Nat → Nat} {n hs : Nat} {KW : va_W} (h : KIn cy k u PW sv n hs KW) (hP : ∀ x ∈ PW, x ∈ PW') : KIn cy k u PW' sv (n + 1) hs KW := by
  obtain ⟨z, pr, le, ec, wt, ev, fi, th, ep, ru, cm, vs, es, h1, h2⟩ := h
  exact ⟨z, pr, le, ec, wt, ev, fi, th, ep, ru, cm, vs, es, h1, fun h => (h2 h).same.more hP⟩
theorem perm2 {X Y X' Y' : va_W} (R : va_W) (h : (X ++ Y).Perm (X' ++ Y')) : (X ++ (Y ++ R)).Perm (X' ++ (Y' ++ R)) := by
  rw [← List.append_assoc X, ← List.append_assoc X']
  exact List.Perm.append_right R h
def LBd (cy : Nat → ClassId) (v b k r a : Nat → Nat) (c u : Nat → Nat → Nat) (sb lb o0 n : Nat) (ws : va_W) (s : Nat) : Prop :=
  ∃ (hs : Nat) (fa : Int32) (co ch gs op : Nat → Nat) (z : Int32) (pr le ec : Nat) (wt ev : Nat → Nat) (fi th ep : Nat → Nat) (ru : Nat → Option Nat) (cm vs es : Nat → Nat → Nat) (KW : va_W) (sy : Nat) (ml : Int32) (N cap : Nat) (bf : Nat → Nat) (ly : Nat) (ml2 : Int32) (N2 cap2 : Nat) (lf : Nat → Nat) (rs : Nat) (rc rd : Nat → Nat) (PW : va_W) (thr : Int32) (w sv cf nd : Nat → Nat) (nm isd : Int32) (cd dt gv pa : Nat → Nat) (pq : Int32) (tp : Nat → Nat) (at_ va rp rv re : Int32) (ot : Nat → Int64),
    ws.Perm (LBx cy v b k r a (c s) (sa4 c) sb lb o0 (nI hs) fa (L co) (L ch) (L gs) (L op) z (nI pr) (nI le) (nI ec) (L wt) (L ev) (nI (fi s)) (nI (th s)) (nI (ep s)) (ru s) (L (cm s)) (L (vs s)) (L (es s)) (slr (Bsec cy c fi th ep ru cm vs es) s) KW sy ml (nI N) cap (L bf) ly ml2 (nI N2) cap2 (L lf) (nI rs) (L rc) (L rd) PW thr (L w) (L sv) (nI hs) (L cf) (L nd) nm isd (L cd) (L dt) (nI rs) (L gv) (L pa) pq (L tp) (nI N) fa at_ va rp rv re ot).flatten ∧ JS1 cy PW w n z pr le ec wt ev fi th ep ru cm vs es ∧ hs ≤ 1 ∧ KIn cy k u PW sv n hs KW ∧ RRep rs rc rd cd dt ∧ RBf N cap bf tp ∧ Bf N2 cap2 lf
def LInv (cy : Nat → ClassId) (v b k r a : Nat → Nat) (c u : Nat → Nat → Nat) (sb lb o0 n : Nat) (ws : va_W) : Prop := ∃ s, s < 4 ∧ LBd cy v b k r a c u sb lb o0 n ws s
theorem LInv.at {cy : Nat → ClassId} {v b k r a : Nat → Nat} {c u : Nat → Nat → Nat} {sb lb o0 n : Nat} {ws : va_W} (h : LInv cy v b k r a c u sb lb o0 n ws) {s : Nat} (hs : s < 4) : LBd cy v b k r a c u sb lb o0 n ws s := by
  obtain ⟨s0, h0, hs', fa, co, ch, gs, op, z, pr, le, ec, wt, ev, fi, th, ep, ru, cm, vs, es, KW, sy, ml, N, cap, bf, ly, ml2, N2, cap2, lf, rs, rc, rd, PW, thr, w, sv, cf, nd, nm, isd, cd, dt, gv, pa, pq, tp, at_, va, rp, rv, re, ot, h1, h2, h3, h4, h5, h6, h7⟩ := h
  refine ⟨hs', fa, co, ch, gs, op, z, pr, le, ec, wt, ev, fi, th, ep, ru, cm, vs, es, KW, sy, ml, N, cap, bf, ly, ml2, N2, cap2, lf, rs, rc, rd, PW, thr, w, sv, cf, nd, nm, isd, cd, dt, gv, pa, pq, tp, at_, va, rp, rv, re, ot, h1.trans ?_, h2, h3, h4, h5, h6, h7⟩
  unfold LBx
  simp only [List.flatten_cons]
  refine List.Perm.append_left _ (List.Perm.append_left _ ?_)
  exact perm2 _ ((sl4_perm (B := Bsec cy c fi th ep ru cm vs es) h0).symm.trans (sl4_perm (B := Bsec cy c fi th ep ru cm vs es) hs))
theorem LInv.mk_ {cy : Nat → ClassId} {v b k r a : Nat → Nat} {c u : Nat → Nat → Nat} {sb lb o0 n s hs : Nat} {fa : Int32} {co ch gs op : Nat → Nat} {z : Int32} {pr le ec : Nat} {wt ev : Nat → Nat} {fi th ep : Nat → Nat} {ru : Nat → Option Nat} {cm vs es : Nat → Nat → Nat} {f t e : Nat} {rr : Option Nat} {cm' vs' es' : Nat → Nat} {KW : va_W} {sy : Nat} {ml : Int32} {N cap : Nat} {bf : Nat → Nat} {ly : Nat} {ml2 : Int32} {N2 cap2 : Nat} {lf : Nat → Nat} {rs : Nat} {rc rd : Nat → Nat} {PW : va_W} {thr : Int32} {w sv cf nd : Nat → Nat} {nm isd : Int32} {cd dt gv pa : Nat → Nat} {pq : Int32} {tp : Nat → Nat} {at_ va rp rv re : Int32} {ot : Nat → Int64} (h4 : s < 4)
    (J : JS1 cy PW w n z pr le ec wt ev (upA fi s f) (upA th s t) (upA ep s e) (upA ru s rr) (upA cm s cm') (upA vs s vs') (upA es s es')) (h1 : hs ≤ 1) (hK : KIn cy k u PW sv n hs KW) (hR : RRep rs rc rd cd dt) (hB : RBf N cap bf tp) (hL : Bf N2 cap2 lf) :
    LInv cy v b k r a c u sb lb o0 n (LBx cy v b k r a (c s) (sa4 c) sb lb o0 (nI hs) fa (L co) (L ch) (L gs) (L op) z (nI pr) (nI le) (nI ec) (L wt) (L ev) (nI f) (nI t) (nI e) rr (L cm') (L vs') (L es') (slr (Bsec cy c fi th ep ru cm vs es) s) KW sy ml (nI N) cap (L bf) ly ml2 (nI N2) cap2 (L lf) (nI rs) (L rc) (L rd) PW thr (L w) (L sv) (nI hs) (L cf) (L nd) nm isd (L cd) (L dt) (nI rs) (L gv) (L pa) pq (L tp) (nI N) fa at_ va rp rv re ot).flatten := by
  refine ⟨s, h4, hs, fa, co, ch, gs, op, z, pr, le, ec, wt, ev, upA fi s f, upA th s t, upA ep s e, upA ru s rr, upA cm s cm', upA vs s vs', upA es s es', KW, sy, ml, N, cap, bf, ly, ml2, N2, cap2, lf, rs, rc, rd, PW, thr, w, sv, cf, nd, nm, isd, cd, dt, gv, pa, pq, tp, at_, va, rp, rv, re, ot, ?_, J, h1, hK, hR, hB, hL⟩
  rw [slr_up h4, upA_s, upA_s, upA_s, upA_s, upA_s, upA_s, upA_s]
theorem pol_ro {cy : Nat → ClassId} {PW A B : va_W} {ru : Option Nat} {q1 t0 t1 : Nat} {pp pn pm : Int32} {ful : Nat → Int32} {hash hz : Int32} {tn : Nat} {tb : Nat → Int32} (h : ∀ q0, ru = some q0 → ∀ x ∈ wPo cy q0 q1 t0 t1 pp pn pm ful hash hz tn tb, x ∈ PW) (hA : ∀ x ∈ PW, x ∈ A) : ∀ q ∈ gOpt ru (wPo cy (ru.getD 0) q1 t0 t1 pp pn pm ful hash hz tn tb), q ∈ A ∨ q ∈ B := by
  intro q hq
  cases ru with
  | none => exact (nomatch hq)
  | some q0 => exact Or.inl (hA _ (h q0 rfl q hq))
theorem pol_hp {ru : Option Nat} : ¬ ru = none → ru = some (ru.getD 0) := by
  intro h
  cases ru with
  | none => exact absurd rfl h
  | some q => rfl
