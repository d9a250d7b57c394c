/-! THE G LAYER: methods with handlers -/
def gCtH (l : Launch) (D : va_G) (cy : Nat → ClassId) (y : MethodName) (cc : ByteArray) (maxL : Nat) (ret : Option FieldType) (hh : List (Nat × Nat × Nat × Nat)) (fr lo mc ms : Nat) (av : List Value) (ro ws : va_W) {S : Type} (rv : S → Option Value) (w1 : S → va_W) : Prop :=
  l.stackTraces = false → ∀ sz : Nat, vx_Met l y (.codeWith y cc maxL ret hh :: gBW) (gRm fr lo mc ms) (va_Pc av (gPre D cy ro ws sz)) (gQc D cy (va_A ws sz) 0 rv w1) (gXc D cy (va_A ws sz) 0 w1) mc ms (va_A ws sz)
def gEH (X : gX) (Q : State → Prop) (mc ms : Nat) {S : Type} (rv : S → Option Value) (w1 : S → va_W) : Prop :=
  ∀ (g : JFrame) (H : Heap) (locs : List Loc) (ck sk : Nat) (u : S), ck ≤ mc → sk ≤ ms → va_P (x_D X) vwCl (w1 u) H → va_D (x_A X) (w1 u) → va_S (x_A X) (x_s X).heap H locs →
        (W (x_p X) (x_l X) (x_e X) (x_R X) (x_s X) (x_m X) (x_args X) (x_below X) (x_meth X) (x_c X) H locs mc ms (MQ (x_below X) (fun _ s o t => (o = .returned (rv u) ∧ t.heap = H ∧ s.WarmedH t.vm)) (x_args X) (x_s X) mc ms (x_A X)) g) →
        W (x_p X) (x_l X) (x_e X) (x_R X) (x_s X) (x_m X) (x_args X) (x_below X) (x_meth X) (x_c X) H locs ck sk Q g
theorem g_beginH {l : Launch} {D : va_G} {cy : Nat → ClassId} {y : MethodName} {cc : ByteArray} {maxL : Nat} {ret : Option FieldType} {hh : List (Nat × Nat × Nat × Nat)} {fr lo mc ms : Nat} {av : List Value} {ro ws : va_W} {S : Type} {rv : S → Option Value} {w1 : S → va_W}
    (hy : plainName y.cls = true) (hn : (lg_sl av).length ≤ maxL)
    (body : ∀ (X : gX) (Q : State → Prop), x_l X = l → x_R X = gRm fr lo mc ms → x_D X = D → x_y X = cy → x_ro X = ro → x_n X = maxL → gC X y.cls cc ret → (x_c X).exceptionTable.toList = tableOf hh → gEH X Q mc ms rv w1 →
      gW X Q 0 0 ws (lv_args 0 av) [] 0) : gCtH l D cy y cc maxL ret hh fr lo mc ms av ro ws rv w1 := by
  intro hl sz
  refine vx_ofWH (cc := cc) (maxL := maxL) (ret := ret) (hh := hh) hy rfl ?_
  intro p e s m args below meth c s₁ B hml hv
  obtain ⟨rfl, hsz, hP, hK, hD0, hRo, hSt⟩ := hv
  have hts := atoms_spec (ws := .codeWith y cc maxL ret hh :: gBW) B.pre
  have hown : s.vm.findClass y.cls = some m.cls := findClass_of_methodNamed B.named
  have htab : c.exceptionTable.toList = tableOf hh := vx_table (x := y) B (hts _ List.mem_cons_self)
  subst hsz
  have hD := hD0.self (sz := s.heap.size)
  have hl0 := lv_entry av (n := maxL) hn
  rw [lg_entry_eq]
  have key := body (p, l, e, gRm fr lo mc ms, s, m, av.toArray, below, meth, c, va_A ws s.heap.size, D, cy, ro, maxL)
    (vx_MQ below (gQc D cy (va_A ws s.heap.size) 0 rv w1) (gXc D cy (va_A ws s.heap.size) 0 w1) av.toArray s mc ms (va_A ws s.heap.size)) rfl rfl rfl rfl rfl rfl
    ⟨B.exec, B.bytes, hml, hown, fun w hw => hts w (List.mem_cons_of_mem _ hw), B.returns, B.notSynchronized, hK, fun q h => Or.inr h, hRo, hSt, hl⟩
    htab ?_
  · exact key s.heap [] _ hP hD va_S.rf hl0
  · intro g H locs ck sk u h1 h2 h4 h5 h6 hW
    refine vx_ret ?_
    refine W.widen h1 h2 ?_
    intro T hT XT
    obtain ⟨t, st, o, b1, b2, ⟨b3, b4, b5⟩, b6⟩ := hW T hT XT
    have h7 : va_S (va_A ws s.heap.size) s.heap H locs := h6
    exact ⟨t, st, o, b1, b2, ⟨⟨u, b3, rfl, by rw [b4]; exact h4, va_K.moved b5.alike hK, h5⟩, h7.F b4⟩, b6⟩
section GH
variable {X : gX} {own : String} {cc : ByteArray} {ret : Option FieldType} {Q : State → Prop} {ck sk pc : Nat} {ws : va_W} {lv : List (Nat × Value)} {st : List Value} {S : Type} {mc ms : Nat} {rv : S → Option Value} {w1 : S → va_W}
theorem g_iretH {v : Int32} (C : gC X own cc (some .int)) (E : gEH X Q mc ms rv w1) (u : S) (d : decode cc pc = .ok (.ireturn, 1)) (hr : rv u = some (.int v)) (hw : w1 u = ws) (h1 : ck ≤ mc) (h2 : sk ≤ ms) : gW X Q ck sk ws lv [.int v] pc := fun H locs ls a1 a2 a3 a4 => by
  subst hw
  exact E _ H locs ck sk u h1 h2 a1 a2 a3 (W.iret C.1 C.2.1 C.2.2.2.2.2.1 (fun t ht hW => ⟨by rw [hr], ht, hW⟩) a3.2.2 d C.2.2.2.2.2.2.1)
/-- what a handler's place in the table asks: those ahead of it let the object pass -/
def gPass (own : String) (E : String) (pc : Nat) (z : Nat × Nat × Nat × Nat) : Prop := (decide (z.1 ≤ pc) && decide (pc < z.2.1)) = false ∨ (z.2.2.2 ≠ 0 ∧ ∃ nm : String, Cond.classLink own z.2.2.2 nm ∈ gBW ∧ (E, nm) ∈ gNC)
theorem g_catch (C : gC X own cc ret) {hh : List (Nat × Nat × Nat × Nat)} (ht : (x_c X).exceptionTable.toList = tableOf hh) {E : String} (pre : List (Nat × Nat × Nat × Nat)) {a b h k : Nat} (suf : List (Nat × Nat × Nat × Nat)) (hs : hh = pre ++ (a, b, h, k) :: suf)
    (hp : ∀ z ∈ pre, gPass own E pc z) (hx : (decide (a ≤ pc) && decide (pc < b)) = true) (h0 : k ≠ 0) (hl : Cond.classLink own k E ∈ gBW) (hc : (E, E) ∈ gCast) (kk : ∀ q : Nat, gW X Q ck sk ws lv [.ref q] h) : gV X Q ck sk ws lv pc E := fun H locs ls rest q ce a1 a2 a3 a4 a5 a6 a7 => by
  refine vx_catch (own := own) (name := E) (E := E) (ce := ce) C.2.2.2.1 (tableOf pre) _ (tableOf suf) (by rw [ht, hs, tableOf, List.map_append, List.map_cons]; rfl) (fun z hz => ?_) hx h0 (C.2.2.2.2.1 _ hl) (va_Nw.use rfl (C.2.2.2.2.2.2.2.2.2.2.1.2.2.1.2.2.1 _ hc)) a5 a6 a7 (kk q H locs ls a1 a2 a3 a4)
  obtain ⟨w, hw, rfl⟩ := List.mem_map.mp hz
  rcases hp w hw with h1 | ⟨h1, nm, h2, h3⟩
  · exact Or.inl h1
  · exact Or.inr ⟨h1, nm, C.2.2.2.2.1 _ h2, C.2.2.2.2.2.2.2.2.2.2.1.2.2.1.2.2.2.2.1 _ h3⟩
end GH
section GHL
variable {X : gX} {own : String} {cc : ByteArray} {ret : Option FieldType} {Q : State → Prop} {ck sk pc : Nat} {ws : va_W} {lv : List (Nat × Value)} {st : List Value}
theorem g_last (C : gC X own cc ret) (q0 : Nat) {a n : Nat} {f : Nat → Int64} {i : Int32} {x : Int64} {ws' : va_W} (ha : ws[q0]? = some (a, .inl (x_y X 4, n, .inr (.inl f)))) (hin : vp_in i n) (hw : ws.set q0 (a, .inl (x_y X 4, n, .inr (.inl (vp_updL f i.toNatClampNeg x)))) = ws') (d : decode cc pc = .ok (.lastore, 1)) (kk : gW X Q ck sk ws' lv st (pc + 1)) : gW X Q ck sk ws lv (.long x :: .int i :: .ref a :: st) pc := fun H locs ls a1 a2 a3 a4 => by
  subst hw
  exact va_last C.1 C.2.1 C.2.2.2.2.2.2.2.1 a1 a2 a3 q0 4 ha rfl hin d (fun H1 l1 b1 b2 b3 => kk H1 l1 ls b1 b2 b3 a4)
theorem g_lald (C : gC X own cc ret) (q0 : Nat) {a n : Nat} {f : Nat → Int64} {i : Int32} (ha : ws[q0]? = some (a, .inl (x_y X 4, n, .inr (.inl f)))) (hin : vp_in i n) (d : decode cc pc = .ok (.laload, 1)) (kk : gW X Q ck sk ws lv (.long (f i.toNatClampNeg) :: st) (pc + 1)) : gW X Q ck sk ws lv (.int i :: .ref a :: st) pc := fun H locs ls a1 a2 a3 a4 =>
  va_lald C.1 C.2.1 C.2.2.2.2.2.2.2.1 a1 q0 4 ha rfl hin d (kk H locs ls a1 a2 a3 a4)
end GHL
