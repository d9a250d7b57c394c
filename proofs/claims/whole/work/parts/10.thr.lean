/-! THE G LAYER: throws -/
def gThF (own : String) (ik ic : Nat) (cls : String) (names : List String) : Prop :=
  Bundle.fit cls = true ∧ (∀ n ∈ names, Bundle.fit n = true) ∧ Cond.classLink own ik cls ∈ gBW ∧ Cond.initialized cls ∈ gBW ∧ (∀ w ∈ (vx_atS own ic cls names).filter goodWord, w ∈ lw_tbl) ∧ (∀ w ∈ (vx_atS own ic cls names).filter (fun w => !goodWord w), w ∈ Cond.castable cls cls :: gDecl.map Cond.declares) ∧ (cls, cls) ∈ gCast ∧ (∀ w ∈ Cond.classLink own ik cls :: Cond.initialized cls :: vx_atS own ic cls names, vx_ot w = true)
section GT
variable {X : gX} {own : String} {cc : ByteArray} {ret : Option FieldType} {Q : State → Prop} {ck sk pc : Nat} {ws : va_W} {lv : List (Nat × Value)} {st : List Value} {S : Type} {mc ms e0 : Nat} {rv : S → Option Value} {w1 : S → va_W}
theorem gTh_at (C : gC X own cc ret) {ik ic : Nat} {cls : String} {names : List String} (F : gThF own ik ic cls names) : ∀ w ∈ vx_atS own ic cls names, w.before (x_args X) (x_s X) = true :=
  vx_hat (B := Cond.castable cls cls :: gDecl.map Cond.declares) (fun w hw => C.2.2.2.2.1 w (gBW_of (F.2.2.2.2.1 w hw) ((List.mem_filter.mp hw).2))) F.2.2.2.2.2.1 (vx_c (va_Nw.use rfl (C.2.2.2.2.2.2.2.2.2.2.1.2.2.1.2.2.1 _ F.2.2.2.2.2.2.1)) (fun w hw => by
    obtain ⟨y, hy, rfl⟩ := List.mem_map.mp hw
    exact va_Nw.use rfl (C.2.2.2.2.2.2.2.2.2.2.1.2.2.1.2.2.2.2.2 y hy)))
theorem g_throwS (C : gC X own cc ret) (E : gE X Q mc ms e0 rv w1) (u : S) {ik is ic : Nat} {cls text : String} {names : List String} (F : gThF own ik ic cls names) (hstr : (own, is, text) ∈ gStrs)
    (d0 : decode cc pc = .ok (.new ik, 3)) (d3 : decode cc (pc + 3) = .ok (.dup, 1)) (d4 : decode cc (pc + 4) = .ok (.ldc is, 2)) (d6 : decode cc (pc + 6) = .ok (.invokespecial ic, 3)) (d9 : decode cc (pc + 9) = .ok (.athrow, 1))
    (hf : names.length + 3 < (x_R X).frames ∧ (st.map fun v => v.category).sum + (13 * (names.length + 1) + 43) ≤ (x_R X).locals) (hr : ck + 1 ≤ (x_R X).cells ∧ sk + 6 ≤ (x_R X).slots)
    (he : e0 ≠ 0) (hE : cls = gExn e0) (hw : w1 u = ws) (h1 : ck + 1 ≤ mc) (h2 : sk + 6 ≤ ms) : gW X Q ck sk ws lv st pc := fun H locs ls a1 a2 a3 a4 => by
  subst hw
  obtain ⟨Qc, XC, hQ, hX⟩ := E.2.2.1
  subst hQ
  obtain ⟨sa, hsa⟩ := C.2.2.2.2.2.2.2.2.2.2.1.2.2.1.1 _ hstr
  exact vx_throwS C.1 C.2.1 C.2.2.2.2.2.2.2.2.2.2.2 C.2.2.2.1 F.1 F.2.1 (C.2.2.2.2.1 _ F.2.2.1) (C.2.2.2.2.1 _ F.2.2.2.1) hsa (gTh_at C F) F.2.2.2.2.2.2.2 C.2.2.2.2.2.2.2.2.2.2.1.1 C.2.2.2.2.2.2.2.2.2.2.1.2.1 a3 (a4.1.trans C.2.2.1.symm) d0 d3 d4 d6 d9 (fun x hx => by rw [E.2.2.2] at hx; cases hx) hf.1 hf.2 hr.1 hr.2 C.2.2.2.2.2.2.1 (fun t ha hz hk => by rw [hE]; exact hX H locs u t he a1 a2 a3 ha hz hk) a3.2.2 h1 h2
theorem g_throwSW (C : gC X own cc ret) (E : gE X Q mc ms e0 rv w1) (u : S) {ik is ic : Nat} {cls text : String} {names : List String} (F : gThF own ik ic cls names) (hstr : (own, is, text) ∈ gStrs)
    (d0 : decode cc pc = .ok (.new ik, 3)) (d3 : decode cc (pc + 3) = .ok (.dup, 1)) (d4 : decode cc (pc + 4) = .ok (.ldc_w is, 3)) (d7 : decode cc (pc + 7) = .ok (.invokespecial ic, 3)) (d10 : decode cc (pc + 10) = .ok (.athrow, 1))
    (hf : names.length + 3 < (x_R X).frames ∧ (st.map fun v => v.category).sum + (13 * (names.length + 1) + 43) ≤ (x_R X).locals) (hr : ck + 1 ≤ (x_R X).cells ∧ sk + 6 ≤ (x_R X).slots)
    (he : e0 ≠ 0) (hE : cls = gExn e0) (hw : w1 u = ws) (h1 : ck + 1 ≤ mc) (h2 : sk + 6 ≤ ms) : gW X Q ck sk ws lv st pc := fun H locs ls a1 a2 a3 a4 => by
  subst hw
  obtain ⟨Qc, XC, hQ, hX⟩ := E.2.2.1
  subst hQ
  obtain ⟨sa, hsa⟩ := C.2.2.2.2.2.2.2.2.2.2.1.2.2.1.1 _ hstr
  exact vx_throwSW C.1 C.2.1 C.2.2.2.2.2.2.2.2.2.2.2 C.2.2.2.1 F.1 F.2.1 (C.2.2.2.2.1 _ F.2.2.1) (C.2.2.2.2.1 _ F.2.2.2.1) hsa (gTh_at C F) F.2.2.2.2.2.2.2 C.2.2.2.2.2.2.2.2.2.2.1.1 C.2.2.2.2.2.2.2.2.2.2.1.2.1 a3 (a4.1.trans C.2.2.1.symm) d0 d3 d4 d7 d10 (fun x hx => by rw [E.2.2.2] at hx; cases hx) hf.1 hf.2 hr.1 hr.2 C.2.2.2.2.2.2.1 (fun t ha hz hk => by rw [hE]; exact hX H locs u t he a1 a2 a3 ha hz hk) a3.2.2 h1 h2
end GT
abbrev gNm : List String := ["java/lang/RuntimeException", "java/lang/Exception"]
theorem gTh_1 : gThF "SecretVault" 356 360 "java/lang/IndexOutOfBoundsException" gNm := ⟨by decide +kernel, by decide +kernel, by decide +kernel, by decide +kernel, by decide +kernel, by decide +kernel, by decide +kernel, by decide +kernel⟩
theorem gTh_2 : gThF "SecretVault" 65 69 "java/lang/IllegalArgumentException" gNm := ⟨by decide +kernel, by decide +kernel, by decide +kernel, by decide +kernel, by decide +kernel, by decide +kernel, by decide +kernel, by decide +kernel⟩
theorem gTh_4 : gThF "SecretVault" 405 409 "java/lang/UnsupportedOperationException" gNm := ⟨by decide +kernel, by decide +kernel, by decide +kernel, by decide +kernel, by decide +kernel, by decide +kernel, by decide +kernel, by decide +kernel⟩
theorem gTh_5 : gThF "SecretVault" 172 176 "java/lang/IllegalStateException" gNm := ⟨by decide +kernel, by decide +kernel, by decide +kernel, by decide +kernel, by decide +kernel, by decide +kernel, by decide +kernel, by decide +kernel⟩
theorem gTh_6 : gThF "SecretVault" 313 317 "java/lang/ArithmeticException" gNm := ⟨by decide +kernel, by decide +kernel, by decide +kernel, by decide +kernel, by decide +kernel, by decide +kernel, by decide +kernel, by decide +kernel⟩
theorem ms_358 : ("SecretVault", 358, "no such member") ∈ gStrs := by decide +kernel
theorem ms_67 : ("SecretVault", 67, "the weight is out of range") ∈ gStrs := by decide +kernel
theorem ms_365 : ("SecretVault", 365, "no such property") ∈ gStrs := by decide +kernel
theorem ms_361 : ("SecretVault", 361, "no such slot") ∈ gStrs := by decide +kernel
theorem ms_369 : ("SecretVault", 369, "the value is out of range") ∈ gStrs := by decide +kernel
theorem ms_371 : ("SecretVault", 371, "the threshold is out of range") ∈ gStrs := by decide +kernel
theorem ms_376 : ("SecretVault", 376, "the present members have too few used places") ∈ gStrs := by decide +kernel
theorem ms_378 : ("SecretVault", 378, "the slot is empty") ∈ gStrs := by decide +kernel
theorem ms_367 : ("SecretVault", 367, "a bit is set for no member") ∈ gStrs := by decide +kernel
theorem ms_407 : ("SecretVault", 407, "the policy is not fulfilled") ∈ gStrs := by decide +kernel
theorem ms_414 : ("SecretVault", 414, "there are too few shares") ∈ gStrs := by decide +kernel
theorem ms_174 : ("SecretVault", 174, "the members have too few shares") ∈ gStrs := by decide +kernel
theorem ms_188 : ("SecretVault", 188, "no such commitment") ∈ gStrs := by decide +kernel
theorem ms_241 : ("SecretVault", 241, "no such place") ∈ gStrs := by decide +kernel
theorem ms_380 : ("SecretVault", 380, "there is no share at this place") ∈ gStrs := by decide +kernel
theorem ms_363 : ("SecretVault", 363, "the index is less than -1") ∈ gStrs := by decide +kernel
theorem ms_216 : ("SecretVault", 216, "the text of the share has no such index") ∈ gStrs := by decide +kernel
theorem ms_232 : ("SecretVault", 232, "the text of the share has an error") ∈ gStrs := by decide +kernel
theorem ms_243 : ("SecretVault", 243, "a character is not from 33 to 126") ∈ gStrs := by decide +kernel
theorem ms_245 : ("SecretVault", 245, "the buffer would hold too many characters") ∈ gStrs := by decide +kernel
theorem ms_261 : ("SecretVault", 261, "the text of the policy has an error") ∈ gStrs := by decide +kernel
theorem ms_382 : ("SecretVault", 382, "there is no policy") ∈ gStrs := by decide +kernel
theorem ms_281 : ("SecretVault", 281, "the text of the policy has no such index") ∈ gStrs := by decide +kernel
theorem ms_300 : ("SecretVault", 300, "no such set") ∈ gStrs := by decide +kernel
theorem ms_315 : ("SecretVault", 315, "there are no shares") ∈ gStrs := by decide +kernel
theorem ms_325 : ("SecretVault", 325, "no such level") ∈ gStrs := by decide +kernel
theorem ms_336 : ("SecretVault", 336, "no such event") ∈ gStrs := by decide +kernel
theorem ms_354 : ("SecretVault", 354, "nothing was saved") ∈ gStrs := by decide +kernel
theorem mn_Secret_66 : ("SecretVault$Secret", 66, (⟨"SecretVault", "ownerOf", "(I)I"⟩ : MethodName), "SecretVault") ∈ gNest := by decide +kernel
theorem mn_Secret_69 : ("SecretVault$Secret", 69, (⟨"SecretVault", "contains", "(II)Z"⟩ : MethodName), "SecretVault") ∈ gNest := by decide +kernel
theorem mn_State_59 : ("SecretVault$State", 59, (⟨"SecretVault", "contains", "(II)Z"⟩ : MethodName), "SecretVault") ∈ gNest := by decide +kernel
theorem mn_State_55 : ("SecretVault$State", 55, (⟨"SecretVault", "ownerOf", "(I)I"⟩ : MethodName), "SecretVault") ∈ gNest := by decide +kernel
theorem mn_State_63 : ("SecretVault$State", 63, (⟨"SecretVault", "firstPlace", "(I)I"⟩ : MethodName), "SecretVault") ∈ gNest := by decide +kernel
theorem mn_Judge_54 : ("SecretVault$Judge", 54, (⟨"SecretVault", "contains", "(II)Z"⟩ : MethodName), "SecretVault") ∈ gNest := by decide +kernel
