/-- a negative literal -/
def mI (k : Nat) : Int32 := -(Int32.ofNat k)
theorem sw_all {x : Int32} (n : Nat) (hi : Int) (hn : n < 2 ^ 31) (hh : hi = (n : Int) - 1) (h : ∀ j, j < n → ¬ x = nI j) : x.toInt < 0 ∨ hi < x.toInt := by
  rcases pk_ix x hn with h0 | h0 | ⟨j, hj, e⟩
  · left
    have := Int32.lt_iff_toInt_lt.mp h0
    simpa using this
  · right
    have := Int32.le_iff_toInt_le.mp h0
    rw [nI_toInt hn] at this
    omega
  · exact absurd e (h j hj)
def gc {α : Type} (x : Int32) (k : Option α) : Option α := if narrow .char (.int x) = .int x then k else none
theorem gc_some {α : Type} {x : Int32} {k : Option α} {a : α} (h : gc x k = some a) : narrow .char (.int x) = .int x ∧ k = some a := by
  unfold gc at h
  by_cases hc : narrow .char (.int x) = .int x
  · rw [if_pos hc] at h; exact ⟨hc, h⟩
  · rw [if_neg hc] at h; cases h
section KYM
variable {ρ : Type} {G : KyG} {E : KyE} {cc : ByteArray} {nL : Nat} {own : String} {Ts : List Cond} {ret : Option FieldType} {rm : Room} {rv : ρ → Option Value} {o : Option (ρ × Mem)} {M : Mem} {pc : Nat} {lv : List (Nat × Value)} {st : List Value}
theorem ky_bret (C : Cx G E cc nL own Ts (some .byte) rm) {x : Int32} (hx : narrow .byte (.int x) = .int x) (d : decode cc pc = .ok (.ireturn, 1)) : Wo G E nL rI (some (x, M)) M pc lv [.int x] := by
  intro r M' h H locs ls hP hS hl
  cases h
  exact W.zret C.1.1 C.1.2.1 C.2.1 hx (fun t ht hW => ⟨rfl, by rw [ht]; exact hP, hS.F ht⟩) hS.2.2 d C.2.2.1
theorem ky_cret (C : Cx G E cc nL own Ts (some .char) rm) {x : Int32} (hx : narrow .char (.int x) = .int x) (d : decode cc pc = .ok (.ireturn, 1)) : Wo G E nL rI (some (x, M)) M pc lv [.int x] := by
  intro r M' h H locs ls hP hS hl
  cases h
  exact W.zret C.1.1 C.1.2.1 C.2.1 hx (fun t ht hW => ⟨rfl, by rw [ht]; exact hP, hS.F ht⟩) hS.2.2 d C.2.2.1
theorem ky_cretG (C : Cx G E cc nL own Ts (some .char) rm) {x : Int32} (d : decode cc pc = .ok (.ireturn, 1)) : Wo G E nL rI (gc x (some (x, M))) M pc lv [.int x] := by
  intro r M' h
  obtain ⟨hx, h⟩ := gc_some h
  exact ky_cret C hx d r M' h
theorem ky_lkIn {o1 o2 : Option (ρ × Mem)} (C : Cx G E cc nL own Ts ret rm) {dflt : Int} {ps : Array (Int × Int)} {len : Nat} {x : Int32} (v : Int32) {off : Int} (t : Nat) (d : decode cc pc = .ok (.lookupswitch dflt ps, len)) (hp : (ps.toList.zip (ps.toList.drop 1)).all (fun (a, next) => a.1 < next.1) = true) (ho : Op.lookupswitch.offset ps.toList dflt v.toInt = off) (ht : (pc : Int) + off = (t : Int)) (k1 : Wo G E nL rv o1 M t lv st) (k2 : ¬ x = v → Wo G E nL rv o2 M pc lv (.int x :: st)) : Wo G E nL rv (if x = v then o1 else o2) M pc lv (.int x :: st) := by
  intro r M' h H locs ls hP hS hl
  by_cases hc : x = v
  · rw [if_pos hc] at h
    subst hc
    exact lv_lookup C.1.1 C.1.2.1 d hp ho ht (k1 r M' h H locs ls hP hS hl)
  · rw [if_neg hc] at h
    exact k2 hc r M' h H locs ls hP hS hl
theorem ky_lkOut (C : Cx G E cc nL own Ts ret rm) {dflt : Int} {ps : Array (Int × Int)} {len : Nat} {x : Int32} (t : Nat) (d : decode cc pc = .ok (.lookupswitch dflt ps, len)) (hp : (ps.toList.zip (ps.toList.drop 1)).all (fun (a, next) => a.1 < next.1) = true) (ho : Op.lookupswitch.offset ps.toList dflt x.toInt = dflt) (ht : (pc : Int) + dflt = (t : Int)) (k1 : Wo G E nL rv o M t lv st) : Wo G E nL rv o M pc lv (.int x :: st) := fun r M' h H locs ls hP hS hl => lv_lookup C.1.1 C.1.2.1 d hp ho ht (k1 r M' h H locs ls hP hS hl)
variable {cy : Nat → ClassId}
theorem ky_ldcS (C : Cx G E cc nL RX5 Ts ret rm) (hG : IsC G cy) (d : decode cc pc = .ok (.ldc 45, 2)) (kk : Wo G E nL rv o M (pc + 2) lv (.ref (gA G 36) :: st)) : Wo G E nL rv o M pc lv st := fun r M' h H locs ls hP hS hl => va_ldcS C.1.1 C.1.2.1 C.1.2.2.2.1 (hG.2.2.2.2 _ C.2.2.2.2.1).1 d (kk r M' h H locs ls hP hS hl)
theorem ky_getSvalue (C : Cx G E cc nL own Ts ret rm) (hG : IsC G cy) {i : Nat} (hm : Cond.fieldLink own i "java/lang/String" "value" "[B" ∈ Ts) (d : decode cc pc = .ok (.getfield i, 3)) (kk : Wo G E nL rv o M (pc + 3) lv (.ref (gA G 37) :: st)) : Wo G E nL rv o M pc lv (.ref (gA G 36) :: st) := fun r M' h H locs ls hP hS hl => vk_getf C.1.1 C.1.2.1 (hG.2.2.2.2 _ C.2.2.2.2.1).2.2.2.1 hS C.1.2.2.2.1 (C.1.2.2.2.2 _ hm) (fun _ h9 => h9) d (kk r M' h H locs ls hP hS hl)
theorem ky_getScoder (C : Cx G E cc nL own Ts ret rm) (hG : IsC G cy) {i : Nat} (hm : Cond.fieldLink own i "java/lang/String" "coder" "B" ∈ Ts) (d : decode cc pc = .ok (.getfield i, 3)) (kk : Wo G E nL rv o M (pc + 3) lv (.int (0 : Int32) :: st)) : Wo G E nL rv o M pc lv (.ref (gA G 36) :: st) := fun r M' h H locs ls hP hS hl => vk_getf C.1.1 C.1.2.1 (hG.2.2.2.2 _ C.2.2.2.2.1).2.2.1 hS C.1.2.2.2.1 (C.1.2.2.2.2 _ hm) (fun _ h9 => h9) d (kk r M' h H locs ls hP hS hl)
theorem ky_baldS (C : Cx G E cc nL own Ts ret rm) (hG : IsC G cy) {x : Int32} (d : decode cc pc = .ok (.baload, 1)) (kk : vp_in x 10 → Wo G E nL rv o M (pc + 1) lv (.int (bytS x.toNatClampNeg) :: st)) : Wo G E nL rv (gi x 10 o) M pc lv (.int x :: .ref (gA G 37) :: st) := by
  intro r M' h H locs ls hP hS hl
  obtain ⟨hx, h⟩ := gi_some h
  exact va_tb C.1.1 C.1.2.1 (hG.2.2.2.2 _ C.2.2.2.2.1).2.2.2.2.1 hS hx rfl d (kk hx r M' h H locs ls hP hS hl)
theorem ky_alenS (C : Cx G E cc nL own Ts ret rm) (hG : IsC G cy) (d : decode cc pc = .ok (.arraylength, 1)) (kk : Wo G E nL rv o M (pc + 1) lv (.int (10 : Int32) :: st)) : Wo G E nL rv o M pc lv (.ref (gA G 37) :: st) := fun r M' h H locs ls hP hS hl => va_tlen C.1.1 C.1.2.1 (hG.2.2.2.2 _ C.2.2.2.2.1).2.2.2.2.1 hS rfl d (kk r M' h H locs ls hP hS hl)
theorem ky_getCS (C : Cx G E cc nL own Ts ret rm) (hG : IsC G cy) {i : Nat} (hm : Cond.fieldLink own i "java/lang/String" "COMPACT_STRINGS" "Z" ∈ Ts) (d : decode cc pc = .ok (.getstatic i, 3)) (kk : Wo G E nL rv o M (pc + 3) lv (.int (1 : Int32) :: st)) : Wo G E nL rv o M pc lv st := fun r M' h H locs ls hP hS hl => va_gets C.1.1 C.1.2.1 (hG.2.2.2.2 _ C.2.2.2.2.1).2.2.2.2.2.1 hS C.1.2.2.2.1 (C.1.2.2.2.2 _ hm) (fun _ h9 => h9) d (kk r M' h H locs ls hP hS hl)
theorem ky_getSF (C : Cx G E cc nL own Ts ret rm) (hG : IsC G cy) {i : Nat} (hm : Cond.fieldLink own i "jdk/internal/util/Preconditions" "SIOOBE_FORMATTER" "Ljava/util/function/BiFunction;" ∈ Ts) (d : decode cc pc = .ok (.getstatic i, 3)) (kk : ∀ v : Value, v.category = 1 → Wo G E nL rv o M (pc + 3) lv (v :: st)) : Wo G E nL rv o M pc lv st := fun r M' h H locs ls hP hS hl => by
  obtain ⟨v, hv, hZ⟩ := (hG.2.2.2.2 _ C.2.2.2.2.1).2.2.2.2.2.2
  exact va_gets C.1.1 C.1.2.1 hZ hS C.1.2.2.2.1 (C.1.2.2.2.2 _ hm) (fun _ h9 => h9) d (kk v hv r M' h H locs ls hP hS hl)
variable {y0 : MethodName} {c0 : ByteArray} {n0 : Nat} {r0 : Option FieldType} {y' : MethodName} {cc' : ByteArray} {nL' index n : Nat} {ret' : Option FieldType} {rm' : Room} {As st0 : List Value}
theorem ky_callStri (C : Cx G E cc nL own (wY y0 c0 n0 r0) ret rm) (hG : IsC G cy) {oc : Option (Int32 × Mem)} {K : Int32 → Mem → Option (ρ × Mem)} (hM : Ct G y' (wY y' cc' nL' ret') rm' rI (.ref (gA G 36) :: As) oc M) (hg : GoodIn (wY y0 c0 n0 r0) (wsV own index RJ0 y' (wY y' cc' nL' ret')))
    (hd : y'.cls = RJ0 ∧ y'.cls ≠ "java/lang/invoke/MethodHandle" ∧ y'.cls ≠ "java/lang/invoke/VarHandle" ∧ (parseMethodDescriptor y'.desc).map (fun d => d.parameters.length) = some n) (hrm : rm'.cells = 0 ∧ rm'.slots = 0 ∧ rm'.frames + 1 ≤ rm.frames ∧ 8 + (nL' + 11) + rm'.locals ≤ rm.locals) (hn : As.length = n) (hst : st0 = As.reverse ++ .ref (gA G 36) :: st) (hroom : (st.map fun v => v.category).sum ≤ 8) (d : decode cc pc = .ok (.invokevirtual index, 3))
    (kk : ∀ (r : Int32) (M1 : Mem), Wo G E nL rv (K r M1) M1 (pc + 3) lv (.int r :: st)) : Wo G E nL rv (bd oc K) M pc lv st0 := by
  intro r M' h H locs ls hP hS hl
  obtain ⟨r1, M1, rfl, h⟩ := ky_bd h
  subst hst
  obtain ⟨C1, C2, C3, C4, C5, C6, C7⟩ := C
  refine ky_after (va_runV (As := As) (rest := st) C1 (hM r1 M1 rfl) (cwV n C1.2.2.2.2 hg rfl hrm.1 hrm.2.1 hd (by rw [C6]; exact hrm.2.2)) ⟨ky_blind C7, by
      obtain ⟨cell, h1, h2, h3, -⟩ := (hG.2.2.2.2 _ C5).2.1.kept hS.2.1
      exact ⟨cell, h1, h2, h3⟩, fun U hU hW => ⟨rfl, by rw [hU]; exact hP, va_K.moved hW.alike C4, C7.2.2 _ U hW (fun q h1 h2 => by rw [hU]; exact hS.2.1 q h1 h2) C5⟩⟩ rfl hn hl.1 rfl (lv_room hroom) d ⟨Nat.zero_le _, Nat.zero_le _⟩) hS (fun H1 locs1 hP1 hS1 => ?_)
  exact kk r1 M1 r M' h H1 locs1 ls hP1 hS1 hl
end KYM
