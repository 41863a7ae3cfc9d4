section KYC2
variable {ρ ρ' : Type} {G : KyG} {E : KyE} {cc : ByteArray} {nL : Nat} {own : String} {Ts : List Cond} {ret : Option FieldType} {rm : Room} {rv : ρ → Option Value} {o : Option (ρ × Mem)} {M : Mem} {pc : Nat} {lv : List (Nat × Value)} {st st0 : List Value}
variable {y0 : MethodName} {c0 : ByteArray} {n0 : Nat} {r0 : Option FieldType} {y' : MethodName} {cc' : ByteArray} {nL' index n : Nat} {ret' : Option FieldType} {rm' : Room} {As : List Value} {i ci N' : Nat} {CN : String} {T : u_T} {fl : (Nat → Int32) → Int64 → List Value}
theorem ky_callVi (C : Cx G E cc nL own (wY y0 c0 n0 r0) ret rm) {oc : Option (Int32 × Mem)} {K : Int32 → Mem → Option (ρ × Mem)} (hM : Ct G y' (wY y' cc' nL' ret') rm' rI (.ref (gA G i) :: As) oc M) (hi : i < gN G) (cw : ∀ r h, gW G r h i = .inr (ci, fl r h)) (hc : vwCl[ci]? = some (CN, T, N')) (hg : GoodIn (wY y0 c0 n0 r0) (wsV own index CN y' (wY y' cc' nL' ret'))) (hd : y'.cls = CN ∧ y'.cls ≠ "java/lang/invoke/MethodHandle" ∧ y'.cls ≠ "java/lang/invoke/VarHandle" ∧ (parseMethodDescriptor y'.desc).map (fun d => d.parameters.length) = some n) (hrm : rm'.cells = 0 ∧ rm'.slots = 0 ∧ rm'.frames + 1 ≤ rm.frames ∧ 8 + (nL' + 11) + rm'.locals ≤ rm.locals) (hn : As.length = n) (hst : st0 = As.reverse ++ .ref (gA G i) :: st) (hroom : (st.map fun v => v.category).sum ≤ 8) (d : decode cc pc = .ok (.invokevirtual index, 3)) (kk : ∀ (r : Int32) (M1 : Mem), Wo G E nL rv (K r M1) M1 (pc + 3) lv (.int r :: st)) : Wo G E nL rv (bd oc K) M pc lv st0 := ky_callV0 C hM hi cw hc hg hd hrm hn hst hroom d kk
theorem ky_callVl (C : Cx G E cc nL own (wY y0 c0 n0 r0) ret rm) {oc : Option (Int64 × Mem)} {K : Int64 → Mem → Option (ρ × Mem)} (hM : Ct G y' (wY y' cc' nL' ret') rm' rL (.ref (gA G i) :: As) oc M) (hi : i < gN G) (cw : ∀ r h, gW G r h i = .inr (ci, fl r h)) (hc : vwCl[ci]? = some (CN, T, N')) (hg : GoodIn (wY y0 c0 n0 r0) (wsV own index CN y' (wY y' cc' nL' ret'))) (hd : y'.cls = CN ∧ y'.cls ≠ "java/lang/invoke/MethodHandle" ∧ y'.cls ≠ "java/lang/invoke/VarHandle" ∧ (parseMethodDescriptor y'.desc).map (fun d => d.parameters.length) = some n) (hrm : rm'.cells = 0 ∧ rm'.slots = 0 ∧ rm'.frames + 1 ≤ rm.frames ∧ 8 + (nL' + 11) + rm'.locals ≤ rm.locals) (hn : As.length = n) (hst : st0 = As.reverse ++ .ref (gA G i) :: st) (hroom : (st.map fun v => v.category).sum ≤ 8) (d : decode cc pc = .ok (.invokevirtual index, 3)) (kk : ∀ (r : Int64) (M1 : Mem), Wo G E nL rv (K r M1) M1 (pc + 3) lv (.long r :: st)) : Wo G E nL rv (bd oc K) M pc lv st0 := ky_callV0 C hM hi cw hc hg hd hrm hn hst hroom d kk
theorem ky_callVv (C : Cx G E cc nL own (wY y0 c0 n0 r0) ret rm) {oc : Option (Unit × Mem)} {K : Unit → Mem → Option (ρ × Mem)} (hM : Ct G y' (wY y' cc' nL' ret') rm' rV (.ref (gA G i) :: As) oc M) (hi : i < gN G) (cw : ∀ r h, gW G r h i = .inr (ci, fl r h)) (hc : vwCl[ci]? = some (CN, T, N')) (hg : GoodIn (wY y0 c0 n0 r0) (wsV own index CN y' (wY y' cc' nL' ret'))) (hd : y'.cls = CN ∧ y'.cls ≠ "java/lang/invoke/MethodHandle" ∧ y'.cls ≠ "java/lang/invoke/VarHandle" ∧ (parseMethodDescriptor y'.desc).map (fun d => d.parameters.length) = some n) (hrm : rm'.cells = 0 ∧ rm'.slots = 0 ∧ rm'.frames + 1 ≤ rm.frames ∧ 8 + (nL' + 11) + rm'.locals ≤ rm.locals) (hn : As.length = n) (hst : st0 = As.reverse ++ .ref (gA G i) :: st) (hroom : (st.map fun v => v.category).sum ≤ 8) (d : decode cc pc = .ok (.invokevirtual index, 3)) (kk : ∀ (r : Unit) (M1 : Mem), Wo G E nL rv (K r M1) M1 (pc + 3) lv st) : Wo G E nL rv (bd oc K) M pc lv st0 := ky_callV0 C hM hi cw hc hg hd hrm hn hst hroom d kk
theorem ky_callSi (C : Cx G E cc nL own (wY y0 c0 n0 r0) ret rm) {oc : Option (Int32 × Mem)} {K : Int32 → Mem → Option (ρ × Mem)} (hM : Ct G y' (wY y' cc' nL' ret') rm' rI As oc M) (hg : GoodIn (wY y0 c0 n0 r0) (va_wsS own index y' (wY y' cc' nL' ret'))) (hd : y'.cls ≠ "java/lang/invoke/MethodHandle" ∧ y'.cls ≠ "java/lang/invoke/VarHandle" ∧ (parseMethodDescriptor y'.desc).map (fun d => d.parameters.length) = some n) (hrm : rm'.cells = 0 ∧ rm'.slots = 0 ∧ rm'.frames + 1 ≤ rm.frames ∧ 8 + (nL' + 11) + rm'.locals ≤ rm.locals) (hn : As.length = n) (hst : st0 = As.reverse ++ st) (hroom : (st.map fun v => v.category).sum ≤ 8) (d : decode cc pc = .ok (.invokestatic index, 3)) (kk : ∀ (r : Int32) (M1 : Mem), Wo G E nL rv (K r M1) M1 (pc + 3) lv (.int r :: st)) : Wo G E nL rv (bd oc K) M pc lv st0 := ky_callS0 C hM hg hd hrm hn hst hroom d kk
theorem ky_callSl (C : Cx G E cc nL own (wY y0 c0 n0 r0) ret rm) {oc : Option (Int64 × Mem)} {K : Int64 → Mem → Option (ρ × Mem)} (hM : Ct G y' (wY y' cc' nL' ret') rm' rL As oc M) (hg : GoodIn (wY y0 c0 n0 r0) (va_wsS own index y' (wY y' cc' nL' ret'))) (hd : y'.cls ≠ "java/lang/invoke/MethodHandle" ∧ y'.cls ≠ "java/lang/invoke/VarHandle" ∧ (parseMethodDescriptor y'.desc).map (fun d => d.parameters.length) = some n) (hrm : rm'.cells = 0 ∧ rm'.slots = 0 ∧ rm'.frames + 1 ≤ rm.frames ∧ 8 + (nL' + 11) + rm'.locals ≤ rm.locals) (hn : As.length = n) (hst : st0 = As.reverse ++ st) (hroom : (st.map fun v => v.category).sum ≤ 8) (d : decode cc pc = .ok (.invokestatic index, 3)) (kk : ∀ (r : Int64) (M1 : Mem), Wo G E nL rv (K r M1) M1 (pc + 3) lv (.long r :: st)) : Wo G E nL rv (bd oc K) M pc lv st0 := ky_callS0 C hM hg hd hrm hn hst hroom d kk
theorem ky_callSv (C : Cx G E cc nL own (wY y0 c0 n0 r0) ret rm) {oc : Option (Unit × Mem)} {K : Unit → Mem → Option (ρ × Mem)} (hM : Ct G y' (wY y' cc' nL' ret') rm' rV As oc M) (hg : GoodIn (wY y0 c0 n0 r0) (va_wsS own index y' (wY y' cc' nL' ret'))) (hd : y'.cls ≠ "java/lang/invoke/MethodHandle" ∧ y'.cls ≠ "java/lang/invoke/VarHandle" ∧ (parseMethodDescriptor y'.desc).map (fun d => d.parameters.length) = some n) (hrm : rm'.cells = 0 ∧ rm'.slots = 0 ∧ rm'.frames + 1 ≤ rm.frames ∧ 8 + (nL' + 11) + rm'.locals ≤ rm.locals) (hn : As.length = n) (hst : st0 = As.reverse ++ st) (hroom : (st.map fun v => v.category).sum ≤ 8) (d : decode cc pc = .ok (.invokestatic index, 3)) (kk : ∀ (r : Unit) (M1 : Mem), Wo G E nL rv (K r M1) M1 (pc + 3) lv st) : Wo G E nL rv (bd oc K) M pc lv st0 := ky_callS0 C hM hg hd hrm hn hst hroom d kk
end KYC2
/-! THE CLASS'S WORLD: 36 cells. 0 KindWords, 1 page, 2 Weeks, 3 Shares, 4 needs, 5 left; towns at 6, 16, 26: the town, its two arrays, three victims, four convicts -/
def cC (ad : Nat → Nat) (cy : Nat → ClassId) (r : Nat → Int32) (_ : Int64) (i : Nat) : va_E :=
  if i = 0 then .inr (5, [.ref (ad 1), .int (r 1), .ref (ad 6), .ref (ad 16), .ref (ad 2), .ref (ad 3), .int (r 6), .int (r 7), .int (r 8)])
  else if i = 1 then .inl (cy 0, 12, .inl r)
  else if i = 2 then .inr (4, [.ref (ad 26), .int (r 1), .int (r 2)])
  else if i = 3 then .inr (1, [.ref (ad 4), .ref (ad 5), .int (r 2)])
  else if i = 4 then .inl (cy 1, 4, .inl r)
  else if i = 5 then .inl (cy 1, 4, .inl r)
  else if (i - 6) % 10 = 0 then .inr (2, [.ref (ad (i + 1)), .ref (ad (i + 2)), .int (r 2), .int (r 3), .int (r 4), .int (r 5)])
  else if (i - 6) % 10 = 1 then .inl (cy 2, 3, .inr (.inr (.inr (.inr (fun j => some (ad (i - 1 + 3 + j)))))))
  else if (i - 6) % 10 = 2 then .inl (cy 3, 4, .inr (.inr (.inr (.inr (fun j => some (ad (i - 2 + 6 + j)))))))
  else if (i - 6) % 10 < 6 then .inr (3, [.int (r 0), .int (r 1), .int (r 2), .int (r 3)])
  else .inr (0, [.int (r 0), .int (r 1), .int (r 2), .int (r 3), .int (r 4), .int (r 5)])
def isTw (b : Nat) : Prop := b = 6 ∨ b = 16 ∨ b = 26
def isVi (k : Nat) : Prop := k < 36 ∧ 6 ≤ k ∧ 3 ≤ (k - 6) % 10 ∧ (k - 6) % 10 < 6
def isCv (k : Nat) : Prop := k < 36 ∧ 6 ≤ k ∧ 6 ≤ (k - 6) % 10
theorem tw6 : isTw 6 := Or.inl rfl
theorem tw16 : isTw 16 := Or.inr (Or.inl rfl)
theorem tw26 : isTw 26 := Or.inr (Or.inr rfl)
theorem vp_lt {x : Int32} {n : Nat} (h : vp_in x n) : x.toNatClampNeg < n := Nat.not_le.mp fun q => h (Or.inr q)
theorem isVi_of {b : Nat} {x : Int32} (hb : isTw b) (hx : vp_in x 3) : isVi (b + 3 + x.toNatClampNeg) := by
  have := vp_lt hx
  unfold isTw at hb; unfold isVi
  omega
theorem isCv_of {b : Nat} {x : Int32} (hb : isTw b) (hx : vp_in x 4) : isCv (b + 6 + x.toNatClampNeg) := by
  have := vp_lt hx
  unfold isTw at hb; unfold isCv
  omega
/-- the text "77,77,77;9", and what the JDK's own methods read of it -/
def bytS (j : Nat) : Int32 := ([55, 55, 44, 55, 55, 44, 55, 55, 59, 57] : List Int32).getD j 0
def StrX (A : Nat → Prop) (q1 q2 : Nat) (U : State) : Prop := vk_R RX5 45 "77,77,77;9" q1 U ∧ va_O RJ0 q1 A U U.heap ∧ va_OF "java/lang/String" "coder" "B" (.int 0) q1 A U U.heap ∧ va_OF "java/lang/String" "value" "[B" (.ref q2) q1 A U U.heap ∧ va_T .byte q2 10 (fun j => .int (bytS j)) A U U.heap ∧ va_Z "java/lang/String" "COMPACT_STRINGS" "Z" (.int 1) A U U.heap ∧ ∃ v : Value, v.category = 1 ∧ va_Z "jdk/internal/util/Preconditions" "SIOOBE_FORMATTER" "Ljava/util/function/BiFunction;" v A U U.heap
def IsC (G : KyG) (cy : Nat → ClassId) : Prop := gN G = 36 ∧ gW G = cC (gA G) cy ∧ gT G = [(cy 0, .char), (cy 1, .int), (cy 2, .object "KindWords$Victim"), (cy 3, .object "KindWords$Convict")] ∧ GOK G ∧ ∀ U : State, gX G U → StrX (aG G) (gA G 36) (gA G 37) U
section WC
variable {G : KyG} {cy : Nat → ClassId}
theorem ltK (h : IsC G cy) : 0 < gN G := by rw [h.1]; omega
theorem ltPG (h : IsC G cy) : 1 < gN G := by rw [h.1]; omega
theorem ltW (h : IsC G cy) : 2 < gN G := by rw [h.1]; omega
theorem ltS (h : IsC G cy) : 3 < gN G := by rw [h.1]; omega
theorem ltN (h : IsC G cy) : 4 < gN G := by rw [h.1]; omega
theorem ltF (h : IsC G cy) : 5 < gN G := by rw [h.1]; omega
theorem ltT (h : IsC G cy) {b : Nat} (hb : isTw b) : b < gN G := by unfold isTw at hb; rw [h.1]; omega
theorem ltVA (h : IsC G cy) {b : Nat} (hb : isTw b) : b + 1 < gN G := by unfold isTw at hb; rw [h.1]; omega
theorem ltCA (h : IsC G cy) {b : Nat} (hb : isTw b) : b + 2 < gN G := by unfold isTw at hb; rw [h.1]; omega
theorem ltV (h : IsC G cy) {k : Nat} (hk : isVi k) : k < gN G := by rw [h.1]; exact hk.1
theorem ltC (h : IsC G cy) {k : Nat} (hk : isCv k) : k < gN G := by rw [h.1]; exact hk.1
theorem ceK (h : IsC G cy) : ∀ r x, gW G r x 0 = .inr (5, [.ref (gA G 1), .int (r 1), .ref (gA G 6), .ref (gA G 16), .ref (gA G 2), .ref (gA G 3), .int (r 6), .int (r 7), .int (r 8)]) := fun r x => by rw [h.2.1]; rfl
theorem cePG (h : IsC G cy) : ∀ r x, gW G r x 1 = .inl (cy 0, 12, .inl r) := fun r x => by rw [h.2.1]; rfl
theorem ceW (h : IsC G cy) : ∀ r x, gW G r x 2 = .inr (4, [.ref (gA G 26), .int (r 1), .int (r 2)]) := fun r x => by rw [h.2.1]; rfl
theorem ceS (h : IsC G cy) : ∀ r x, gW G r x 3 = .inr (1, [.ref (gA G 4), .ref (gA G 5), .int (r 2)]) := fun r x => by rw [h.2.1]; rfl
theorem ceN (h : IsC G cy) : ∀ r x, gW G r x 4 = .inl (cy 1, 4, .inl r) := fun r x => by rw [h.2.1]; rfl
theorem ceF (h : IsC G cy) : ∀ r x, gW G r x 5 = .inl (cy 1, 4, .inl r) := fun r x => by rw [h.2.1]; rfl
theorem ceT (h : IsC G cy) {b : Nat} (hb : isTw b) : ∀ r x, gW G r x b = .inr (2, [.ref (gA G (b + 1)), .ref (gA G (b + 2)), .int (r 2), .int (r 3), .int (r 4), .int (r 5)]) := fun r x => by rw [h.2.1]; rcases hb with rfl | rfl | rfl <;> rfl
theorem ceVA (h : IsC G cy) {b : Nat} (hb : isTw b) : ∀ r x, gW G r x (b + 1) = .inl (cy 2, 3, .inr (.inr (.inr (.inr (fun j => some (gA G (b + 3 + j))))))) := fun r x => by rw [h.2.1]; rcases hb with rfl | rfl | rfl <;> rfl
theorem ceCA (h : IsC G cy) {b : Nat} (hb : isTw b) : ∀ r x, gW G r x (b + 2) = .inl (cy 3, 4, .inr (.inr (.inr (.inr (fun j => some (gA G (b + 6 + j))))))) := fun r x => by rw [h.2.1]; rcases hb with rfl | rfl | rfl <;> rfl
theorem ceV (h : IsC G cy) {k : Nat} (hk : isVi k) : ∀ r x, gW G r x k = .inr (3, [.int (r 0), .int (r 1), .int (r 2), .int (r 3)]) := fun r x => by
  obtain ⟨h1, h2, h3, h4⟩ := hk
  rw [h.2.1]; unfold cC
  rw [if_neg (by omega), if_neg (by omega), if_neg (by omega), if_neg (by omega), if_neg (by omega), if_neg (by omega), if_neg (by omega), if_neg (by omega), if_neg (by omega), if_pos (by omega)]
theorem ceC (h : IsC G cy) {k : Nat} (hk : isCv k) : ∀ r x, gW G r x k = .inr (0, [.int (r 0), .int (r 1), .int (r 2), .int (r 3), .int (r 4), .int (r 5)]) := fun r x => by
  obtain ⟨h1, h2, h3⟩ := hk
  rw [h.2.1]; unfold cC
  rw [if_neg (by omega), if_neg (by omega), if_neg (by omega), if_neg (by omega), if_neg (by omega), if_neg (by omega), if_neg (by omega), if_neg (by omega), if_neg (by omega), if_neg (by omega)]
theorem tC0 (h : IsC G cy) : (gT G)[0]? = some (cy 0, .char) := by rw [h.2.2.1]; rfl
theorem tC1 (h : IsC G cy) : (gT G)[1]? = some (cy 1, .int) := by rw [h.2.2.1]; rfl
theorem tC2 (h : IsC G cy) : (gT G)[2]? = some (cy 2, .object "KindWords$Victim") := by rw [h.2.2.1]; rfl
theorem tC3 (h : IsC G cy) : (gT G)[3]? = some (cy 3, .object "KindWords$Convict") := by rw [h.2.2.1]; rfl
end WC
/-! THE REFERENCE'S WORLD: 14 cells. 0 the object, 1 page, 2 truth, 3 used, 4 rows, 5 whoSays, 6 bestSays, 7 saysMany, 8 trials, 9 savedRows, 10 savedUsed, 11 keptRows, 12 keptUsed, 13 keptTrials -/
def lenR (i : Nat) : Nat := if i = 1 then 12 else if i = 2 ∨ i = 3 ∨ i = 10 ∨ i = 12 then 3 else if i = 5 ∨ i = 6 then 6 else if i = 7 then 4 else 24
def cR (ad : Nat → Nat) (cy : ClassId) (r : Nat → Int32) (h : Int64) (i : Nat) : va_E :=
  if i = 0 then .inr (6, [.ref (ad 1), .int (r 1), .int (r 2), .int (r 3), .int (r 4), .int (r 5), .ref (ad 2), .ref (ad 3), .int (r 8), .ref (ad 4), .ref (ad 5), .ref (ad 6), .ref (ad 7), .int (r 13), .ref (ad 8), .int (r 15), .ref (ad 9), .ref (ad 10), .int (r 18), .int (r 19), .int (r 20), .int (r 21), .int (r 22), .ref (ad 11), .ref (ad 12), .ref (ad 13), .long h])
  else .inl (cy, lenR i, .inl r)
def isAr (i : Nat) : Prop := 1 ≤ i ∧ i < 14
def IsR (G : KyG) (cy : ClassId) : Prop := gN G = 14 ∧ gW G = cR (gA G) cy ∧ gT G = [(cy, .int)] ∧ GOK G
section WR
variable {G : KyG} {cy : ClassId}
theorem ltR (h : IsR G cy) : 0 < gN G := by rw [h.1]; omega
theorem ltA (h : IsR G cy) {i : Nat} (hi : isAr i) : i < gN G := by rw [h.1]; exact hi.2
theorem ceR (h : IsR G cy) : ∀ r x, gW G r x 0 = .inr (6, [.ref (gA G 1), .int (r 1), .int (r 2), .int (r 3), .int (r 4), .int (r 5), .ref (gA G 2), .ref (gA G 3), .int (r 8), .ref (gA G 4), .ref (gA G 5), .ref (gA G 6), .ref (gA G 7), .int (r 13), .ref (gA G 8), .int (r 15), .ref (gA G 9), .ref (gA G 10), .int (r 18), .int (r 19), .int (r 20), .int (r 21), .int (r 22), .ref (gA G 11), .ref (gA G 12), .ref (gA G 13), .long x]) := fun r x => by rw [h.2.1]; rfl
theorem ceA (h : IsR G cy) {i : Nat} (hi : isAr i) : ∀ r x, gW G r x i = .inl (cy, lenR i, .inl r) := fun r x => by
  rw [h.2.1]; unfold cR; rw [if_neg (by have := hi.1; omega)]
theorem othR (h : IsR G cy) : ∀ r x x' j, j < gN G → j ≠ 0 → gW G r x j = gW G r x' j := fun r x x' j _ hj => by rw [h.2.1]; unfold cR; rw [if_neg hj, if_neg hj]
theorem tR0 (h : IsR G cy) : (gT G)[0]? = some (cy, .int) := by rw [h.2.2.1]; rfl
theorem ar1 : isAr 1 := ⟨by omega, by omega⟩
theorem ceA1 (h : IsR G cy) : ∀ r x, gW G r x 1 = .inl (cy, 12, .inl r) := fun r x => by rw [h.2.1]; rfl
theorem ar2 : isAr 2 := ⟨by omega, by omega⟩
theorem ceA2 (h : IsR G cy) : ∀ r x, gW G r x 2 = .inl (cy, 3, .inl r) := fun r x => by rw [h.2.1]; rfl
theorem ar3 : isAr 3 := ⟨by omega, by omega⟩
theorem ceA3 (h : IsR G cy) : ∀ r x, gW G r x 3 = .inl (cy, 3, .inl r) := fun r x => by rw [h.2.1]; rfl
theorem ar4 : isAr 4 := ⟨by omega, by omega⟩
theorem ceA4 (h : IsR G cy) : ∀ r x, gW G r x 4 = .inl (cy, 24, .inl r) := fun r x => by rw [h.2.1]; rfl
theorem ar5 : isAr 5 := ⟨by omega, by omega⟩
theorem ceA5 (h : IsR G cy) : ∀ r x, gW G r x 5 = .inl (cy, 6, .inl r) := fun r x => by rw [h.2.1]; rfl
theorem ar6 : isAr 6 := ⟨by omega, by omega⟩
theorem ceA6 (h : IsR G cy) : ∀ r x, gW G r x 6 = .inl (cy, 6, .inl r) := fun r x => by rw [h.2.1]; rfl
theorem ar7 : isAr 7 := ⟨by omega, by omega⟩
theorem ceA7 (h : IsR G cy) : ∀ r x, gW G r x 7 = .inl (cy, 4, .inl r) := fun r x => by rw [h.2.1]; rfl
theorem ar8 : isAr 8 := ⟨by omega, by omega⟩
theorem ceA8 (h : IsR G cy) : ∀ r x, gW G r x 8 = .inl (cy, 24, .inl r) := fun r x => by rw [h.2.1]; rfl
theorem ar9 : isAr 9 := ⟨by omega, by omega⟩
theorem ceA9 (h : IsR G cy) : ∀ r x, gW G r x 9 = .inl (cy, 24, .inl r) := fun r x => by rw [h.2.1]; rfl
theorem ar10 : isAr 10 := ⟨by omega, by omega⟩
theorem ceA10 (h : IsR G cy) : ∀ r x, gW G r x 10 = .inl (cy, 3, .inl r) := fun r x => by rw [h.2.1]; rfl
theorem ar11 : isAr 11 := ⟨by omega, by omega⟩
theorem ceA11 (h : IsR G cy) : ∀ r x, gW G r x 11 = .inl (cy, 24, .inl r) := fun r x => by rw [h.2.1]; rfl
theorem ar12 : isAr 12 := ⟨by omega, by omega⟩
theorem ceA12 (h : IsR G cy) : ∀ r x, gW G r x 12 = .inl (cy, 3, .inl r) := fun r x => by rw [h.2.1]; rfl
theorem ar13 : isAr 13 := ⟨by omega, by omega⟩
theorem ceA13 (h : IsR G cy) : ∀ r x, gW G r x 13 = .inl (cy, 24, .inl r) := fun r x => by rw [h.2.1]; rfl
end WR
