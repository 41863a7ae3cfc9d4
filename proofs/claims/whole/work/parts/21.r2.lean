def rmX6_note : Room := { frames := 0, cells := 0, slots := 0, locals := 0 }
theorem hd_X6_note : yX6_note.cls = RX6 ∧ yX6_note.cls ≠ "java/lang/invoke/MethodHandle" ∧ yX6_note.cls ≠ "java/lang/invoke/VarHandle" ∧ (parseMethodDescriptor yX6_note.desc).map (fun d => d.parameters.length) = some 1 := ⟨rfl, by decide, by decide, by decide +kernel⟩
def f_X6_note (F : Nat) (a1 : Int64) (M : Mem) : Option (Unit × Mem) := nm (((31 : Int64) * M.2) + a1) (fun x1 => nm (uh M x1) (fun M2 => some ((), M2)))
set_option maxRecDepth 100000 in
set_option maxHeartbeats 4000000 in
theorem c_X6_note {G : KyG} {cy : ClassId} (hG : IsR G cy) (F : Nat)  (a1 : Int64) (M : Mem)  : Ct G yX6_note (wY yX6_note cX6_note 3 none) rmX6_note rV [.ref (gA G 0), .long a1] (f_X6_note F a1 M) M := by
  refine Ct_of cX6_note 3 none RX6 hG.2.2.2 (by decide) rfl rfl (Nat.le_of_ble_eq_true rfl) rfl (fun E C => ?_)
  unfold f_X6_note
  refine ky_aload_n C dX6_note_0 0 rfl ?_
  refine ky_ldc2 C (31 : Int64) (wY_in tw_4_139) dX6_note_1 ?_
  refine ky_aload_n C dX6_note_4 0 rfl ?_
  refine ky_get C (ltR hG) (ceR hG) rfl inWX6 26 (by decide) (wY_in tw_3_96) rfl rfl dX6_note_5 ?_
  refine ky_lmul C dX6_note_8 ?_
  refine ky_lload_n C dX6_note_9 1 rfl ?_
  refine ky_ladd C dX6_note_10 ?_
  refine ky_nml (fun x1 => ?_)
  refine ky_putl C (ltR hG) (ceR hG) (othR hG) rfl inWX6 tyX6_ok nmX6 26 (by decide) (wY_in tw_3_96) ⟨rfl, rfl⟩ (tyX6_ok 26 (by decide)) (Nat.le_of_ble_eq_true rfl) rfl dX6_note_11 (fun M2 => ?_)
  exact ky_vret C dX6_note_14
def rmX6_needsAll : Room := { frames := 1, cells := 0, slots := 0, locals := 22 }
theorem hd_X6_needsAll : yX6_needsAll.cls = RX6 ∧ yX6_needsAll.cls ≠ "java/lang/invoke/MethodHandle" ∧ yX6_needsAll.cls ≠ "java/lang/invoke/VarHandle" ∧ (parseMethodDescriptor yX6_needsAll.desc).map (fun d => d.parameters.length) = some 0 := ⟨rfl, by decide, by decide, by decide +kernel⟩
def LX6_needsAll_4 (F : Nat)  : Nat → Int32 → Int32 → Mem → Option (Int32 × Mem)
  | 0, _, _, _ => none
  | n + 1, xv1, xv2, M => if (M.1 0 8) ≤ xv2 then (some (xv1, M)) else (bd (f_X6_needsOf F xv2 M) (fun r1 M2 => nm (xv1 + r1) (fun x3 => nm (xv2 + (1 : Int32)) (fun x4 => LX6_needsAll_4 F n x3 x4 M2))))
theorem LX6_needsAll_4_s (F : Nat)  (n : Nat) (xv1 : Int32) (xv2 : Int32) (M : Mem) : LX6_needsAll_4 F (n + 1) xv1 xv2 M = (if (M.1 0 8) ≤ xv2 then (some (xv1, M)) else (bd (f_X6_needsOf F xv2 M) (fun r1 M2 => nm (xv1 + r1) (fun x3 => nm (xv2 + (1 : Int32)) (fun x4 => LX6_needsAll_4 F n x3 x4 M2))))) := rfl
set_option maxRecDepth 100000 in
set_option maxHeartbeats 4000000 in
theorem lX6_needsAll_4 {G : KyG} {cy : ClassId} (hG : IsR G cy) {E : KyE} (C : Cx G E cX6_needsAll 3 RX6 (wY yX6_needsAll cX6_needsAll 3 (some .int)) (some .int) rmX6_needsAll) (F : Nat)   : ∀ (n : Nat) (xv1 : Int32) (xv2 : Int32) (M : Mem) , Wo G E 3 rI (LX6_needsAll_4 F n xv1 xv2 M) M 4 [(0, .ref (gA G 0)), (1, .int xv1), (2, .int xv2)] [] := by
  intro n
  induction n with
  | zero => intro xv1 xv2 M ; exact ky_none
  | succ n ih =>
    intro xv1 xv2 M 
    rw [LX6_needsAll_4_s]
    refine ky_iload_n C dX6_needsAll_4 2 rfl ?_
    refine ky_aload_n C dX6_needsAll_5 0 rfl ?_
    refine ky_get C (ltR hG) (ceR hG) rfl inWX6 8 (by decide) (wY_in tw_3_78) rfl rfl dX6_needsAll_6 ?_
    refine ky_icmp_ge C 26 dX6_needsAll_9 (by decide) ?_ ?_
    · refine ky_iload_n C dX6_needsAll_26 1 rfl ?_
      exact ky_iret C dX6_needsAll_27
    · refine ky_iload_n C dX6_needsAll_12 1 rfl ?_
      refine ky_aload_n C dX6_needsAll_13 0 rfl ?_
      refine ky_iload_n C dX6_needsAll_14 2 rfl ?_
      refine ky_callVi C (c_X6_needsOf hG F xv2 M ) (ltR hG) (ceR hG) rfl (wY_goodV tw_3_230 tw_3_232 tw_p17 tw_1_7 tw_3_233) hd_X6_needsOf ⟨rfl, rfl, by decide, by decide⟩ rfl rfl (Nat.le_of_ble_eq_true rfl) dX6_needsAll_15 (fun r1 M2 => ?_)
      refine ky_iadd C dX6_needsAll_18 ?_
      refine ky_nmi (fun x3 => ?_)
      refine ky_istore_n (lv' := [(1, .int x3), (0, .ref (gA G 0)), (2, .int xv2)]) C dX6_needsAll_19 (by decide) rfl ?_
      refine ky_iinc (lv' := fun x4 => [(2, .int x4), (1, .int x3), (0, .ref (gA G 0))]) C dX6_needsAll_20 2 rfl (d1 := (1 : Int32)) rfl (by decide) (fun _ => rfl) (fun x4 => ?_)
      refine ky_goto C 4 dX6_needsAll_23 (by decide) ?_
      exact ky_sub [2, 1, 0] rfl (ih x3 x4 M2 )
def f_X6_needsAll (F : Nat)  (M : Mem) : Option (Int32 × Mem) := LX6_needsAll_4 F  F (0 : Int32) (0 : Int32) M
set_option maxRecDepth 100000 in
set_option maxHeartbeats 4000000 in
theorem c_X6_needsAll {G : KyG} {cy : ClassId} (hG : IsR G cy) (F : Nat)   (M : Mem)  : Ct G yX6_needsAll (wY yX6_needsAll cX6_needsAll 3 (some .int)) rmX6_needsAll rI [.ref (gA G 0)] (f_X6_needsAll F  M) M := by
  refine Ct_of cX6_needsAll 3 (some .int) RX6 hG.2.2.2 (by decide) rfl rfl (Nat.le_of_ble_eq_true rfl) rfl (fun E C => ?_)
  unfold f_X6_needsAll
  refine ky_iconst C (0 : Int32) dX6_needsAll_0 (by decide) ?_
  refine ky_istore_n (lv' := [(1, .int (0 : Int32)), (0, .ref (gA G 0))]) C dX6_needsAll_1 (by decide) rfl ?_
  refine ky_iconst C (0 : Int32) dX6_needsAll_2 (by decide) ?_
  refine ky_istore_n (lv' := [(2, .int (0 : Int32)), (1, .int (0 : Int32)), (0, .ref (gA G 0))]) C dX6_needsAll_3 (by decide) rfl ?_
  exact ky_sub [2, 1, 0] rfl (lX6_needsAll_4 hG C F   F (0 : Int32) (0 : Int32) M )
def rmX6_saidBy : Room := { frames := 1, cells := 0, slots := 0, locals := 22 }
theorem hd_X6_saidBy : yX6_saidBy.cls = RX6 ∧ yX6_saidBy.cls ≠ "java/lang/invoke/MethodHandle" ∧ yX6_saidBy.cls ≠ "java/lang/invoke/VarHandle" ∧ (parseMethodDescriptor yX6_saidBy.desc).map (fun d => d.parameters.length) = some 2 := ⟨rfl, by decide, by decide, by decide +kernel⟩
def LX6_saidBy_144 (F : Nat)  : Nat → Int32 → Int32 → Int32 → Mem → Option (Int32 × Mem)
  | 0, _, _, _, _ => none
  | n + 1, xv4, xv5, xv6, M => if (M.1 0 8) ≤ xv6 then (if xv5 = 0 then (some ((mI 1), M)) else (some (xv4, M))) else (if xv5 = 0 then (if xv5 = 0 then (some ((mI 1), M)) else (some (xv4, M))) else (gi xv6 4 (if (M.1 7 xv6.toNatClampNeg) = 0 then (nm (xv6 + (1 : Int32)) (fun x2 => LX6_saidBy_144 F n xv4 (1 : Int32) x2 M)) else (gi xv6 4 (bd (f_X6_needsOf F xv6 M) (fun r4 M5 => if r4 < (M.1 7 xv6.toNatClampNeg) then (nm (xv6 + (1 : Int32)) (fun x6 => LX6_saidBy_144 F n xv4 (0 : Int32) x6 M5)) else (nm (xv6 + (1 : Int32)) (fun x7 => LX6_saidBy_144 F n xv4 (1 : Int32) x7 M5))))))))
theorem LX6_saidBy_144_s (F : Nat)  (n : Nat) (xv4 : Int32) (xv5 : Int32) (xv6 : Int32) (M : Mem) : LX6_saidBy_144 F (n + 1) xv4 xv5 xv6 M = (if (M.1 0 8) ≤ xv6 then (if xv5 = 0 then (some ((mI 1), M)) else (some (xv4, M))) else (if xv5 = 0 then (if xv5 = 0 then (some ((mI 1), M)) else (some (xv4, M))) else (gi xv6 4 (if (M.1 7 xv6.toNatClampNeg) = 0 then (nm (xv6 + (1 : Int32)) (fun x2 => LX6_saidBy_144 F n xv4 (1 : Int32) x2 M)) else (gi xv6 4 (bd (f_X6_needsOf F xv6 M) (fun r4 M5 => if r4 < (M.1 7 xv6.toNatClampNeg) then (nm (xv6 + (1 : Int32)) (fun x6 => LX6_saidBy_144 F n xv4 (0 : Int32) x6 M5)) else (nm (xv6 + (1 : Int32)) (fun x7 => LX6_saidBy_144 F n xv4 (1 : Int32) x7 M5))))))))) := rfl
set_option maxRecDepth 100000 in
set_option maxHeartbeats 4000000 in
theorem lX6_saidBy_144 {G : KyG} {cy : ClassId} (hG : IsR G cy) {E : KyE} (C : Cx G E cX6_saidBy 8 RX6 (wY yX6_saidBy cX6_saidBy 8 (some .int)) (some .int) rmX6_saidBy) (F : Nat)   : ∀ (n : Nat) (xv4 : Int32) (xv5 : Int32) (xv6 : Int32) (M : Mem) , Wo G E 8 rI (LX6_saidBy_144 F n xv4 xv5 xv6 M) M 144 [(0, .ref (gA G 0)), (4, .int xv4), (5, .int xv5), (6, .int xv6)] [] := by
  intro n
  induction n with
  | zero => intro xv4 xv5 xv6 M ; exact ky_none
  | succ n ih =>
    intro xv4 xv5 xv6 M 
    rw [LX6_saidBy_144_s]
    refine ky_iload C dX6_saidBy_144 3 rfl ?_
    refine ky_aload_n C dX6_saidBy_146 0 rfl ?_
    refine ky_get C (ltR hG) (ceR hG) rfl inWX6 8 (by decide) (wY_in tw_3_78) rfl rfl dX6_saidBy_147 ?_
    refine ky_icmp_ge C 197 dX6_saidBy_150 (by decide) ?_ ?_
    · refine ky_iload C dX6_saidBy_197 2 rfl ?_
      refine ky_if_eq C 207 dX6_saidBy_199 (by decide) ?_ ?_
      · refine ky_iconst C (mI 1) dX6_saidBy_207 (by decide) ?_
        exact ky_iret C dX6_saidBy_208
      · refine ky_iload C dX6_saidBy_202 1 rfl ?_
        refine ky_goto C 208 dX6_saidBy_204 (by decide) ?_
        exact ky_iret C dX6_saidBy_208
    · refine ky_iload C dX6_saidBy_153 2 rfl ?_
      refine ky_if_eq C 197 dX6_saidBy_155 (by decide) ?_ ?_
      · refine ky_iload C dX6_saidBy_197 2 rfl ?_
        refine ky_if_eq C 207 dX6_saidBy_199 (by decide) ?_ ?_
        · refine ky_iconst C (mI 1) dX6_saidBy_207 (by decide) ?_
          exact ky_iret C dX6_saidBy_208
        · refine ky_iload C dX6_saidBy_202 1 rfl ?_
          refine ky_goto C 208 dX6_saidBy_204 (by decide) ?_
          exact ky_iret C dX6_saidBy_208
      · refine ky_aload_n C dX6_saidBy_158 0 rfl ?_
        refine ky_get C (ltR hG) (ceR hG) rfl inWX6 12 (by decide) (wY_in tw_3_82) rfl rfl dX6_saidBy_159 ?_
        refine ky_iload C dX6_saidBy_162 3 rfl ?_
        refine ky_iald C (ltA hG ar7) (ceA7 hG) (tR0 hG) dX6_saidBy_164 (fun hx1 => ?_)
        refine ky_if_eq C 184 dX6_saidBy_165 (by decide) ?_ ?_
        · refine ky_iconst C (1 : Int32) dX6_saidBy_184 (by decide) ?_
          refine ky_goto C 189 dX6_saidBy_185 (by decide) ?_
          refine ky_istore (lv' := [(5, .int (1 : Int32)), (0, .ref (gA G 0)), (4, .int xv4), (6, .int xv6)]) C dX6_saidBy_189 (by decide) rfl ?_
          refine ky_iinc (lv' := fun x2 => [(6, .int x2), (5, .int (1 : Int32)), (0, .ref (gA G 0)), (4, .int xv4)]) C dX6_saidBy_191 3 rfl (d1 := (1 : Int32)) rfl (by decide) (fun _ => rfl) (fun x2 => ?_)
          refine ky_goto C 144 dX6_saidBy_194 (by decide) ?_
          exact ky_sub [2, 3, 1, 0] rfl (ih xv4 (1 : Int32) x2 M )
        · refine ky_aload_n C dX6_saidBy_168 0 rfl ?_
          refine ky_get C (ltR hG) (ceR hG) rfl inWX6 12 (by decide) (wY_in tw_3_82) rfl rfl dX6_saidBy_169 ?_
          refine ky_iload C dX6_saidBy_172 3 rfl ?_
          refine ky_iald C (ltA hG ar7) (ceA7 hG) (tR0 hG) dX6_saidBy_174 (fun hx3 => ?_)
          refine ky_aload_n C dX6_saidBy_175 0 rfl ?_
          refine ky_iload C dX6_saidBy_176 3 rfl ?_
          refine ky_callVi C (c_X6_needsOf hG F xv6 M ) (ltR hG) (ceR hG) rfl (wY_goodV tw_3_230 tw_3_232 tw_p17 tw_1_7 tw_3_233) hd_X6_needsOf ⟨rfl, rfl, by decide, by decide⟩ rfl rfl (Nat.le_of_ble_eq_true rfl) dX6_saidBy_178 (fun r4 M5 => ?_)
          refine ky_icmp_gt C 188 dX6_saidBy_181 (by decide) ?_ ?_
          · refine ky_iconst C (0 : Int32) dX6_saidBy_188 (by decide) ?_
            refine ky_istore (lv' := [(5, .int (0 : Int32)), (0, .ref (gA G 0)), (4, .int xv4), (6, .int xv6)]) C dX6_saidBy_189 (by decide) rfl ?_
            refine ky_iinc (lv' := fun x6 => [(6, .int x6), (5, .int (0 : Int32)), (0, .ref (gA G 0)), (4, .int xv4)]) C dX6_saidBy_191 3 rfl (d1 := (1 : Int32)) rfl (by decide) (fun _ => rfl) (fun x6 => ?_)
            refine ky_goto C 144 dX6_saidBy_194 (by decide) ?_
            exact ky_sub [2, 3, 1, 0] rfl (ih xv4 (0 : Int32) x6 M5 )
          · refine ky_iconst C (1 : Int32) dX6_saidBy_184 (by decide) ?_
            refine ky_goto C 189 dX6_saidBy_185 (by decide) ?_
            refine ky_istore (lv' := [(5, .int (1 : Int32)), (0, .ref (gA G 0)), (4, .int xv4), (6, .int xv6)]) C dX6_saidBy_189 (by decide) rfl ?_
            refine ky_iinc (lv' := fun x7 => [(6, .int x7), (5, .int (1 : Int32)), (0, .ref (gA G 0)), (4, .int xv4)]) C dX6_saidBy_191 3 rfl (d1 := (1 : Int32)) rfl (by decide) (fun _ => rfl) (fun x7 => ?_)
            refine ky_goto C 144 dX6_saidBy_194 (by decide) ?_
            exact ky_sub [2, 3, 1, 0] rfl (ih xv4 (1 : Int32) x7 M5 )
def LX6_saidBy_34 (F : Nat)  : Nat → Int32 → Int32 → Int32 → Int32 → Int32 → Mem → Option (Int32 × Mem)
  | 0, _, _, _, _, _, _ => none
  | n + 1, xv1, xv3, xv4, xv5, xv6, M => if xv6 < 0 then (LX6_saidBy_144 F  F xv4 xv5 (0 : Int32) M) else (nm (xv3 - xv3 / (5 : Int32) * (5 : Int32)) (fun x8 => gi xv6 6 (nm (u2 M 5 xv6.toNatClampNeg x8) (fun M9 => nm (xv3 / (5 : Int32)) (fun x11 => gi xv6 6 (nm ((M9.1 5 xv6.toNatClampNeg) - (1 : Int32)) (fun x13 => if x13 < 0 then (nm (xv6 + (mI 1)) (fun x14 => LX6_saidBy_34 F n xv1 x11 xv4 xv5 x14 M9)) else (if xv5 = 0 then (gi x13 4 (nm ((M9.1 7 x13.toNatClampNeg) + (1 : Int32)) (fun x16 => gi x13 4 (nm (u2 M9 7 x13.toNatClampNeg x16) (fun M17 => nm (xv4 + (1 : Int32)) (fun x19 => nm (xv6 + (mI 1)) (fun x20 => LX6_saidBy_34 F n xv1 x11 x19 (0 : Int32) x20 M17))))))) else (if (M9.1 0 8) ≤ x13 then (gi x13 4 (nm ((M9.1 7 x13.toNatClampNeg) + (1 : Int32)) (fun x22 => gi x13 4 (nm (u2 M9 7 x13.toNatClampNeg x22) (fun M23 => nm (xv4 + (1 : Int32)) (fun x25 => nm (xv6 + (mI 1)) (fun x26 => LX6_saidBy_34 F n xv1 x11 x25 (0 : Int32) x26 M23))))))) else (gi (((6 : Int32) * x13) + (1 : Int32)) 24 (if (M9.1 4 (((6 : Int32) * x13) + (1 : Int32)).toNatClampNeg) = xv1 then (bd (f_X6_leftOf F x13 M9) (fun r34 M35 => if ((r34 >>> (xv6 &&& 31)) &&& (1 : Int32)) = (1 : Int32) then (gi x13 4 (nm ((M35.1 7 x13.toNatClampNeg) + (1 : Int32)) (fun x43 => gi x13 4 (nm (u2 M35 7 x13.toNatClampNeg x43) (fun M44 => nm (xv4 + (1 : Int32)) (fun x46 => nm (xv6 + (mI 1)) (fun x47 => LX6_saidBy_34 F n xv1 x11 x46 (1 : Int32) x47 M44))))))) else (gi x13 4 (nm ((M35.1 7 x13.toNatClampNeg) + (1 : Int32)) (fun x37 => gi x13 4 (nm (u2 M35 7 x13.toNatClampNeg x37) (fun M38 => nm (xv4 + (1 : Int32)) (fun x40 => nm (xv6 + (mI 1)) (fun x41 => LX6_saidBy_34 F n xv1 x11 x40 (0 : Int32) x41 M38))))))))) else (gi x13 4 (nm ((M9.1 7 x13.toNatClampNeg) + (1 : Int32)) (fun x29 => gi x13 4 (nm (u2 M9 7 x13.toNatClampNeg x29) (fun M30 => nm (xv4 + (1 : Int32)) (fun x32 => nm (xv6 + (mI 1)) (fun x33 => LX6_saidBy_34 F n xv1 x11 x32 (0 : Int32) x33 M30))))))))))))))))))
theorem LX6_saidBy_34_s (F : Nat)  (n : Nat) (xv1 : Int32) (xv3 : Int32) (xv4 : Int32) (xv5 : Int32) (xv6 : Int32) (M : Mem) : LX6_saidBy_34 F (n + 1) xv1 xv3 xv4 xv5 xv6 M = (if xv6 < 0 then (LX6_saidBy_144 F  F xv4 xv5 (0 : Int32) M) else (nm (xv3 - xv3 / (5 : Int32) * (5 : Int32)) (fun x8 => gi xv6 6 (nm (u2 M 5 xv6.toNatClampNeg x8) (fun M9 => nm (xv3 / (5 : Int32)) (fun x11 => gi xv6 6 (nm ((M9.1 5 xv6.toNatClampNeg) - (1 : Int32)) (fun x13 => if x13 < 0 then (nm (xv6 + (mI 1)) (fun x14 => LX6_saidBy_34 F n xv1 x11 xv4 xv5 x14 M9)) else (if xv5 = 0 then (gi x13 4 (nm ((M9.1 7 x13.toNatClampNeg) + (1 : Int32)) (fun x16 => gi x13 4 (nm (u2 M9 7 x13.toNatClampNeg x16) (fun M17 => nm (xv4 + (1 : Int32)) (fun x19 => nm (xv6 + (mI 1)) (fun x20 => LX6_saidBy_34 F n xv1 x11 x19 (0 : Int32) x20 M17))))))) else (if (M9.1 0 8) ≤ x13 then (gi x13 4 (nm ((M9.1 7 x13.toNatClampNeg) + (1 : Int32)) (fun x22 => gi x13 4 (nm (u2 M9 7 x13.toNatClampNeg x22) (fun M23 => nm (xv4 + (1 : Int32)) (fun x25 => nm (xv6 + (mI 1)) (fun x26 => LX6_saidBy_34 F n xv1 x11 x25 (0 : Int32) x26 M23))))))) else (gi (((6 : Int32) * x13) + (1 : Int32)) 24 (if (M9.1 4 (((6 : Int32) * x13) + (1 : Int32)).toNatClampNeg) = xv1 then (bd (f_X6_leftOf F x13 M9) (fun r34 M35 => if ((r34 >>> (xv6 &&& 31)) &&& (1 : Int32)) = (1 : Int32) then (gi x13 4 (nm ((M35.1 7 x13.toNatClampNeg) + (1 : Int32)) (fun x43 => gi x13 4 (nm (u2 M35 7 x13.toNatClampNeg x43) (fun M44 => nm (xv4 + (1 : Int32)) (fun x46 => nm (xv6 + (mI 1)) (fun x47 => LX6_saidBy_34 F n xv1 x11 x46 (1 : Int32) x47 M44))))))) else (gi x13 4 (nm ((M35.1 7 x13.toNatClampNeg) + (1 : Int32)) (fun x37 => gi x13 4 (nm (u2 M35 7 x13.toNatClampNeg x37) (fun M38 => nm (xv4 + (1 : Int32)) (fun x40 => nm (xv6 + (mI 1)) (fun x41 => LX6_saidBy_34 F n xv1 x11 x40 (0 : Int32) x41 M38))))))))) else (gi x13 4 (nm ((M9.1 7 x13.toNatClampNeg) + (1 : Int32)) (fun x29 => gi x13 4 (nm (u2 M9 7 x13.toNatClampNeg x29) (fun M30 => nm (xv4 + (1 : Int32)) (fun x32 => nm (xv6 + (mI 1)) (fun x33 => LX6_saidBy_34 F n xv1 x11 x32 (0 : Int32) x33 M30))))))))))))))))))) := rfl
set_option maxRecDepth 100000 in
set_option maxHeartbeats 4000000 in
theorem lX6_saidBy_34 {G : KyG} {cy : ClassId} (hG : IsR G cy) {E : KyE} (C : Cx G E cX6_saidBy 8 RX6 (wY yX6_saidBy cX6_saidBy 8 (some .int)) (some .int) rmX6_saidBy) (F : Nat)   : ∀ (n : Nat) (xv1 : Int32) (xv3 : Int32) (xv4 : Int32) (xv5 : Int32) (xv6 : Int32) (M : Mem) , Wo G E 8 rI (LX6_saidBy_34 F n xv1 xv3 xv4 xv5 xv6 M) M 34 [(0, .ref (gA G 0)), (1, .int xv1), (3, .int xv3), (4, .int xv4), (5, .int xv5), (6, .int xv6)] [] := by
  intro n
  induction n with
  | zero => intro xv1 xv3 xv4 xv5 xv6 M ; exact ky_none
  | succ n ih =>
    intro xv1 xv3 xv4 xv5 xv6 M 
    rw [LX6_saidBy_34_s]
    refine ky_iload C dX6_saidBy_34 5 rfl ?_
    refine ky_if_lt C 141 dX6_saidBy_36 (by decide) ?_ ?_
    · refine ky_iconst C (0 : Int32) dX6_saidBy_141 (by decide) ?_
      refine ky_istore (lv' := [(6, .int (0 : Int32)), (0, .ref (gA G 0)), (1, .int xv1), (3, .int xv3), (4, .int xv4), (5, .int xv5)]) C dX6_saidBy_142 (by decide) rfl ?_
      exact ky_sub [1, 4, 5, 0] rfl (lX6_saidBy_144 hG C F   F xv4 xv5 (0 : Int32) M )
    · refine ky_aload_n C dX6_saidBy_39 0 rfl ?_
      refine ky_get C (ltR hG) (ceR hG) rfl inWX6 10 (by decide) (wY_in tw_3_80) rfl rfl dX6_saidBy_40 ?_
      refine ky_iload C dX6_saidBy_43 5 rfl ?_
      refine ky_iload_n C dX6_saidBy_45 2 rfl ?_
      refine ky_iconst C (5 : Int32) dX6_saidBy_46 (by decide) ?_
      refine ky_irem C dX6_saidBy_47 (by decide) ?_
      refine ky_nmi (fun x8 => ?_)
      refine ky_iast C (ltA hG ar5) (ceA5 hG) (tR0 hG) dX6_saidBy_48 (fun M9 hx10 => ?_)
      refine ky_iload_n C dX6_saidBy_49 2 rfl ?_
      refine ky_iconst C (5 : Int32) dX6_saidBy_50 (by decide) ?_
      refine ky_idiv C dX6_saidBy_51 (by decide) ?_
      refine ky_nmi (fun x11 => ?_)
      refine ky_istore_n (lv' := [(3, .int x11), (0, .ref (gA G 0)), (1, .int xv1), (4, .int xv4), (5, .int xv5), (6, .int xv6)]) C dX6_saidBy_52 (by decide) rfl ?_
      refine ky_aload_n C dX6_saidBy_53 1 rfl ?_
      refine ky_get C (ltR hG) (ceR hG) rfl inWX6 10 (by decide) (wY_in tw_3_80) rfl rfl dX6_saidBy_54 ?_
      refine ky_iload C dX6_saidBy_57 5 rfl ?_
      refine ky_iald C (ltA hG ar5) (ceA5 hG) (tR0 hG) dX6_saidBy_59 (fun hx12 => ?_)
      refine ky_iconst C (1 : Int32) dX6_saidBy_60 (by decide) ?_
      refine ky_isub C dX6_saidBy_61 ?_
      refine ky_nmi (fun x13 => ?_)
      refine ky_istore (lv' := [(7, .int x13), (3, .int x11), (0, .ref (gA G 0)), (1, .int xv1), (4, .int xv4), (5, .int xv5), (6, .int xv6)]) C dX6_saidBy_62 (by decide) rfl ?_
      refine ky_iload C dX6_saidBy_64 0 rfl ?_
      refine ky_if_lt C 135 dX6_saidBy_66 (by decide) ?_ ?_
      · refine ky_iinc (lv' := fun x14 => [(6, .int x14), (7, .int x13), (3, .int x11), (0, .ref (gA G 0)), (1, .int xv1), (4, .int xv4), (5, .int xv5)]) C dX6_saidBy_135 6 rfl (d1 := (mI 1)) (by decide) (by decide) (fun _ => rfl) (fun x14 => ?_)
        refine ky_goto C 34 dX6_saidBy_138 (by decide) ?_
        exact ky_sub [3, 4, 2, 5, 6, 0] rfl (ih xv1 x11 xv4 xv5 x14 M9 )
      · refine ky_iload C dX6_saidBy_69 5 rfl ?_
        refine ky_if_eq C 118 dX6_saidBy_71 (by decide) ?_ ?_
        · refine ky_iconst C (0 : Int32) dX6_saidBy_118 (by decide) ?_
          refine ky_istore (lv' := [(5, .int (0 : Int32)), (7, .int x13), (3, .int x11), (0, .ref (gA G 0)), (1, .int xv1), (4, .int xv4), (6, .int xv6)]) C dX6_saidBy_119 (by decide) rfl ?_
          refine ky_aload_n C dX6_saidBy_121 3 rfl ?_
          refine ky_get C (ltR hG) (ceR hG) rfl inWX6 12 (by decide) (wY_in tw_3_82) rfl rfl dX6_saidBy_122 ?_
          refine ky_iload C dX6_saidBy_125 1 rfl ?_
          refine ky_dup2 C dX6_saidBy_127 rfl rfl ?_
          refine ky_iald C (ltA hG ar7) (ceA7 hG) (tR0 hG) dX6_saidBy_128 (fun hx15 => ?_)
          refine ky_iconst C (1 : Int32) dX6_saidBy_129 (by decide) ?_
          refine ky_iadd C dX6_saidBy_130 ?_
          refine ky_nmi (fun x16 => ?_)
          refine ky_iast C (ltA hG ar7) (ceA7 hG) (tR0 hG) dX6_saidBy_131 (fun M17 hx18 => ?_)
          refine ky_iinc (lv' := fun x19 => [(4, .int x19), (5, .int (0 : Int32)), (7, .int x13), (3, .int x11), (0, .ref (gA G 0)), (1, .int xv1), (6, .int xv6)]) C dX6_saidBy_132 5 rfl (d1 := (1 : Int32)) rfl (by decide) (fun _ => rfl) (fun x19 => ?_)
          refine ky_iinc (lv' := fun x20 => [(6, .int x20), (4, .int x19), (5, .int (0 : Int32)), (7, .int x13), (3, .int x11), (0, .ref (gA G 0)), (1, .int xv1)]) C dX6_saidBy_135 6 rfl (d1 := (mI 1)) (by decide) (by decide) (fun _ => rfl) (fun x20 => ?_)
          refine ky_goto C 34 dX6_saidBy_138 (by decide) ?_
          exact ky_sub [5, 6, 4, 1, 2, 0] rfl (ih xv1 x11 x19 (0 : Int32) x20 M17 )
        · refine ky_iload C dX6_saidBy_74 0 rfl ?_
          refine ky_aload_n C dX6_saidBy_76 2 rfl ?_
          refine ky_get C (ltR hG) (ceR hG) rfl inWX6 8 (by decide) (wY_in tw_3_78) rfl rfl dX6_saidBy_77 ?_
          refine ky_icmp_ge C 118 dX6_saidBy_80 (by decide) ?_ ?_
          · refine ky_iconst C (0 : Int32) dX6_saidBy_118 (by decide) ?_
            refine ky_istore (lv' := [(5, .int (0 : Int32)), (7, .int x13), (3, .int x11), (0, .ref (gA G 0)), (1, .int xv1), (4, .int xv4), (6, .int xv6)]) C dX6_saidBy_119 (by decide) rfl ?_
            refine ky_aload_n C dX6_saidBy_121 3 rfl ?_
            refine ky_get C (ltR hG) (ceR hG) rfl inWX6 12 (by decide) (wY_in tw_3_82) rfl rfl dX6_saidBy_122 ?_
            refine ky_iload C dX6_saidBy_125 1 rfl ?_
            refine ky_dup2 C dX6_saidBy_127 rfl rfl ?_
            refine ky_iald C (ltA hG ar7) (ceA7 hG) (tR0 hG) dX6_saidBy_128 (fun hx21 => ?_)
            refine ky_iconst C (1 : Int32) dX6_saidBy_129 (by decide) ?_
            refine ky_iadd C dX6_saidBy_130 ?_
            refine ky_nmi (fun x22 => ?_)
            refine ky_iast C (ltA hG ar7) (ceA7 hG) (tR0 hG) dX6_saidBy_131 (fun M23 hx24 => ?_)
            refine ky_iinc (lv' := fun x25 => [(4, .int x25), (5, .int (0 : Int32)), (7, .int x13), (3, .int x11), (0, .ref (gA G 0)), (1, .int xv1), (6, .int xv6)]) C dX6_saidBy_132 5 rfl (d1 := (1 : Int32)) rfl (by decide) (fun _ => rfl) (fun x25 => ?_)
            refine ky_iinc (lv' := fun x26 => [(6, .int x26), (4, .int x25), (5, .int (0 : Int32)), (7, .int x13), (3, .int x11), (0, .ref (gA G 0)), (1, .int xv1)]) C dX6_saidBy_135 6 rfl (d1 := (mI 1)) (by decide) (by decide) (fun _ => rfl) (fun x26 => ?_)
            refine ky_goto C 34 dX6_saidBy_138 (by decide) ?_
            exact ky_sub [5, 6, 4, 1, 2, 0] rfl (ih xv1 x11 x25 (0 : Int32) x26 M23 )
          · refine ky_aload_n C dX6_saidBy_83 2 rfl ?_
            refine ky_get C (ltR hG) (ceR hG) rfl inWX6 9 (by decide) (wY_in tw_3_79) rfl rfl dX6_saidBy_84 ?_
            refine ky_bipush C (6 : Int32) dX6_saidBy_87 (by decide) ?_
            refine ky_iload C dX6_saidBy_89 0 rfl ?_
            refine ky_imul C dX6_saidBy_91 ?_
            refine ky_iconst C (1 : Int32) dX6_saidBy_92 (by decide) ?_
            refine ky_iadd C dX6_saidBy_93 ?_
            refine ky_iald C (ltA hG ar4) (ceA4 hG) (tR0 hG) dX6_saidBy_94 (fun hx27 => ?_)
            refine ky_iload_n C dX6_saidBy_95 3 rfl ?_
            refine ky_icmp_ne C 118 dX6_saidBy_96 (by decide) ?_ ?_
            · refine ky_aload_n C dX6_saidBy_99 2 rfl ?_
              refine ky_iload C dX6_saidBy_100 0 rfl ?_
              refine ky_callVi C (c_X6_leftOf hG F x13 M9 ) (ltR hG) (ceR hG) rfl (wY_goodV tw_3_222 tw_3_224 tw_p15 tw_1_7 tw_3_225) hd_X6_leftOf ⟨rfl, rfl, by decide, by decide⟩ rfl rfl (Nat.le_of_ble_eq_true rfl) dX6_saidBy_102 (fun r34 M35 => ?_)
              refine ky_iload C dX6_saidBy_105 6 rfl ?_
              refine ky_ishr C dX6_saidBy_107 ?_
              refine ky_iconst C (1 : Int32) dX6_saidBy_108 (by decide) ?_
              refine ky_iand C dX6_saidBy_109 ?_
              refine ky_iconst C (1 : Int32) dX6_saidBy_110 (by decide) ?_
              refine ky_icmp_ne C 118 dX6_saidBy_111 (by decide) ?_ ?_
              · refine ky_iconst C (1 : Int32) dX6_saidBy_114 (by decide) ?_
                refine ky_goto C 119 dX6_saidBy_115 (by decide) ?_
                refine ky_istore (lv' := [(5, .int (1 : Int32)), (7, .int x13), (3, .int x11), (0, .ref (gA G 0)), (1, .int xv1), (4, .int xv4), (6, .int xv6)]) C dX6_saidBy_119 (by decide) rfl ?_
                refine ky_aload_n C dX6_saidBy_121 3 rfl ?_
                refine ky_get C (ltR hG) (ceR hG) rfl inWX6 12 (by decide) (wY_in tw_3_82) rfl rfl dX6_saidBy_122 ?_
                refine ky_iload C dX6_saidBy_125 1 rfl ?_
                refine ky_dup2 C dX6_saidBy_127 rfl rfl ?_
                refine ky_iald C (ltA hG ar7) (ceA7 hG) (tR0 hG) dX6_saidBy_128 (fun hx42 => ?_)
                refine ky_iconst C (1 : Int32) dX6_saidBy_129 (by decide) ?_
                refine ky_iadd C dX6_saidBy_130 ?_
                refine ky_nmi (fun x43 => ?_)
                refine ky_iast C (ltA hG ar7) (ceA7 hG) (tR0 hG) dX6_saidBy_131 (fun M44 hx45 => ?_)
                refine ky_iinc (lv' := fun x46 => [(4, .int x46), (5, .int (1 : Int32)), (7, .int x13), (3, .int x11), (0, .ref (gA G 0)), (1, .int xv1), (6, .int xv6)]) C dX6_saidBy_132 5 rfl (d1 := (1 : Int32)) rfl (by decide) (fun _ => rfl) (fun x46 => ?_)
                refine ky_iinc (lv' := fun x47 => [(6, .int x47), (4, .int x46), (5, .int (1 : Int32)), (7, .int x13), (3, .int x11), (0, .ref (gA G 0)), (1, .int xv1)]) C dX6_saidBy_135 6 rfl (d1 := (mI 1)) (by decide) (by decide) (fun _ => rfl) (fun x47 => ?_)
                refine ky_goto C 34 dX6_saidBy_138 (by decide) ?_
                exact ky_sub [5, 6, 4, 1, 2, 0] rfl (ih xv1 x11 x46 (1 : Int32) x47 M44 )
              · refine ky_iconst C (0 : Int32) dX6_saidBy_118 (by decide) ?_
                refine ky_istore (lv' := [(5, .int (0 : Int32)), (7, .int x13), (3, .int x11), (0, .ref (gA G 0)), (1, .int xv1), (4, .int xv4), (6, .int xv6)]) C dX6_saidBy_119 (by decide) rfl ?_
                refine ky_aload_n C dX6_saidBy_121 3 rfl ?_
                refine ky_get C (ltR hG) (ceR hG) rfl inWX6 12 (by decide) (wY_in tw_3_82) rfl rfl dX6_saidBy_122 ?_
                refine ky_iload C dX6_saidBy_125 1 rfl ?_
                refine ky_dup2 C dX6_saidBy_127 rfl rfl ?_
                refine ky_iald C (ltA hG ar7) (ceA7 hG) (tR0 hG) dX6_saidBy_128 (fun hx36 => ?_)
                refine ky_iconst C (1 : Int32) dX6_saidBy_129 (by decide) ?_
                refine ky_iadd C dX6_saidBy_130 ?_
                refine ky_nmi (fun x37 => ?_)
                refine ky_iast C (ltA hG ar7) (ceA7 hG) (tR0 hG) dX6_saidBy_131 (fun M38 hx39 => ?_)
                refine ky_iinc (lv' := fun x40 => [(4, .int x40), (5, .int (0 : Int32)), (7, .int x13), (3, .int x11), (0, .ref (gA G 0)), (1, .int xv1), (6, .int xv6)]) C dX6_saidBy_132 5 rfl (d1 := (1 : Int32)) rfl (by decide) (fun _ => rfl) (fun x40 => ?_)
                refine ky_iinc (lv' := fun x41 => [(6, .int x41), (4, .int x40), (5, .int (0 : Int32)), (7, .int x13), (3, .int x11), (0, .ref (gA G 0)), (1, .int xv1)]) C dX6_saidBy_135 6 rfl (d1 := (mI 1)) (by decide) (by decide) (fun _ => rfl) (fun x41 => ?_)
                refine ky_goto C 34 dX6_saidBy_138 (by decide) ?_
                exact ky_sub [5, 6, 4, 1, 2, 0] rfl (ih xv1 x11 x40 (0 : Int32) x41 M38 )
            · refine ky_iconst C (0 : Int32) dX6_saidBy_118 (by decide) ?_
              refine ky_istore (lv' := [(5, .int (0 : Int32)), (7, .int x13), (3, .int x11), (0, .ref (gA G 0)), (1, .int xv1), (4, .int xv4), (6, .int xv6)]) C dX6_saidBy_119 (by decide) rfl ?_
              refine ky_aload_n C dX6_saidBy_121 3 rfl ?_
              refine ky_get C (ltR hG) (ceR hG) rfl inWX6 12 (by decide) (wY_in tw_3_82) rfl rfl dX6_saidBy_122 ?_
              refine ky_iload C dX6_saidBy_125 1 rfl ?_
              refine ky_dup2 C dX6_saidBy_127 rfl rfl ?_
              refine ky_iald C (ltA hG ar7) (ceA7 hG) (tR0 hG) dX6_saidBy_128 (fun hx28 => ?_)
              refine ky_iconst C (1 : Int32) dX6_saidBy_129 (by decide) ?_
              refine ky_iadd C dX6_saidBy_130 ?_
              refine ky_nmi (fun x29 => ?_)
              refine ky_iast C (ltA hG ar7) (ceA7 hG) (tR0 hG) dX6_saidBy_131 (fun M30 hx31 => ?_)
              refine ky_iinc (lv' := fun x32 => [(4, .int x32), (5, .int (0 : Int32)), (7, .int x13), (3, .int x11), (0, .ref (gA G 0)), (1, .int xv1), (6, .int xv6)]) C dX6_saidBy_132 5 rfl (d1 := (1 : Int32)) rfl (by decide) (fun _ => rfl) (fun x32 => ?_)
              refine ky_iinc (lv' := fun x33 => [(6, .int x33), (4, .int x32), (5, .int (0 : Int32)), (7, .int x13), (3, .int x11), (0, .ref (gA G 0)), (1, .int xv1)]) C dX6_saidBy_135 6 rfl (d1 := (mI 1)) (by decide) (by decide) (fun _ => rfl) (fun x33 => ?_)
              refine ky_goto C 34 dX6_saidBy_138 (by decide) ?_
              exact ky_sub [5, 6, 4, 1, 2, 0] rfl (ih xv1 x11 x32 (0 : Int32) x33 M30 )
def LX6_saidBy_11 (F : Nat)  : Nat → Int32 → Int32 → Int32 → Int32 → Int32 → Mem → Option (Int32 × Mem)
  | 0, _, _, _, _, _, _ => none
  | n + 1, xv1, xv3, xv4, xv5, xv6, M => if (4 : Int32) ≤ xv6 then (LX6_saidBy_34 F  F xv1 xv3 xv4 xv5 (5 : Int32) M) else (gi xv6 4 (nm (u2 M 7 xv6.toNatClampNeg (0 : Int32)) (fun M48 => nm (xv6 + (1 : Int32)) (fun x50 => LX6_saidBy_11 F n xv1 xv3 xv4 xv5 x50 M48))))
theorem LX6_saidBy_11_s (F : Nat)  (n : Nat) (xv1 : Int32) (xv3 : Int32) (xv4 : Int32) (xv5 : Int32) (xv6 : Int32) (M : Mem) : LX6_saidBy_11 F (n + 1) xv1 xv3 xv4 xv5 xv6 M = (if (4 : Int32) ≤ xv6 then (LX6_saidBy_34 F  F xv1 xv3 xv4 xv5 (5 : Int32) M) else (gi xv6 4 (nm (u2 M 7 xv6.toNatClampNeg (0 : Int32)) (fun M48 => nm (xv6 + (1 : Int32)) (fun x50 => LX6_saidBy_11 F n xv1 xv3 xv4 xv5 x50 M48))))) := rfl
set_option maxRecDepth 100000 in
set_option maxHeartbeats 4000000 in
theorem lX6_saidBy_11 {G : KyG} {cy : ClassId} (hG : IsR G cy) {E : KyE} (C : Cx G E cX6_saidBy 8 RX6 (wY yX6_saidBy cX6_saidBy 8 (some .int)) (some .int) rmX6_saidBy) (F : Nat)   : ∀ (n : Nat) (xv1 : Int32) (xv3 : Int32) (xv4 : Int32) (xv5 : Int32) (xv6 : Int32) (M : Mem) , Wo G E 8 rI (LX6_saidBy_11 F n xv1 xv3 xv4 xv5 xv6 M) M 11 [(0, .ref (gA G 0)), (1, .int xv1), (3, .int xv3), (4, .int xv4), (5, .int xv5), (6, .int xv6)] [] := by
  intro n
  induction n with
  | zero => intro xv1 xv3 xv4 xv5 xv6 M ; exact ky_none
  | succ n ih =>
    intro xv1 xv3 xv4 xv5 xv6 M 
    rw [LX6_saidBy_11_s]
    refine ky_iload C dX6_saidBy_11 5 rfl ?_
    refine ky_iconst C (4 : Int32) dX6_saidBy_13 (by decide) ?_
    refine ky_icmp_ge C 31 dX6_saidBy_14 (by decide) ?_ ?_
    · refine ky_iconst C (5 : Int32) dX6_saidBy_31 (by decide) ?_
      refine ky_istore (lv' := [(6, .int (5 : Int32)), (0, .ref (gA G 0)), (1, .int xv1), (3, .int xv3), (4, .int xv4), (5, .int xv5)]) C dX6_saidBy_32 (by decide) rfl ?_
      exact ky_sub [1, 2, 3, 4, 5, 0] rfl (lX6_saidBy_34 hG C F   F xv1 xv3 xv4 xv5 (5 : Int32) M )
    · refine ky_aload_n C dX6_saidBy_17 0 rfl ?_
      refine ky_get C (ltR hG) (ceR hG) rfl inWX6 12 (by decide) (wY_in tw_3_82) rfl rfl dX6_saidBy_18 ?_
      refine ky_iload C dX6_saidBy_21 5 rfl ?_
      refine ky_iconst C (0 : Int32) dX6_saidBy_23 (by decide) ?_
      refine ky_iast C (ltA hG ar7) (ceA7 hG) (tR0 hG) dX6_saidBy_24 (fun M48 hx49 => ?_)
      refine ky_iinc (lv' := fun x50 => [(6, .int x50), (0, .ref (gA G 0)), (1, .int xv1), (3, .int xv3), (4, .int xv4), (5, .int xv5)]) C dX6_saidBy_25 5 rfl (d1 := (1 : Int32)) rfl (by decide) (fun _ => rfl) (fun x50 => ?_)
      refine ky_goto C 11 dX6_saidBy_28 (by decide) ?_
      exact ky_sub [1, 2, 3, 4, 5, 0] rfl (ih xv1 xv3 xv4 xv5 x50 M48 )
def f_X6_saidBy (F : Nat) (a1 : Int32) (a2 : Int32) (M : Mem) : Option (Int32 × Mem) := LX6_saidBy_11 F  F a1 a2 (0 : Int32) (1 : Int32) (0 : Int32) M
set_option maxRecDepth 100000 in
set_option maxHeartbeats 4000000 in
theorem c_X6_saidBy {G : KyG} {cy : ClassId} (hG : IsR G cy) (F : Nat)  (a1 : Int32) (a2 : Int32) (M : Mem)  : Ct G yX6_saidBy (wY yX6_saidBy cX6_saidBy 8 (some .int)) rmX6_saidBy rI [.ref (gA G 0), .int a1, .int a2] (f_X6_saidBy F a1 a2 M) M := by
  refine Ct_of cX6_saidBy 8 (some .int) RX6 hG.2.2.2 (by decide) rfl rfl (Nat.le_of_ble_eq_true rfl) rfl (fun E C => ?_)
  unfold f_X6_saidBy
  refine ky_iload_n C dX6_saidBy_0 2 rfl ?_
  refine ky_istore_n (lv' := [(3, .int a2), (0, .ref (gA G 0)), (1, .int a1), (2, .int a2)]) C dX6_saidBy_1 (by decide) rfl ?_
  refine ky_iconst C (0 : Int32) dX6_saidBy_2 (by decide) ?_
  refine ky_istore (lv' := [(4, .int (0 : Int32)), (3, .int a2), (0, .ref (gA G 0)), (1, .int a1), (2, .int a2)]) C dX6_saidBy_3 (by decide) rfl ?_
  refine ky_iconst C (1 : Int32) dX6_saidBy_5 (by decide) ?_
  refine ky_istore (lv' := [(5, .int (1 : Int32)), (4, .int (0 : Int32)), (3, .int a2), (0, .ref (gA G 0)), (1, .int a1), (2, .int a2)]) C dX6_saidBy_6 (by decide) rfl ?_
  refine ky_iconst C (0 : Int32) dX6_saidBy_8 (by decide) ?_
  refine ky_istore (lv' := [(6, .int (0 : Int32)), (5, .int (1 : Int32)), (4, .int (0 : Int32)), (3, .int a2), (0, .ref (gA G 0)), (1, .int a1), (2, .int a2)]) C dX6_saidBy_9 (by decide) rfl ?_
  exact ky_sub [4, 5, 3, 2, 1, 0] rfl (lX6_saidBy_11 hG C F   F a1 a2 (0 : Int32) (1 : Int32) (0 : Int32) M )
def rmX6_layMost : Room := { frames := 2, cells := 0, slots := 0, locals := 49 }
theorem hd_X6_layMost : yX6_layMost.cls = RX6 ∧ yX6_layMost.cls ≠ "java/lang/invoke/MethodHandle" ∧ yX6_layMost.cls ≠ "java/lang/invoke/VarHandle" ∧ (parseMethodDescriptor yX6_layMost.desc).map (fun d => d.parameters.length) = some 1 := ⟨rfl, by decide, by decide, by decide +kernel⟩
def LX6_layMost_4 (F : Nat)  : Nat → Int32 → Int32 → Int32 → Mem → Option (Int32 × Mem)
  | 0, _, _, _, _ => none
  | n + 1, xv1, xv2, xv3, M => if (15625 : Int32) ≤ xv3 then (some (xv2, M)) else (bd (f_X6_saidBy F xv1 xv3 M) (fun r1 M2 => if r1 ≤ xv2 then (nm (xv3 + (1 : Int32)) (fun x3 => LX6_layMost_4 F n xv1 xv2 x3 M2)) else (bd (f_X6_copy F 5 6 M2) (fun r4 M5 => nm (xv3 + (1 : Int32)) (fun x6 => LX6_layMost_4 F n xv1 r1 x6 M5)))))
theorem LX6_layMost_4_s (F : Nat)  (n : Nat) (xv1 : Int32) (xv2 : Int32) (xv3 : Int32) (M : Mem) : LX6_layMost_4 F (n + 1) xv1 xv2 xv3 M = (if (15625 : Int32) ≤ xv3 then (some (xv2, M)) else (bd (f_X6_saidBy F xv1 xv3 M) (fun r1 M2 => if r1 ≤ xv2 then (nm (xv3 + (1 : Int32)) (fun x3 => LX6_layMost_4 F n xv1 xv2 x3 M2)) else (bd (f_X6_copy F 5 6 M2) (fun r4 M5 => nm (xv3 + (1 : Int32)) (fun x6 => LX6_layMost_4 F n xv1 r1 x6 M5)))))) := rfl
set_option maxRecDepth 100000 in
set_option maxHeartbeats 4000000 in
theorem lX6_layMost_4 {G : KyG} {cy : ClassId} (hG : IsR G cy) {E : KyE} (C : Cx G E cX6_layMost 5 RX6 (wY yX6_layMost cX6_layMost 5 (some .int)) (some .int) rmX6_layMost) (F : Nat)   : ∀ (n : Nat) (xv1 : Int32) (xv2 : Int32) (xv3 : Int32) (M : Mem) , Wo G E 5 rI (LX6_layMost_4 F n xv1 xv2 xv3 M) M 4 [(0, .ref (gA G 0)), (1, .int xv1), (2, .int xv2), (3, .int xv3)] [] := by
  intro n
  induction n with
  | zero => intro xv1 xv2 xv3 M ; exact ky_none
  | succ n ih =>
    intro xv1 xv2 xv3 M 
    rw [LX6_layMost_4_s]
    refine ky_iload_n C dX6_layMost_4 3 rfl ?_
    refine ky_sipush C (15625 : Int32) dX6_layMost_5 (by decide) ?_
    refine ky_icmp_ge C 45 dX6_layMost_8 (by decide) ?_ ?_
    · refine ky_iload_n C dX6_layMost_45 2 rfl ?_
      exact ky_iret C dX6_layMost_46
    · refine ky_aload_n C dX6_layMost_11 0 rfl ?_
      refine ky_iload_n C dX6_layMost_12 1 rfl ?_
      refine ky_iload_n C dX6_layMost_13 3 rfl ?_
      refine ky_callVi C (c_X6_saidBy hG F xv1 xv3 M ) (ltR hG) (ceR hG) rfl (wY_goodV tw_4_42 tw_4_44 tw_p24 tw_1_7 tw_4_45) hd_X6_saidBy ⟨rfl, rfl, by decide, by decide⟩ rfl rfl (Nat.le_of_ble_eq_true rfl) dX6_layMost_14 (fun r1 M2 => ?_)
      refine ky_istore (lv' := [(4, .int r1), (0, .ref (gA G 0)), (1, .int xv1), (2, .int xv2), (3, .int xv3)]) C dX6_layMost_17 (by decide) rfl ?_
      refine ky_iload C dX6_layMost_19 0 rfl ?_
      refine ky_iload_n C dX6_layMost_21 3 rfl ?_
      refine ky_icmp_le C 39 dX6_layMost_22 (by decide) ?_ ?_
      · refine ky_iinc (lv' := fun x3 => [(3, .int x3), (4, .int r1), (0, .ref (gA G 0)), (1, .int xv1), (2, .int xv2)]) C dX6_layMost_39 4 rfl (d1 := (1 : Int32)) rfl (by decide) (fun _ => rfl) (fun x3 => ?_)
        refine ky_goto C 4 dX6_layMost_42 (by decide) ?_
        exact ky_sub [2, 3, 4, 0] rfl (ih xv1 xv2 x3 M2 )
      · refine ky_iload C dX6_layMost_25 0 rfl ?_
        refine ky_istore_n (lv' := [(2, .int r1), (4, .int r1), (0, .ref (gA G 0)), (1, .int xv1), (3, .int xv3)]) C dX6_layMost_27 (by decide) rfl ?_
        refine ky_aload_n C dX6_layMost_28 2 rfl ?_
        refine ky_get C (ltR hG) (ceR hG) rfl inWX6 10 (by decide) (wY_in tw_3_80) rfl rfl dX6_layMost_29 ?_
        refine ky_aload_n C dX6_layMost_32 2 rfl ?_
        refine ky_get C (ltR hG) (ceR hG) rfl inWX6 11 (by decide) (wY_in tw_3_81) rfl rfl dX6_layMost_33 ?_
        refine ky_callSv C (c_X6_copy hG F 5 6 M2 ar5 ar6) (wY_goodS tw_4_46 tw_4_47 tw_1_7 tw_4_48) hd_X6_copy ⟨rfl, rfl, by decide, by decide⟩ rfl rfl (Nat.le_of_ble_eq_true rfl) dX6_layMost_36 (fun r4 M5 => ?_)
        refine ky_iinc (lv' := fun x6 => [(3, .int x6), (2, .int r1), (4, .int r1), (0, .ref (gA G 0)), (1, .int xv1)]) C dX6_layMost_39 4 rfl (d1 := (1 : Int32)) rfl (by decide) (fun _ => rfl) (fun x6 => ?_)
        refine ky_goto C 4 dX6_layMost_42 (by decide) ?_
        exact ky_sub [3, 4, 1, 0] rfl (ih xv1 r1 x6 M5 )
def f_X6_layMost (F : Nat) (a1 : Int32) (M : Mem) : Option (Int32 × Mem) := LX6_layMost_4 F  F a1 (mI 1) (0 : Int32) M
set_option maxRecDepth 100000 in
set_option maxHeartbeats 4000000 in
theorem c_X6_layMost {G : KyG} {cy : ClassId} (hG : IsR G cy) (F : Nat)  (a1 : Int32) (M : Mem)  : Ct G yX6_layMost (wY yX6_layMost cX6_layMost 5 (some .int)) rmX6_layMost rI [.ref (gA G 0), .int a1] (f_X6_layMost F a1 M) M := by
  refine Ct_of cX6_layMost 5 (some .int) RX6 hG.2.2.2 (by decide) rfl rfl (Nat.le_of_ble_eq_true rfl) rfl (fun E C => ?_)
  unfold f_X6_layMost
  refine ky_iconst C (mI 1) dX6_layMost_0 (by decide) ?_
  refine ky_istore_n (lv' := [(2, .int (mI 1)), (0, .ref (gA G 0)), (1, .int a1)]) C dX6_layMost_1 (by decide) rfl ?_
  refine ky_iconst C (0 : Int32) dX6_layMost_2 (by decide) ?_
  refine ky_istore_n (lv' := [(3, .int (0 : Int32)), (2, .int (mI 1)), (0, .ref (gA G 0)), (1, .int a1)]) C dX6_layMost_3 (by decide) rfl ?_
  exact ky_sub [2, 3, 1, 0] rfl (lX6_layMost_4 hG C F   F a1 (mI 1) (0 : Int32) M )
def rmX6_truthsOf : Room := { frames := 1, cells := 0, slots := 0, locals := 24 }
theorem hd_X6_truthsOf : yX6_truthsOf.cls = RX6 ∧ yX6_truthsOf.cls ≠ "java/lang/invoke/MethodHandle" ∧ yX6_truthsOf.cls ≠ "java/lang/invoke/VarHandle" ∧ (parseMethodDescriptor yX6_truthsOf.desc).map (fun d => d.parameters.length) = some 2 := ⟨rfl, by decide, by decide, by decide +kernel⟩
def LX6_truthsOf_13 (F : Nat)  : Nat → Int32 → Int32 → Int32 → Int32 → Int32 → Int32 → Mem → Option (Int32 × Mem)
  | 0, _, _, _, _, _, _, _ => none
  | n + 1, xv1, xv2, xv3, xv4, xv5, xv6, M => if xv6 < 0 then (if xv2 = 0 then (some (xv3, M)) else (if xv2 = (1 : Int32) then (some (xv4, M)) else (if xv3 = 0 then (some (xv4, M)) else (some (xv5, M))))) else (bd (f_X6_isTried F xv1 xv6 M) (fun r1 M2 => if r1 = 0 then (nm (xv6 + (mI 1)) (fun x3 => LX6_truthsOf_13 F n xv1 xv2 xv3 xv4 xv5 x3 M2)) else (nm (xv3 + (1 : Int32)) (fun x4 => nm (xv5 &&& xv6) (fun x5 => nm (xv6 + (mI 1)) (fun x6 => LX6_truthsOf_13 F n xv1 xv2 x4 xv6 x5 x6 M2))))))
theorem LX6_truthsOf_13_s (F : Nat)  (n : Nat) (xv1 : Int32) (xv2 : Int32) (xv3 : Int32) (xv4 : Int32) (xv5 : Int32) (xv6 : Int32) (M : Mem) : LX6_truthsOf_13 F (n + 1) xv1 xv2 xv3 xv4 xv5 xv6 M = (if xv6 < 0 then (if xv2 = 0 then (some (xv3, M)) else (if xv2 = (1 : Int32) then (some (xv4, M)) else (if xv3 = 0 then (some (xv4, M)) else (some (xv5, M))))) else (bd (f_X6_isTried F xv1 xv6 M) (fun r1 M2 => if r1 = 0 then (nm (xv6 + (mI 1)) (fun x3 => LX6_truthsOf_13 F n xv1 xv2 xv3 xv4 xv5 x3 M2)) else (nm (xv3 + (1 : Int32)) (fun x4 => nm (xv5 &&& xv6) (fun x5 => nm (xv6 + (mI 1)) (fun x6 => LX6_truthsOf_13 F n xv1 xv2 x4 xv6 x5 x6 M2))))))) := rfl
set_option maxRecDepth 100000 in
set_option maxHeartbeats 4000000 in
theorem lX6_truthsOf_13 {G : KyG} {cy : ClassId} (hG : IsR G cy) {E : KyE} (C : Cx G E cX6_truthsOf 7 RX6 (wY yX6_truthsOf cX6_truthsOf 7 (some .int)) (some .int) rmX6_truthsOf) (F : Nat)   : ∀ (n : Nat) (xv1 : Int32) (xv2 : Int32) (xv3 : Int32) (xv4 : Int32) (xv5 : Int32) (xv6 : Int32) (M : Mem) , Wo G E 7 rI (LX6_truthsOf_13 F n xv1 xv2 xv3 xv4 xv5 xv6 M) M 13 [(0, .ref (gA G 0)), (1, .int xv1), (2, .int xv2), (3, .int xv3), (4, .int xv4), (5, .int xv5), (6, .int xv6)] [] := by
  intro n
  induction n with
  | zero => intro xv1 xv2 xv3 xv4 xv5 xv6 M ; exact ky_none
  | succ n ih =>
    intro xv1 xv2 xv3 xv4 xv5 xv6 M 
    rw [LX6_truthsOf_13_s]
    refine ky_iload C dX6_truthsOf_13 6 rfl ?_
    refine ky_if_lt C 48 dX6_truthsOf_15 (by decide) ?_ ?_
    · refine ky_iload_n C dX6_truthsOf_48 2 rfl ?_
      refine ky_if_ne C 56 dX6_truthsOf_49 (by decide) ?_ ?_
      · refine ky_iload_n C dX6_truthsOf_52 3 rfl ?_
        refine ky_goto C 72 dX6_truthsOf_53 (by decide) ?_
        exact ky_iret C dX6_truthsOf_72
      · refine ky_iload_n C dX6_truthsOf_56 2 rfl ?_
        refine ky_iconst C (1 : Int32) dX6_truthsOf_57 (by decide) ?_
        refine ky_icmp_eq C 65 dX6_truthsOf_58 (by decide) ?_ ?_
        · refine ky_iload C dX6_truthsOf_65 4 rfl ?_
          refine ky_goto C 72 dX6_truthsOf_67 (by decide) ?_
          exact ky_iret C dX6_truthsOf_72
        · refine ky_iload_n C dX6_truthsOf_61 3 rfl ?_
          refine ky_if_ne C 70 dX6_truthsOf_62 (by decide) ?_ ?_
          · refine ky_iload C dX6_truthsOf_65 4 rfl ?_
            refine ky_goto C 72 dX6_truthsOf_67 (by decide) ?_
            exact ky_iret C dX6_truthsOf_72
          · refine ky_iload C dX6_truthsOf_70 5 rfl ?_
            exact ky_iret C dX6_truthsOf_72
    · refine ky_aload_n C dX6_truthsOf_18 0 rfl ?_
      refine ky_iload_n C dX6_truthsOf_19 1 rfl ?_
      refine ky_iload C dX6_truthsOf_20 6 rfl ?_
      refine ky_callVi C (c_X6_isTried hG F xv1 xv6 M ) (ltR hG) (ceR hG) rfl (wY_goodV tw_4_73 tw_4_75 tw_p27 tw_1_7 tw_4_76) hd_X6_isTried ⟨rfl, rfl, by decide, by decide⟩ rfl rfl (Nat.le_of_ble_eq_true rfl) dX6_truthsOf_22 (fun r1 M2 => ?_)
      refine ky_if_eq C 42 dX6_truthsOf_25 (by decide) ?_ ?_
      · refine ky_iinc (lv' := fun x3 => [(6, .int x3), (0, .ref (gA G 0)), (1, .int xv1), (2, .int xv2), (3, .int xv3), (4, .int xv4), (5, .int xv5)]) C dX6_truthsOf_42 6 rfl (d1 := (mI 1)) (by decide) (by decide) (fun _ => rfl) (fun x3 => ?_)
        refine ky_goto C 13 dX6_truthsOf_45 (by decide) ?_
        exact ky_sub [1, 2, 3, 4, 5, 6, 0] rfl (ih xv1 xv2 xv3 xv4 xv5 x3 M2 )
      · refine ky_iinc (lv' := fun x4 => [(3, .int x4), (0, .ref (gA G 0)), (1, .int xv1), (2, .int xv2), (4, .int xv4), (5, .int xv5), (6, .int xv6)]) C dX6_truthsOf_28 3 rfl (d1 := (1 : Int32)) rfl (by decide) (fun _ => rfl) (fun x4 => ?_)
        refine ky_iload C dX6_truthsOf_31 6 rfl ?_
        refine ky_istore (lv' := [(4, .int xv6), (3, .int x4), (0, .ref (gA G 0)), (1, .int xv1), (2, .int xv2), (5, .int xv5), (6, .int xv6)]) C dX6_truthsOf_33 (by decide) rfl ?_
        refine ky_iload C dX6_truthsOf_35 5 rfl ?_
        refine ky_iload C dX6_truthsOf_37 6 rfl ?_
        refine ky_iand C dX6_truthsOf_39 ?_
        refine ky_nmi (fun x5 => ?_)
        refine ky_istore (lv' := [(5, .int x5), (4, .int xv6), (3, .int x4), (0, .ref (gA G 0)), (1, .int xv1), (2, .int xv2), (6, .int xv6)]) C dX6_truthsOf_40 (by decide) rfl ?_
        refine ky_iinc (lv' := fun x6 => [(6, .int x6), (5, .int x5), (4, .int xv6), (3, .int x4), (0, .ref (gA G 0)), (1, .int xv1), (2, .int xv2)]) C dX6_truthsOf_42 6 rfl (d1 := (mI 1)) (by decide) (by decide) (fun _ => rfl) (fun x6 => ?_)
        refine ky_goto C 13 dX6_truthsOf_45 (by decide) ?_
        exact ky_sub [4, 5, 6, 3, 2, 1, 0] rfl (ih xv1 xv2 x4 xv6 x5 x6 M2 )
def f_X6_truthsOf (F : Nat) (a1 : Int32) (a2 : Int32) (M : Mem) : Option (Int32 × Mem) := LX6_truthsOf_13 F  F a1 a2 (0 : Int32) (mI 1) (63 : Int32) (63 : Int32) M
set_option maxRecDepth 100000 in
set_option maxHeartbeats 4000000 in
theorem c_X6_truthsOf {G : KyG} {cy : ClassId} (hG : IsR G cy) (F : Nat)  (a1 : Int32) (a2 : Int32) (M : Mem)  : Ct G yX6_truthsOf (wY yX6_truthsOf cX6_truthsOf 7 (some .int)) rmX6_truthsOf rI [.ref (gA G 0), .int a1, .int a2] (f_X6_truthsOf F a1 a2 M) M := by
  refine Ct_of cX6_truthsOf 7 (some .int) RX6 hG.2.2.2 (by decide) rfl rfl (Nat.le_of_ble_eq_true rfl) rfl (fun E C => ?_)
  unfold f_X6_truthsOf
  refine ky_iconst C (0 : Int32) dX6_truthsOf_0 (by decide) ?_
  refine ky_istore_n (lv' := [(3, .int (0 : Int32)), (0, .ref (gA G 0)), (1, .int a1), (2, .int a2)]) C dX6_truthsOf_1 (by decide) rfl ?_
  refine ky_iconst C (mI 1) dX6_truthsOf_2 (by decide) ?_
  refine ky_istore (lv' := [(4, .int (mI 1)), (3, .int (0 : Int32)), (0, .ref (gA G 0)), (1, .int a1), (2, .int a2)]) C dX6_truthsOf_3 (by decide) rfl ?_
  refine ky_bipush C (63 : Int32) dX6_truthsOf_5 (by decide) ?_
  refine ky_istore (lv' := [(5, .int (63 : Int32)), (4, .int (mI 1)), (3, .int (0 : Int32)), (0, .ref (gA G 0)), (1, .int a1), (2, .int a2)]) C dX6_truthsOf_7 (by decide) rfl ?_
  refine ky_bipush C (63 : Int32) dX6_truthsOf_9 (by decide) ?_
  refine ky_istore (lv' := [(6, .int (63 : Int32)), (5, .int (63 : Int32)), (4, .int (mI 1)), (3, .int (0 : Int32)), (0, .ref (gA G 0)), (1, .int a1), (2, .int a2)]) C dX6_truthsOf_11 (by decide) rfl ?_
  exact ky_sub [4, 5, 6, 3, 2, 1, 0] rfl (lX6_truthsOf_13 hG C F   F a1 a2 (0 : Int32) (mI 1) (63 : Int32) (63 : Int32) M )
def rmX6_tellVictim : Room := { frames := 0, cells := 0, slots := 0, locals := 0 }
theorem hd_X6_tellVictim : yX6_tellVictim.cls = RX6 ∧ yX6_tellVictim.cls ≠ "java/lang/invoke/MethodHandle" ∧ yX6_tellVictim.cls ≠ "java/lang/invoke/VarHandle" ∧ (parseMethodDescriptor yX6_tellVictim.desc).map (fun d => d.parameters.length) = some 2 := ⟨rfl, by decide, by decide, by decide +kernel⟩
def LX6_tellVictim_8 (F : Nat)  : Nat → Int32 → Int32 → Int32 → Int32 → Int32 → Mem → Option (Int32 × Mem)
  | 0, _, _, _, _, _, _ => none
  | n + 1, xv1, xv2, xv3, xv4, xv5, M => if (M.1 0 8) ≤ xv5 then (if xv2 = 0 then (gi xv1 3 (some (M.1 2 xv1.toNatClampNeg, M))) else (if xv2 = (1 : Int32) then (gi xv1 3 (some (M.1 3 xv1.toNatClampNeg, M))) else (if xv2 = (2 : Int32) then (some (xv3, M)) else (if xv2 = (3 : Int32) then (some (xv4, M)) else (some ((mI 102), M)))))) else (gi (((6 : Int32) * xv5) + (1 : Int32)) 24 (if (M.1 4 (((6 : Int32) * xv5) + (1 : Int32)).toNatClampNeg) = xv1 then (nm (xv3 ||| ((1 : Int32) <<< (xv5 &&& 31))) (fun x11 => gi (((6 : Int32) * xv5) + (1 : Int32)) 24 (if (M.1 4 (((6 : Int32) * xv5) + (1 : Int32)).toNatClampNeg) = xv1 then (gi (((6 : Int32) * xv5) + (2 : Int32)) 24 (nm (xv4 + (M.1 4 (((6 : Int32) * xv5) + (2 : Int32)).toNatClampNeg)) (fun x16 => nm (xv5 + (1 : Int32)) (fun x17 => LX6_tellVictim_8 F n xv1 xv2 x11 x16 x17 M)))) else (nm (xv4 + (0 : Int32)) (fun x13 => nm (xv5 + (1 : Int32)) (fun x14 => LX6_tellVictim_8 F n xv1 xv2 x11 x13 x14 M)))))) else (nm (xv3 ||| (0 : Int32)) (fun x4 => gi (((6 : Int32) * xv5) + (1 : Int32)) 24 (if (M.1 4 (((6 : Int32) * xv5) + (1 : Int32)).toNatClampNeg) = xv1 then (gi (((6 : Int32) * xv5) + (2 : Int32)) 24 (nm (xv4 + (M.1 4 (((6 : Int32) * xv5) + (2 : Int32)).toNatClampNeg)) (fun x9 => nm (xv5 + (1 : Int32)) (fun x10 => LX6_tellVictim_8 F n xv1 xv2 x4 x9 x10 M)))) else (nm (xv4 + (0 : Int32)) (fun x6 => nm (xv5 + (1 : Int32)) (fun x7 => LX6_tellVictim_8 F n xv1 xv2 x4 x6 x7 M))))))))
theorem LX6_tellVictim_8_s (F : Nat)  (n : Nat) (xv1 : Int32) (xv2 : Int32) (xv3 : Int32) (xv4 : Int32) (xv5 : Int32) (M : Mem) : LX6_tellVictim_8 F (n + 1) xv1 xv2 xv3 xv4 xv5 M = (if (M.1 0 8) ≤ xv5 then (if xv2 = 0 then (gi xv1 3 (some (M.1 2 xv1.toNatClampNeg, M))) else (if xv2 = (1 : Int32) then (gi xv1 3 (some (M.1 3 xv1.toNatClampNeg, M))) else (if xv2 = (2 : Int32) then (some (xv3, M)) else (if xv2 = (3 : Int32) then (some (xv4, M)) else (some ((mI 102), M)))))) else (gi (((6 : Int32) * xv5) + (1 : Int32)) 24 (if (M.1 4 (((6 : Int32) * xv5) + (1 : Int32)).toNatClampNeg) = xv1 then (nm (xv3 ||| ((1 : Int32) <<< (xv5 &&& 31))) (fun x11 => gi (((6 : Int32) * xv5) + (1 : Int32)) 24 (if (M.1 4 (((6 : Int32) * xv5) + (1 : Int32)).toNatClampNeg) = xv1 then (gi (((6 : Int32) * xv5) + (2 : Int32)) 24 (nm (xv4 + (M.1 4 (((6 : Int32) * xv5) + (2 : Int32)).toNatClampNeg)) (fun x16 => nm (xv5 + (1 : Int32)) (fun x17 => LX6_tellVictim_8 F n xv1 xv2 x11 x16 x17 M)))) else (nm (xv4 + (0 : Int32)) (fun x13 => nm (xv5 + (1 : Int32)) (fun x14 => LX6_tellVictim_8 F n xv1 xv2 x11 x13 x14 M)))))) else (nm (xv3 ||| (0 : Int32)) (fun x4 => gi (((6 : Int32) * xv5) + (1 : Int32)) 24 (if (M.1 4 (((6 : Int32) * xv5) + (1 : Int32)).toNatClampNeg) = xv1 then (gi (((6 : Int32) * xv5) + (2 : Int32)) 24 (nm (xv4 + (M.1 4 (((6 : Int32) * xv5) + (2 : Int32)).toNatClampNeg)) (fun x9 => nm (xv5 + (1 : Int32)) (fun x10 => LX6_tellVictim_8 F n xv1 xv2 x4 x9 x10 M)))) else (nm (xv4 + (0 : Int32)) (fun x6 => nm (xv5 + (1 : Int32)) (fun x7 => LX6_tellVictim_8 F n xv1 xv2 x4 x6 x7 M))))))))) := rfl
set_option maxRecDepth 100000 in
set_option maxHeartbeats 4000000 in
theorem lX6_tellVictim_8 {G : KyG} {cy : ClassId} (hG : IsR G cy) {E : KyE} (C : Cx G E cX6_tellVictim 6 RX6 (wY yX6_tellVictim cX6_tellVictim 6 (some .int)) (some .int) rmX6_tellVictim) (F : Nat)   : ∀ (n : Nat) (xv1 : Int32) (xv2 : Int32) (xv3 : Int32) (xv4 : Int32) (xv5 : Int32) (M : Mem) , Wo G E 6 rI (LX6_tellVictim_8 F n xv1 xv2 xv3 xv4 xv5 M) M 8 [(0, .ref (gA G 0)), (1, .int xv1), (2, .int xv2), (3, .int xv3), (4, .int xv4), (5, .int xv5)] [] := by
  intro n
  induction n with
  | zero => intro xv1 xv2 xv3 xv4 xv5 M ; exact ky_none
  | succ n ih =>
    intro xv1 xv2 xv3 xv4 xv5 M 
    rw [LX6_tellVictim_8_s]
    refine ky_iload C dX6_tellVictim_8 5 rfl ?_
    refine ky_aload_n C dX6_tellVictim_10 0 rfl ?_
    refine ky_get C (ltR hG) (ceR hG) rfl inWX6 8 (by decide) (wY_in tw_3_78) rfl rfl dX6_tellVictim_11 ?_
    refine ky_icmp_ge C 87 dX6_tellVictim_14 (by decide) ?_ ?_
    · refine ky_iload_n C dX6_tellVictim_87 2 rfl ?_
      refine ky_if_ne C 100 dX6_tellVictim_88 (by decide) ?_ ?_
      · refine ky_aload_n C dX6_tellVictim_91 0 rfl ?_
        refine ky_get C (ltR hG) (ceR hG) rfl inWX6 6 (by decide) (wY_in tw_3_76) rfl rfl dX6_tellVictim_92 ?_
        refine ky_iload_n C dX6_tellVictim_95 1 rfl ?_
        refine ky_iald C (ltA hG ar2) (ceA2 hG) (tR0 hG) dX6_tellVictim_96 (fun hx2 => ?_)
        refine ky_goto C 135 dX6_tellVictim_97 (by decide) ?_
        exact ky_iret C dX6_tellVictim_135
      · refine ky_iload_n C dX6_tellVictim_100 2 rfl ?_
        refine ky_iconst C (1 : Int32) dX6_tellVictim_101 (by decide) ?_
        refine ky_icmp_ne C 114 dX6_tellVictim_102 (by decide) ?_ ?_
        · refine ky_aload_n C dX6_tellVictim_105 0 rfl ?_
          refine ky_get C (ltR hG) (ceR hG) rfl inWX6 7 (by decide) (wY_in tw_3_77) rfl rfl dX6_tellVictim_106 ?_
          refine ky_iload_n C dX6_tellVictim_109 1 rfl ?_
          refine ky_iald C (ltA hG ar3) (ceA3 hG) (tR0 hG) dX6_tellVictim_110 (fun hx1 => ?_)
          refine ky_goto C 135 dX6_tellVictim_111 (by decide) ?_
          exact ky_iret C dX6_tellVictim_135
        · refine ky_iload_n C dX6_tellVictim_114 2 rfl ?_
          refine ky_iconst C (2 : Int32) dX6_tellVictim_115 (by decide) ?_
          refine ky_icmp_ne C 123 dX6_tellVictim_116 (by decide) ?_ ?_
          · refine ky_iload_n C dX6_tellVictim_119 3 rfl ?_
            refine ky_goto C 135 dX6_tellVictim_120 (by decide) ?_
            exact ky_iret C dX6_tellVictim_135
          · refine ky_iload_n C dX6_tellVictim_123 2 rfl ?_
            refine ky_iconst C (3 : Int32) dX6_tellVictim_124 (by decide) ?_
            refine ky_icmp_ne C 133 dX6_tellVictim_125 (by decide) ?_ ?_
            · refine ky_iload C dX6_tellVictim_128 4 rfl ?_
              refine ky_goto C 135 dX6_tellVictim_130 (by decide) ?_
              exact ky_iret C dX6_tellVictim_135
            · refine ky_bipush C (mI 102) dX6_tellVictim_133 (by decide) ?_
              exact ky_iret C dX6_tellVictim_135
    · refine ky_iload_n C dX6_tellVictim_17 3 rfl ?_
      refine ky_aload_n C dX6_tellVictim_18 0 rfl ?_
      refine ky_get C (ltR hG) (ceR hG) rfl inWX6 9 (by decide) (wY_in tw_3_79) rfl rfl dX6_tellVictim_19 ?_
      refine ky_bipush C (6 : Int32) dX6_tellVictim_22 (by decide) ?_
      refine ky_iload C dX6_tellVictim_24 5 rfl ?_
      refine ky_imul C dX6_tellVictim_26 ?_
      refine ky_iconst C (1 : Int32) dX6_tellVictim_27 (by decide) ?_
      refine ky_iadd C dX6_tellVictim_28 ?_
      refine ky_iald C (ltA hG ar4) (ceA4 hG) (tR0 hG) dX6_tellVictim_29 (fun hx3 => ?_)
      refine ky_iload_n C dX6_tellVictim_30 1 rfl ?_
      refine ky_icmp_ne C 41 dX6_tellVictim_31 (by decide) ?_ ?_
      · refine ky_iconst C (1 : Int32) dX6_tellVictim_34 (by decide) ?_
        refine ky_iload C dX6_tellVictim_35 5 rfl ?_
        refine ky_ishl C dX6_tellVictim_37 ?_
        refine ky_goto C 42 dX6_tellVictim_38 (by decide) ?_
        refine ky_ior C dX6_tellVictim_42 ?_
        refine ky_nmi (fun x11 => ?_)
        refine ky_istore_n (lv' := [(3, .int x11), (0, .ref (gA G 0)), (1, .int xv1), (2, .int xv2), (4, .int xv4), (5, .int xv5)]) C dX6_tellVictim_43 (by decide) rfl ?_
        refine ky_iload C dX6_tellVictim_44 4 rfl ?_
        refine ky_aload_n C dX6_tellVictim_46 1 rfl ?_
        refine ky_get C (ltR hG) (ceR hG) rfl inWX6 9 (by decide) (wY_in tw_3_79) rfl rfl dX6_tellVictim_47 ?_
        refine ky_bipush C (6 : Int32) dX6_tellVictim_50 (by decide) ?_
        refine ky_iload C dX6_tellVictim_52 5 rfl ?_
        refine ky_imul C dX6_tellVictim_54 ?_
        refine ky_iconst C (1 : Int32) dX6_tellVictim_55 (by decide) ?_
        refine ky_iadd C dX6_tellVictim_56 ?_
        refine ky_iald C (ltA hG ar4) (ceA4 hG) (tR0 hG) dX6_tellVictim_57 (fun hx12 => ?_)
        refine ky_iload_n C dX6_tellVictim_58 2 rfl ?_
        refine ky_icmp_ne C 77 dX6_tellVictim_59 (by decide) ?_ ?_
        · refine ky_aload_n C dX6_tellVictim_62 1 rfl ?_
          refine ky_get C (ltR hG) (ceR hG) rfl inWX6 9 (by decide) (wY_in tw_3_79) rfl rfl dX6_tellVictim_63 ?_
          refine ky_bipush C (6 : Int32) dX6_tellVictim_66 (by decide) ?_
          refine ky_iload C dX6_tellVictim_68 5 rfl ?_
          refine ky_imul C dX6_tellVictim_70 ?_
          refine ky_iconst C (2 : Int32) dX6_tellVictim_71 (by decide) ?_
          refine ky_iadd C dX6_tellVictim_72 ?_
          refine ky_iald C (ltA hG ar4) (ceA4 hG) (tR0 hG) dX6_tellVictim_73 (fun hx15 => ?_)
          refine ky_goto C 78 dX6_tellVictim_74 (by decide) ?_
          refine ky_iadd C dX6_tellVictim_78 ?_
          refine ky_nmi (fun x16 => ?_)
          refine ky_istore (lv' := [(4, .int x16), (3, .int x11), (0, .ref (gA G 0)), (1, .int xv1), (2, .int xv2), (5, .int xv5)]) C dX6_tellVictim_79 (by decide) rfl ?_
          refine ky_iinc (lv' := fun x17 => [(5, .int x17), (4, .int x16), (3, .int x11), (0, .ref (gA G 0)), (1, .int xv1), (2, .int xv2)]) C dX6_tellVictim_81 5 rfl (d1 := (1 : Int32)) rfl (by decide) (fun _ => rfl) (fun x17 => ?_)
          refine ky_goto C 8 dX6_tellVictim_84 (by decide) ?_
          exact ky_sub [3, 4, 5, 2, 1, 0] rfl (ih xv1 xv2 x11 x16 x17 M )
        · refine ky_iconst C (0 : Int32) dX6_tellVictim_77 (by decide) ?_
          refine ky_iadd C dX6_tellVictim_78 ?_
          refine ky_nmi (fun x13 => ?_)
          refine ky_istore (lv' := [(4, .int x13), (3, .int x11), (0, .ref (gA G 0)), (1, .int xv1), (2, .int xv2), (5, .int xv5)]) C dX6_tellVictim_79 (by decide) rfl ?_
          refine ky_iinc (lv' := fun x14 => [(5, .int x14), (4, .int x13), (3, .int x11), (0, .ref (gA G 0)), (1, .int xv1), (2, .int xv2)]) C dX6_tellVictim_81 5 rfl (d1 := (1 : Int32)) rfl (by decide) (fun _ => rfl) (fun x14 => ?_)
          refine ky_goto C 8 dX6_tellVictim_84 (by decide) ?_
          exact ky_sub [3, 4, 5, 2, 1, 0] rfl (ih xv1 xv2 x11 x13 x14 M )
      · refine ky_iconst C (0 : Int32) dX6_tellVictim_41 (by decide) ?_
        refine ky_ior C dX6_tellVictim_42 ?_
        refine ky_nmi (fun x4 => ?_)
        refine ky_istore_n (lv' := [(3, .int x4), (0, .ref (gA G 0)), (1, .int xv1), (2, .int xv2), (4, .int xv4), (5, .int xv5)]) C dX6_tellVictim_43 (by decide) rfl ?_
        refine ky_iload C dX6_tellVictim_44 4 rfl ?_
        refine ky_aload_n C dX6_tellVictim_46 1 rfl ?_
        refine ky_get C (ltR hG) (ceR hG) rfl inWX6 9 (by decide) (wY_in tw_3_79) rfl rfl dX6_tellVictim_47 ?_
        refine ky_bipush C (6 : Int32) dX6_tellVictim_50 (by decide) ?_
        refine ky_iload C dX6_tellVictim_52 5 rfl ?_
        refine ky_imul C dX6_tellVictim_54 ?_
        refine ky_iconst C (1 : Int32) dX6_tellVictim_55 (by decide) ?_
        refine ky_iadd C dX6_tellVictim_56 ?_
        refine ky_iald C (ltA hG ar4) (ceA4 hG) (tR0 hG) dX6_tellVictim_57 (fun hx5 => ?_)
        refine ky_iload_n C dX6_tellVictim_58 2 rfl ?_
        refine ky_icmp_ne C 77 dX6_tellVictim_59 (by decide) ?_ ?_
        · refine ky_aload_n C dX6_tellVictim_62 1 rfl ?_
          refine ky_get C (ltR hG) (ceR hG) rfl inWX6 9 (by decide) (wY_in tw_3_79) rfl rfl dX6_tellVictim_63 ?_
          refine ky_bipush C (6 : Int32) dX6_tellVictim_66 (by decide) ?_
          refine ky_iload C dX6_tellVictim_68 5 rfl ?_
          refine ky_imul C dX6_tellVictim_70 ?_
          refine ky_iconst C (2 : Int32) dX6_tellVictim_71 (by decide) ?_
          refine ky_iadd C dX6_tellVictim_72 ?_
          refine ky_iald C (ltA hG ar4) (ceA4 hG) (tR0 hG) dX6_tellVictim_73 (fun hx8 => ?_)
          refine ky_goto C 78 dX6_tellVictim_74 (by decide) ?_
          refine ky_iadd C dX6_tellVictim_78 ?_
          refine ky_nmi (fun x9 => ?_)
          refine ky_istore (lv' := [(4, .int x9), (3, .int x4), (0, .ref (gA G 0)), (1, .int xv1), (2, .int xv2), (5, .int xv5)]) C dX6_tellVictim_79 (by decide) rfl ?_
          refine ky_iinc (lv' := fun x10 => [(5, .int x10), (4, .int x9), (3, .int x4), (0, .ref (gA G 0)), (1, .int xv1), (2, .int xv2)]) C dX6_tellVictim_81 5 rfl (d1 := (1 : Int32)) rfl (by decide) (fun _ => rfl) (fun x10 => ?_)
          refine ky_goto C 8 dX6_tellVictim_84 (by decide) ?_
          exact ky_sub [3, 4, 5, 2, 1, 0] rfl (ih xv1 xv2 x4 x9 x10 M )
        · refine ky_iconst C (0 : Int32) dX6_tellVictim_77 (by decide) ?_
          refine ky_iadd C dX6_tellVictim_78 ?_
          refine ky_nmi (fun x6 => ?_)
          refine ky_istore (lv' := [(4, .int x6), (3, .int x4), (0, .ref (gA G 0)), (1, .int xv1), (2, .int xv2), (5, .int xv5)]) C dX6_tellVictim_79 (by decide) rfl ?_
          refine ky_iinc (lv' := fun x7 => [(5, .int x7), (4, .int x6), (3, .int x4), (0, .ref (gA G 0)), (1, .int xv1), (2, .int xv2)]) C dX6_tellVictim_81 5 rfl (d1 := (1 : Int32)) rfl (by decide) (fun _ => rfl) (fun x7 => ?_)
          refine ky_goto C 8 dX6_tellVictim_84 (by decide) ?_
          exact ky_sub [3, 4, 5, 2, 1, 0] rfl (ih xv1 xv2 x4 x6 x7 M )
def f_X6_tellVictim (F : Nat) (a1 : Int32) (a2 : Int32) (M : Mem) : Option (Int32 × Mem) := LX6_tellVictim_8 F  F a1 a2 (0 : Int32) (0 : Int32) (0 : Int32) M
set_option maxRecDepth 100000 in
set_option maxHeartbeats 4000000 in
theorem c_X6_tellVictim {G : KyG} {cy : ClassId} (hG : IsR G cy) (F : Nat)  (a1 : Int32) (a2 : Int32) (M : Mem)  : Ct G yX6_tellVictim (wY yX6_tellVictim cX6_tellVictim 6 (some .int)) rmX6_tellVictim rI [.ref (gA G 0), .int a1, .int a2] (f_X6_tellVictim F a1 a2 M) M := by
  refine Ct_of cX6_tellVictim 6 (some .int) RX6 hG.2.2.2 (by decide) rfl rfl (Nat.le_of_ble_eq_true rfl) rfl (fun E C => ?_)
  unfold f_X6_tellVictim
  refine ky_iconst C (0 : Int32) dX6_tellVictim_0 (by decide) ?_
  refine ky_istore_n (lv' := [(3, .int (0 : Int32)), (0, .ref (gA G 0)), (1, .int a1), (2, .int a2)]) C dX6_tellVictim_1 (by decide) rfl ?_
  refine ky_iconst C (0 : Int32) dX6_tellVictim_2 (by decide) ?_
  refine ky_istore (lv' := [(4, .int (0 : Int32)), (3, .int (0 : Int32)), (0, .ref (gA G 0)), (1, .int a1), (2, .int a2)]) C dX6_tellVictim_3 (by decide) rfl ?_
  refine ky_iconst C (0 : Int32) dX6_tellVictim_5 (by decide) ?_
  refine ky_istore (lv' := [(5, .int (0 : Int32)), (4, .int (0 : Int32)), (3, .int (0 : Int32)), (0, .ref (gA G 0)), (1, .int a1), (2, .int a2)]) C dX6_tellVictim_6 (by decide) rfl ?_
  exact ky_sub [3, 4, 5, 2, 1, 0] rfl (lX6_tellVictim_8 hG C F   F a1 a2 (0 : Int32) (0 : Int32) (0 : Int32) M )
def rmX6_noteVictim : Room := { frames := 3, cells := 0, slots := 0, locals := 73 }
theorem hd_X6_noteVictim : yX6_noteVictim.cls = RX6 ∧ yX6_noteVictim.cls ≠ "java/lang/invoke/MethodHandle" ∧ yX6_noteVictim.cls ≠ "java/lang/invoke/VarHandle" ∧ (parseMethodDescriptor yX6_noteVictim.desc).map (fun d => d.parameters.length) = some 1 := ⟨rfl, by decide, by decide, by decide +kernel⟩
def LX6_noteVictim_59 (F : Nat)  : Nat → Int32 → Int32 → Int32 → Mem → Option (Int32 × Mem)
  | 0, _, _, _, _ => none
  | n + 1, xv1, xv2, xv3, M => if (3 : Int32) ≤ xv3 then (bd (f_X6_attemptOf F xv1 M) (fun r3 M4 => bd (f_X6_note F r3.toInt64 M4) (fun r5 M6 => some (xv2, M6)))) else (bd (f_X6_truthsOf F xv1 xv3 M) (fun r7 M8 => bd (f_X6_note F r7.toInt64 M8) (fun r9 M10 => nm (xv3 + (1 : Int32)) (fun x11 => LX6_noteVictim_59 F n xv1 xv2 x11 M10))))
theorem LX6_noteVictim_59_s (F : Nat)  (n : Nat) (xv1 : Int32) (xv2 : Int32) (xv3 : Int32) (M : Mem) : LX6_noteVictim_59 F (n + 1) xv1 xv2 xv3 M = (if (3 : Int32) ≤ xv3 then (bd (f_X6_attemptOf F xv1 M) (fun r3 M4 => bd (f_X6_note F r3.toInt64 M4) (fun r5 M6 => some (xv2, M6)))) else (bd (f_X6_truthsOf F xv1 xv3 M) (fun r7 M8 => bd (f_X6_note F r7.toInt64 M8) (fun r9 M10 => nm (xv3 + (1 : Int32)) (fun x11 => LX6_noteVictim_59 F n xv1 xv2 x11 M10))))) := rfl
set_option maxRecDepth 100000 in
set_option maxHeartbeats 4000000 in
theorem lX6_noteVictim_59 {G : KyG} {cy : ClassId} (hG : IsR G cy) {E : KyE} (C : Cx G E cX6_noteVictim 4 RX6 (wY yX6_noteVictim cX6_noteVictim 4 (some .int)) (some .int) rmX6_noteVictim) (F : Nat)   : ∀ (n : Nat) (xv1 : Int32) (xv2 : Int32) (xv3 : Int32) (M : Mem) , Wo G E 4 rI (LX6_noteVictim_59 F n xv1 xv2 xv3 M) M 59 [(0, .ref (gA G 0)), (1, .int xv1), (2, .int xv2), (3, .int xv3)] [] := by
  intro n
  induction n with
  | zero => intro xv1 xv2 xv3 M ; exact ky_none
  | succ n ih =>
    intro xv1 xv2 xv3 M 
    rw [LX6_noteVictim_59_s]
    refine ky_iload_n C dX6_noteVictim_59 3 rfl ?_
    refine ky_iconst C (3 : Int32) dX6_noteVictim_60 (by decide) ?_
    refine ky_icmp_ge C 81 dX6_noteVictim_61 (by decide) ?_ ?_
    · refine ky_aload_n C dX6_noteVictim_81 0 rfl ?_
      refine ky_aload_n C dX6_noteVictim_82 0 rfl ?_
      refine ky_iload_n C dX6_noteVictim_83 1 rfl ?_
      refine ky_callVi C (c_X6_attemptOf hG F xv1 M ) (ltR hG) (ceR hG) rfl (wY_goodV tw_4_81 tw_4_83 tw_p28 tw_1_7 tw_4_84) hd_X6_attemptOf ⟨rfl, rfl, by decide, by decide⟩ rfl rfl (Nat.le_of_ble_eq_true rfl) dX6_noteVictim_84 (fun r3 M4 => ?_)
      refine ky_i2l C dX6_noteVictim_87 ?_
      refine ky_callVv C (c_X6_note hG F r3.toInt64 M4 ) (ltR hG) (ceR hG) rfl (wY_goodV tw_4_135 tw_4_137 tw_p35 tw_1_7 tw_4_138) hd_X6_note ⟨rfl, rfl, by decide, by decide⟩ rfl rfl (Nat.le_of_ble_eq_true rfl) dX6_noteVictim_88 (fun r5 M6 => ?_)
      refine ky_iload_n C dX6_noteVictim_91 2 rfl ?_
      exact ky_iret C dX6_noteVictim_92
    · refine ky_aload_n C dX6_noteVictim_64 0 rfl ?_
      refine ky_aload_n C dX6_noteVictim_65 0 rfl ?_
      refine ky_iload_n C dX6_noteVictim_66 1 rfl ?_
      refine ky_iload_n C dX6_noteVictim_67 3 rfl ?_
      refine ky_callVi C (c_X6_truthsOf hG F xv1 xv3 M ) (ltR hG) (ceR hG) rfl (wY_goodV tw_4_69 tw_4_71 tw_p26 tw_1_7 tw_4_72) hd_X6_truthsOf ⟨rfl, rfl, by decide, by decide⟩ rfl rfl (Nat.le_of_ble_eq_true rfl) dX6_noteVictim_68 (fun r7 M8 => ?_)
      refine ky_i2l C dX6_noteVictim_71 ?_
      refine ky_callVv C (c_X6_note hG F r7.toInt64 M8 ) (ltR hG) (ceR hG) rfl (wY_goodV tw_4_135 tw_4_137 tw_p35 tw_1_7 tw_4_138) hd_X6_note ⟨rfl, rfl, by decide, by decide⟩ rfl rfl (Nat.le_of_ble_eq_true rfl) dX6_noteVictim_72 (fun r9 M10 => ?_)
      refine ky_iinc (lv' := fun x11 => [(3, .int x11), (0, .ref (gA G 0)), (1, .int xv1), (2, .int xv2)]) C dX6_noteVictim_75 3 rfl (d1 := (1 : Int32)) rfl (by decide) (fun _ => rfl) (fun x11 => ?_)
      refine ky_goto C 59 dX6_noteVictim_78 (by decide) ?_
      exact ky_sub [1, 2, 3, 0] rfl (ih xv1 xv2 x11 M10 )
def LX6_noteVictim_32 (F : Nat)  : Nat → Int32 → Int32 → Int32 → Mem → Option (Int32 × Mem)
  | 0, _, _, _, _ => none
  | n + 1, xv1, xv2, xv3, M => if (6 : Int32) ≤ xv3 then (LX6_noteVictim_59 F  F xv1 xv2 (0 : Int32) M) else (gi xv3 6 (bd (f_X6_note F (((M.1 6 xv3.toNatClampNeg) - (1 : Int32)).toInt64) M) (fun r13 M14 => nm (xv3 + (1 : Int32)) (fun x15 => LX6_noteVictim_32 F n xv1 xv2 x15 M14))))
theorem LX6_noteVictim_32_s (F : Nat)  (n : Nat) (xv1 : Int32) (xv2 : Int32) (xv3 : Int32) (M : Mem) : LX6_noteVictim_32 F (n + 1) xv1 xv2 xv3 M = (if (6 : Int32) ≤ xv3 then (LX6_noteVictim_59 F  F xv1 xv2 (0 : Int32) M) else (gi xv3 6 (bd (f_X6_note F (((M.1 6 xv3.toNatClampNeg) - (1 : Int32)).toInt64) M) (fun r13 M14 => nm (xv3 + (1 : Int32)) (fun x15 => LX6_noteVictim_32 F n xv1 xv2 x15 M14))))) := rfl
set_option maxRecDepth 100000 in
set_option maxHeartbeats 4000000 in
theorem lX6_noteVictim_32 {G : KyG} {cy : ClassId} (hG : IsR G cy) {E : KyE} (C : Cx G E cX6_noteVictim 4 RX6 (wY yX6_noteVictim cX6_noteVictim 4 (some .int)) (some .int) rmX6_noteVictim) (F : Nat)   : ∀ (n : Nat) (xv1 : Int32) (xv2 : Int32) (xv3 : Int32) (M : Mem) , Wo G E 4 rI (LX6_noteVictim_32 F n xv1 xv2 xv3 M) M 32 [(0, .ref (gA G 0)), (1, .int xv1), (2, .int xv2), (3, .int xv3)] [] := by
  intro n
  induction n with
  | zero => intro xv1 xv2 xv3 M ; exact ky_none
  | succ n ih =>
    intro xv1 xv2 xv3 M 
    rw [LX6_noteVictim_32_s]
    refine ky_iload_n C dX6_noteVictim_32 3 rfl ?_
    refine ky_bipush C (6 : Int32) dX6_noteVictim_33 (by decide) ?_
    refine ky_icmp_ge C 57 dX6_noteVictim_35 (by decide) ?_ ?_
    · refine ky_iconst C (0 : Int32) dX6_noteVictim_57 (by decide) ?_
      refine ky_istore_n (lv' := [(3, .int (0 : Int32)), (0, .ref (gA G 0)), (1, .int xv1), (2, .int xv2)]) C dX6_noteVictim_58 (by decide) rfl ?_
      exact ky_sub [1, 2, 3, 0] rfl (lX6_noteVictim_59 hG C F   F xv1 xv2 (0 : Int32) M )
    · refine ky_aload_n C dX6_noteVictim_38 0 rfl ?_
      refine ky_aload_n C dX6_noteVictim_39 0 rfl ?_
      refine ky_get C (ltR hG) (ceR hG) rfl inWX6 11 (by decide) (wY_in tw_3_81) rfl rfl dX6_noteVictim_40 ?_
      refine ky_iload_n C dX6_noteVictim_43 3 rfl ?_
      refine ky_iald C (ltA hG ar6) (ceA6 hG) (tR0 hG) dX6_noteVictim_44 (fun hx12 => ?_)
      refine ky_iconst C (1 : Int32) dX6_noteVictim_45 (by decide) ?_
      refine ky_isub C dX6_noteVictim_46 ?_
      refine ky_i2l C dX6_noteVictim_47 ?_
      refine ky_callVv C (c_X6_note hG F (((M.1 6 xv3.toNatClampNeg) - (1 : Int32)).toInt64) M ) (ltR hG) (ceR hG) rfl (wY_goodV tw_4_135 tw_4_137 tw_p35 tw_1_7 tw_4_138) hd_X6_note ⟨rfl, rfl, by decide, by decide⟩ rfl rfl (Nat.le_of_ble_eq_true rfl) dX6_noteVictim_48 (fun r13 M14 => ?_)
      refine ky_iinc (lv' := fun x15 => [(3, .int x15), (0, .ref (gA G 0)), (1, .int xv1), (2, .int xv2)]) C dX6_noteVictim_51 3 rfl (d1 := (1 : Int32)) rfl (by decide) (fun _ => rfl) (fun x15 => ?_)
      refine ky_goto C 32 dX6_noteVictim_54 (by decide) ?_
      exact ky_sub [1, 2, 3, 0] rfl (ih xv1 xv2 x15 M14 )
def LX6_noteVictim_2 (F : Nat)  : Nat → Int32 → Int32 → Mem → Option (Int32 × Mem)
  | 0, _, _, _ => none
  | n + 1, xv1, xv2, M => if (4 : Int32) ≤ xv2 then (bd (f_X6_layMost F xv1 M) (fun r1 M2 => LX6_noteVictim_32 F  F xv1 r1 (0 : Int32) M2)) else (bd (f_X6_tellVictim F xv1 xv2 M) (fun r16 M17 => bd (f_X6_note F r16.toInt64 M17) (fun r18 M19 => nm (xv2 + (1 : Int32)) (fun x20 => LX6_noteVictim_2 F n xv1 x20 M19))))
theorem LX6_noteVictim_2_s (F : Nat)  (n : Nat) (xv1 : Int32) (xv2 : Int32) (M : Mem) : LX6_noteVictim_2 F (n + 1) xv1 xv2 M = (if (4 : Int32) ≤ xv2 then (bd (f_X6_layMost F xv1 M) (fun r1 M2 => LX6_noteVictim_32 F  F xv1 r1 (0 : Int32) M2)) else (bd (f_X6_tellVictim F xv1 xv2 M) (fun r16 M17 => bd (f_X6_note F r16.toInt64 M17) (fun r18 M19 => nm (xv2 + (1 : Int32)) (fun x20 => LX6_noteVictim_2 F n xv1 x20 M19))))) := rfl
set_option maxRecDepth 100000 in
set_option maxHeartbeats 4000000 in
theorem lX6_noteVictim_2 {G : KyG} {cy : ClassId} (hG : IsR G cy) {E : KyE} (C : Cx G E cX6_noteVictim 4 RX6 (wY yX6_noteVictim cX6_noteVictim 4 (some .int)) (some .int) rmX6_noteVictim) (F : Nat)   : ∀ (n : Nat) (xv1 : Int32) (xv2 : Int32) (M : Mem) , Wo G E 4 rI (LX6_noteVictim_2 F n xv1 xv2 M) M 2 [(0, .ref (gA G 0)), (1, .int xv1), (2, .int xv2)] [] := by
  intro n
  induction n with
  | zero => intro xv1 xv2 M ; exact ky_none
  | succ n ih =>
    intro xv1 xv2 M 
    rw [LX6_noteVictim_2_s]
    refine ky_iload_n C dX6_noteVictim_2 2 rfl ?_
    refine ky_iconst C (4 : Int32) dX6_noteVictim_3 (by decide) ?_
    refine ky_icmp_ge C 24 dX6_noteVictim_4 (by decide) ?_ ?_
    · refine ky_aload_n C dX6_noteVictim_24 0 rfl ?_
      refine ky_iload_n C dX6_noteVictim_25 1 rfl ?_
      refine ky_callVi C (c_X6_layMost hG F xv1 M ) (ltR hG) (ceR hG) rfl (wY_goodV tw_4_38 tw_4_40 tw_p23 tw_1_7 tw_4_41) hd_X6_layMost ⟨rfl, rfl, by decide, by decide⟩ rfl rfl (Nat.le_of_ble_eq_true rfl) dX6_noteVictim_26 (fun r1 M2 => ?_)
      refine ky_istore_n (lv' := [(2, .int r1), (0, .ref (gA G 0)), (1, .int xv1)]) C dX6_noteVictim_29 (by decide) rfl ?_
      refine ky_iconst C (0 : Int32) dX6_noteVictim_30 (by decide) ?_
      refine ky_istore_n (lv' := [(3, .int (0 : Int32)), (2, .int r1), (0, .ref (gA G 0)), (1, .int xv1)]) C dX6_noteVictim_31 (by decide) rfl ?_
      exact ky_sub [2, 3, 1, 0] rfl (lX6_noteVictim_32 hG C F   F xv1 r1 (0 : Int32) M2 )
    · refine ky_aload_n C dX6_noteVictim_7 0 rfl ?_
      refine ky_aload_n C dX6_noteVictim_8 0 rfl ?_
      refine ky_iload_n C dX6_noteVictim_9 1 rfl ?_
      refine ky_iload_n C dX6_noteVictim_10 2 rfl ?_
      refine ky_callVi C (c_X6_tellVictim hG F xv1 xv2 M ) (ltR hG) (ceR hG) rfl (wY_goodV tw_3_197 tw_3_199 tw_p12 tw_1_7 tw_3_200) hd_X6_tellVictim ⟨rfl, rfl, by decide, by decide⟩ rfl rfl (Nat.le_of_ble_eq_true rfl) dX6_noteVictim_11 (fun r16 M17 => ?_)
      refine ky_i2l C dX6_noteVictim_14 ?_
      refine ky_callVv C (c_X6_note hG F r16.toInt64 M17 ) (ltR hG) (ceR hG) rfl (wY_goodV tw_4_135 tw_4_137 tw_p35 tw_1_7 tw_4_138) hd_X6_note ⟨rfl, rfl, by decide, by decide⟩ rfl rfl (Nat.le_of_ble_eq_true rfl) dX6_noteVictim_15 (fun r18 M19 => ?_)
      refine ky_iinc (lv' := fun x20 => [(2, .int x20), (0, .ref (gA G 0)), (1, .int xv1)]) C dX6_noteVictim_18 2 rfl (d1 := (1 : Int32)) rfl (by decide) (fun _ => rfl) (fun x20 => ?_)
      refine ky_goto C 2 dX6_noteVictim_21 (by decide) ?_
      exact ky_sub [1, 2, 0] rfl (ih xv1 x20 M19 )
def f_X6_noteVictim (F : Nat) (a1 : Int32) (M : Mem) : Option (Int32 × Mem) := LX6_noteVictim_2 F  F a1 (0 : Int32) M
set_option maxRecDepth 100000 in
set_option maxHeartbeats 4000000 in
theorem c_X6_noteVictim {G : KyG} {cy : ClassId} (hG : IsR G cy) (F : Nat)  (a1 : Int32) (M : Mem)  : Ct G yX6_noteVictim (wY yX6_noteVictim cX6_noteVictim 4 (some .int)) rmX6_noteVictim rI [.ref (gA G 0), .int a1] (f_X6_noteVictim F a1 M) M := by
  refine Ct_of cX6_noteVictim 4 (some .int) RX6 hG.2.2.2 (by decide) rfl rfl (Nat.le_of_ble_eq_true rfl) rfl (fun E C => ?_)
  unfold f_X6_noteVictim
  refine ky_iconst C (0 : Int32) dX6_noteVictim_0 (by decide) ?_
  refine ky_istore_n (lv' := [(2, .int (0 : Int32)), (0, .ref (gA G 0)), (1, .int a1)]) C dX6_noteVictim_1 (by decide) rfl ?_
  exact ky_sub [1, 2, 0] rfl (lX6_noteVictim_2 hG C F   F a1 (0 : Int32) M )
def rmX6_digest : Room := { frames := 4, cells := 0, slots := 0, locals := 96 }
theorem hd_X6_digest : yX6_digest.cls = RX6 ∧ yX6_digest.cls ≠ "java/lang/invoke/MethodHandle" ∧ yX6_digest.cls ≠ "java/lang/invoke/VarHandle" ∧ (parseMethodDescriptor yX6_digest.desc).map (fun d => d.parameters.length) = some 0 := ⟨rfl, by decide, by decide, by decide +kernel⟩
def LX6_digest_137 (F : Nat)  : Nat → Int32 → Mem → Option (Int64 × Mem)
  | 0, _, _ => none
  | n + 1, xv2, M => if (10 : Int32) ≤ xv2 then (some (M.2, M)) else (bd (f_X6_countOf F xv2 M) (fun r2 M3 => bd (f_X6_note F r2.toInt64 M3) (fun r4 M5 => nm (xv2 + (1 : Int32)) (fun x6 => LX6_digest_137 F n x6 M5))))
theorem LX6_digest_137_s (F : Nat)  (n : Nat) (xv2 : Int32) (M : Mem) : LX6_digest_137 F (n + 1) xv2 M = (if (10 : Int32) ≤ xv2 then (some (M.2, M)) else (bd (f_X6_countOf F xv2 M) (fun r2 M3 => bd (f_X6_note F r2.toInt64 M3) (fun r4 M5 => nm (xv2 + (1 : Int32)) (fun x6 => LX6_digest_137 F n x6 M5))))) := rfl
set_option maxRecDepth 100000 in
set_option maxHeartbeats 4000000 in
theorem lX6_digest_137 {G : KyG} {cy : ClassId} (hG : IsR G cy) {E : KyE} (C : Cx G E cX6_digest 4 RX6 (wY yX6_digest cX6_digest 4 (some .long)) (some .long) rmX6_digest) (F : Nat)   : ∀ (n : Nat) (xv2 : Int32) (M : Mem) , Wo G E 4 rL (LX6_digest_137 F n xv2 M) M 137 [(0, .ref (gA G 0)), (2, .int xv2)] [] := by
  intro n
  induction n with
  | zero => intro xv2 M ; exact ky_none
  | succ n ih =>
    intro xv2 M 
    rw [LX6_digest_137_s]
    refine ky_iload_n C dX6_digest_137 1 rfl ?_
    refine ky_bipush C (10 : Int32) dX6_digest_138 (by decide) ?_
    refine ky_icmp_ge C 159 dX6_digest_140 (by decide) ?_ ?_
    · refine ky_aload_n C dX6_digest_159 0 rfl ?_
      refine ky_get C (ltR hG) (ceR hG) rfl inWX6 26 (by decide) (wY_in tw_3_96) rfl rfl dX6_digest_160 ?_
      exact ky_lret C dX6_digest_163
    · refine ky_aload_n C dX6_digest_143 0 rfl ?_
      refine ky_aload_n C dX6_digest_144 0 rfl ?_
      refine ky_iload_n C dX6_digest_145 1 rfl ?_
      refine ky_callVi C (c_X6_countOf hG F xv2 M ) (ltR hG) (ceR hG) rfl (wY_goodV tw_4_118 tw_4_120 tw_p32 tw_1_7 tw_4_121) hd_X6_countOf ⟨rfl, rfl, by decide, by decide⟩ rfl rfl (Nat.le_of_ble_eq_true rfl) dX6_digest_146 (fun r2 M3 => ?_)
      refine ky_i2l C dX6_digest_149 ?_
      refine ky_callVv C (c_X6_note hG F r2.toInt64 M3 ) (ltR hG) (ceR hG) rfl (wY_goodV tw_4_135 tw_4_137 tw_p35 tw_1_7 tw_4_138) hd_X6_note ⟨rfl, rfl, by decide, by decide⟩ rfl rfl (Nat.le_of_ble_eq_true rfl) dX6_digest_150 (fun r4 M5 => ?_)
      refine ky_iinc (lv' := fun x6 => [(2, .int x6), (0, .ref (gA G 0))]) C dX6_digest_153 1 rfl (d1 := (1 : Int32)) rfl (by decide) (fun _ => rfl) (fun x6 => ?_)
      refine ky_goto C 137 dX6_digest_156 (by decide) ?_
      exact ky_sub [1, 0] rfl (ih x6 M5 )
def LX6_digest_110 (F : Nat)  : Nat → Int32 → Mem → Option (Int64 × Mem)
  | 0, _, _ => none
  | n + 1, xv2, M => if (M.1 0 1) ≤ xv2 then (LX6_digest_137 F  F (0 : Int32) M) else (gi xv2 12 (bd (f_X6_note F ((M.1 1 xv2.toNatClampNeg).toInt64) M) (fun r8 M9 => nm (xv2 + (1 : Int32)) (fun x10 => LX6_digest_110 F n x10 M9))))
theorem LX6_digest_110_s (F : Nat)  (n : Nat) (xv2 : Int32) (M : Mem) : LX6_digest_110 F (n + 1) xv2 M = (if (M.1 0 1) ≤ xv2 then (LX6_digest_137 F  F (0 : Int32) M) else (gi xv2 12 (bd (f_X6_note F ((M.1 1 xv2.toNatClampNeg).toInt64) M) (fun r8 M9 => nm (xv2 + (1 : Int32)) (fun x10 => LX6_digest_110 F n x10 M9))))) := rfl
set_option maxRecDepth 100000 in
set_option maxHeartbeats 4000000 in
theorem lX6_digest_110 {G : KyG} {cy : ClassId} (hG : IsR G cy) {E : KyE} (C : Cx G E cX6_digest 4 RX6 (wY yX6_digest cX6_digest 4 (some .long)) (some .long) rmX6_digest) (F : Nat)   : ∀ (n : Nat) (xv2 : Int32) (M : Mem) , Wo G E 4 rL (LX6_digest_110 F n xv2 M) M 110 [(0, .ref (gA G 0)), (2, .int xv2)] [] := by
  intro n
  induction n with
  | zero => intro xv2 M ; exact ky_none
  | succ n ih =>
    intro xv2 M 
    rw [LX6_digest_110_s]
    refine ky_iload_n C dX6_digest_110 1 rfl ?_
    refine ky_aload_n C dX6_digest_111 0 rfl ?_
    refine ky_get C (ltR hG) (ceR hG) rfl inWX6 1 (by decide) (wY_in tw_3_71) rfl rfl dX6_digest_112 ?_
    refine ky_icmp_ge C 135 dX6_digest_115 (by decide) ?_ ?_
    · refine ky_iconst C (0 : Int32) dX6_digest_135 (by decide) ?_
      refine ky_istore_n (lv' := [(2, .int (0 : Int32)), (0, .ref (gA G 0))]) C dX6_digest_136 (by decide) rfl ?_
      exact ky_sub [1, 0] rfl (lX6_digest_137 hG C F   F (0 : Int32) M )
    · refine ky_aload_n C dX6_digest_118 0 rfl ?_
      refine ky_aload_n C dX6_digest_119 0 rfl ?_
      refine ky_get C (ltR hG) (ceR hG) rfl inWX6 0 (by decide) (wY_in tw_3_70) rfl rfl dX6_digest_120 ?_
      refine ky_iload_n C dX6_digest_123 1 rfl ?_
      refine ky_iald C (ltA hG ar1) (ceA1 hG) (tR0 hG) dX6_digest_124 (fun hx7 => ?_)
      refine ky_i2l C dX6_digest_125 ?_
      refine ky_callVv C (c_X6_note hG F ((M.1 1 xv2.toNatClampNeg).toInt64) M ) (ltR hG) (ceR hG) rfl (wY_goodV tw_4_135 tw_4_137 tw_p35 tw_1_7 tw_4_138) hd_X6_note ⟨rfl, rfl, by decide, by decide⟩ rfl rfl (Nat.le_of_ble_eq_true rfl) dX6_digest_126 (fun r8 M9 => ?_)
      refine ky_iinc (lv' := fun x10 => [(2, .int x10), (0, .ref (gA G 0))]) C dX6_digest_129 1 rfl (d1 := (1 : Int32)) rfl (by decide) (fun _ => rfl) (fun x10 => ?_)
      refine ky_goto C 110 dX6_digest_132 (by decide) ?_
      exact ky_sub [1, 0] rfl (ih x10 M9 )
def LX6_digest_79 (F : Nat) (q102 : Int32 → Mem → Option (Int64 × Mem)) : Nat → Int32 → Int32 → Mem → Option (Int64 × Mem)
  | 0, _, _, _ => none
  | n + 1, xv2, xv3, M => if (9 : Int32) ≤ xv3 then (q102 xv2 M) else (bd (f_X6_tell F xv2 xv3 M) (fun r11 M12 => bd (f_X6_note F r11.toInt64 M12) (fun r13 M14 => nm (xv3 + (1 : Int32)) (fun x15 => LX6_digest_79 F q102 n xv2 x15 M14))))
theorem LX6_digest_79_s (F : Nat) (q102 : Int32 → Mem → Option (Int64 × Mem)) (n : Nat) (xv2 : Int32) (xv3 : Int32) (M : Mem) : LX6_digest_79 F q102 (n + 1) xv2 xv3 M = (if (9 : Int32) ≤ xv3 then (q102 xv2 M) else (bd (f_X6_tell F xv2 xv3 M) (fun r11 M12 => bd (f_X6_note F r11.toInt64 M12) (fun r13 M14 => nm (xv3 + (1 : Int32)) (fun x15 => LX6_digest_79 F q102 n xv2 x15 M14))))) := rfl
set_option maxRecDepth 100000 in
set_option maxHeartbeats 4000000 in
theorem lX6_digest_79 {G : KyG} {cy : ClassId} (hG : IsR G cy) {E : KyE} (C : Cx G E cX6_digest 4 RX6 (wY yX6_digest cX6_digest 4 (some .long)) (some .long) rmX6_digest) (F : Nat) (q102 : Int32 → Mem → Option (Int64 × Mem)) (hq102 : ∀ (xv2 : Int32) (M : Mem) , Wo G E 4 rL (q102 xv2 M) M 102 [(0, .ref (gA G 0)), (2, .int xv2)] []) : ∀ (n : Nat) (xv2 : Int32) (xv3 : Int32) (M : Mem) , Wo G E 4 rL (LX6_digest_79 F q102 n xv2 xv3 M) M 79 [(0, .ref (gA G 0)), (2, .int xv2), (3, .int xv3)] [] := by
  intro n
  induction n with
  | zero => intro xv2 xv3 M ; exact ky_none
  | succ n ih =>
    intro xv2 xv3 M 
    rw [LX6_digest_79_s]
    refine ky_iload_n C dX6_digest_79 2 rfl ?_
    refine ky_bipush C (9 : Int32) dX6_digest_80 (by decide) ?_
    refine ky_icmp_ge C 102 dX6_digest_82 (by decide) ?_ ?_
    · exact ky_sub [0, 1] rfl (hq102 xv2 M )
    · refine ky_aload_n C dX6_digest_85 0 rfl ?_
      refine ky_aload_n C dX6_digest_86 0 rfl ?_
      refine ky_iload_n C dX6_digest_87 1 rfl ?_
      refine ky_iload_n C dX6_digest_88 2 rfl ?_
      refine ky_callVi C (c_X6_tell hG F xv2 xv3 M ) (ltR hG) (ceR hG) rfl (wY_goodV tw_3_218 tw_3_220 tw_p14 tw_1_7 tw_3_221) hd_X6_tell ⟨rfl, rfl, by decide, by decide⟩ rfl rfl (Nat.le_of_ble_eq_true rfl) dX6_digest_89 (fun r11 M12 => ?_)
      refine ky_i2l C dX6_digest_92 ?_
      refine ky_callVv C (c_X6_note hG F r11.toInt64 M12 ) (ltR hG) (ceR hG) rfl (wY_goodV tw_4_135 tw_4_137 tw_p35 tw_1_7 tw_4_138) hd_X6_note ⟨rfl, rfl, by decide, by decide⟩ rfl rfl (Nat.le_of_ble_eq_true rfl) dX6_digest_93 (fun r13 M14 => ?_)
      refine ky_iinc (lv' := fun x15 => [(3, .int x15), (0, .ref (gA G 0)), (2, .int xv2)]) C dX6_digest_96 2 rfl (d1 := (1 : Int32)) rfl (by decide) (fun _ => rfl) (fun x15 => ?_)
      refine ky_goto C 79 dX6_digest_99 (by decide) ?_
      exact ky_sub [1, 2, 0] rfl (ih xv2 x15 M14 )
def LX6_digest_69 (F : Nat)  : Nat → Int32 → Mem → Option (Int64 × Mem)
  | 0, _, _ => none
  | n + 1, xv2, M => if (M.1 0 8) ≤ xv2 then (LX6_digest_110 F  F (0 : Int32) M) else (LX6_digest_79 F (fun y17 M16 => nm (y17 + (1 : Int32)) (fun x18 => LX6_digest_69 F n x18 M16)) F xv2 (0 : Int32) M)
theorem LX6_digest_69_s (F : Nat)  (n : Nat) (xv2 : Int32) (M : Mem) : LX6_digest_69 F (n + 1) xv2 M = (if (M.1 0 8) ≤ xv2 then (LX6_digest_110 F  F (0 : Int32) M) else (LX6_digest_79 F (fun y17 M16 => nm (y17 + (1 : Int32)) (fun x18 => LX6_digest_69 F n x18 M16)) F xv2 (0 : Int32) M)) := rfl
set_option maxRecDepth 100000 in
set_option maxHeartbeats 4000000 in
theorem lX6_digest_69 {G : KyG} {cy : ClassId} (hG : IsR G cy) {E : KyE} (C : Cx G E cX6_digest 4 RX6 (wY yX6_digest cX6_digest 4 (some .long)) (some .long) rmX6_digest) (F : Nat)   : ∀ (n : Nat) (xv2 : Int32) (M : Mem) , Wo G E 4 rL (LX6_digest_69 F n xv2 M) M 69 [(0, .ref (gA G 0)), (2, .int xv2)] [] := by
  intro n
  induction n with
  | zero => intro xv2 M ; exact ky_none
  | succ n ih =>
    intro xv2 M 
    rw [LX6_digest_69_s]
    refine ky_iload_n C dX6_digest_69 1 rfl ?_
    refine ky_aload_n C dX6_digest_70 0 rfl ?_
    refine ky_get C (ltR hG) (ceR hG) rfl inWX6 8 (by decide) (wY_in tw_3_78) rfl rfl dX6_digest_71 ?_
    refine ky_icmp_ge C 108 dX6_digest_74 (by decide) ?_ ?_
    · refine ky_iconst C (0 : Int32) dX6_digest_108 (by decide) ?_
      refine ky_istore_n (lv' := [(2, .int (0 : Int32)), (0, .ref (gA G 0))]) C dX6_digest_109 (by decide) rfl ?_
      exact ky_sub [1, 0] rfl (lX6_digest_110 hG C F   F (0 : Int32) M )
    · refine ky_iconst C (0 : Int32) dX6_digest_77 (by decide) ?_
      refine ky_istore_n (lv' := [(3, .int (0 : Int32)), (0, .ref (gA G 0)), (2, .int xv2)]) C dX6_digest_78 (by decide) rfl ?_
      refine ky_sub [1, 2, 0] rfl (lX6_digest_79 hG C F _ ?_ F xv2 (0 : Int32) M )
      · intro y17 M16 
        refine ky_iinc (lv' := fun x18 => [(2, .int x18), (0, .ref (gA G 0))]) C dX6_digest_102 1 rfl (d1 := (1 : Int32)) rfl (by decide) (fun _ => rfl) (fun x18 => ?_)
        refine ky_goto C 69 dX6_digest_105 (by decide) ?_
        exact ky_sub [1, 0] rfl (ih x18 M16 )
def JX6_digest_67 (F : Nat)  (M : Mem) : Option (Int64 × Mem) := LX6_digest_69 F  F (0 : Int32) M
set_option maxRecDepth 100000 in
set_option maxHeartbeats 4000000 in
theorem jX6_digest_67 {G : KyG} {cy : ClassId} (hG : IsR G cy) {E : KyE} (C : Cx G E cX6_digest 4 RX6 (wY yX6_digest cX6_digest 4 (some .long)) (some .long) rmX6_digest) (F : Nat)  (M : Mem)  : Wo G E 4 rL (JX6_digest_67 F  M) M 67 [(0, .ref (gA G 0))] [] := by
  unfold JX6_digest_67
  refine ky_iconst C (0 : Int32) dX6_digest_67 (by decide) ?_
  refine ky_istore_n (lv' := [(2, .int (0 : Int32)), (0, .ref (gA G 0))]) C dX6_digest_68 (by decide) rfl ?_
  exact ky_sub [1, 0] rfl (lX6_digest_69 hG C F   F (0 : Int32) M )
def JX6_digest_64 (F : Nat) (xs0 : Int64) (M : Mem) : Option (Int64 × Mem) := bd (f_X6_note F xs0 M) (fun r23 M24 => JX6_digest_67 F  M24)
set_option maxRecDepth 100000 in
set_option maxHeartbeats 4000000 in
theorem jX6_digest_64 {G : KyG} {cy : ClassId} (hG : IsR G cy) {E : KyE} (C : Cx G E cX6_digest 4 RX6 (wY yX6_digest cX6_digest 4 (some .long)) (some .long) rmX6_digest) (F : Nat) (xs0 : Int64) (M : Mem)  : Wo G E 4 rL (JX6_digest_64 F xs0 M) M 64 [(0, .ref (gA G 0))] [.long xs0, .ref (gA G 0)] := by
  unfold JX6_digest_64
  refine ky_callVv C (c_X6_note hG F xs0 M ) (ltR hG) (ceR hG) rfl (wY_goodV tw_4_135 tw_4_137 tw_p35 tw_1_7 tw_4_138) hd_X6_note ⟨rfl, rfl, by decide, by decide⟩ rfl rfl (Nat.le_of_ble_eq_true rfl) dX6_digest_64 (fun r23 M24 => ?_)
  exact ky_sub [0] rfl (jX6_digest_67 hG C F  M24 )
def JX6_digest_37 (F : Nat) (xv1 : Int32) (M : Mem) : Option (Int64 × Mem) := if (M.1 0 2) = 0 then (JX6_digest_67 F  M) else (bd (f_X6_note F xv1.toInt64 M) (fun r19 M20 => bd (f_X6_needsAll F M20) (fun r21 M22 => if xv1 = r21 then (JX6_digest_64 F (1 : Int64) M22) else (JX6_digest_64 F (0 : Int64) M22))))
set_option maxRecDepth 100000 in
set_option maxHeartbeats 4000000 in
theorem jX6_digest_37 {G : KyG} {cy : ClassId} (hG : IsR G cy) {E : KyE} (C : Cx G E cX6_digest 4 RX6 (wY yX6_digest cX6_digest 4 (some .long)) (some .long) rmX6_digest) (F : Nat) (xv1 : Int32) (M : Mem)  : Wo G E 4 rL (JX6_digest_37 F xv1 M) M 37 [(0, .ref (gA G 0)), (1, .int xv1)] [] := by
  unfold JX6_digest_37
  refine ky_aload_n C dX6_digest_37 0 rfl ?_
  refine ky_get C (ltR hG) (ceR hG) rfl inWX6 2 (by decide) (wY_in tw_3_72) rfl rfl dX6_digest_38 ?_
  refine ky_if_eq C 67 dX6_digest_41 (by decide) ?_ ?_
  · exact ky_sub [0] rfl (jX6_digest_67 hG C F  M )
  · refine ky_aload_n C dX6_digest_44 0 rfl ?_
    refine ky_iload_n C dX6_digest_45 1 rfl ?_
    refine ky_i2l C dX6_digest_46 ?_
    refine ky_callVv C (c_X6_note hG F xv1.toInt64 M ) (ltR hG) (ceR hG) rfl (wY_goodV tw_4_135 tw_4_137 tw_p35 tw_1_7 tw_4_138) hd_X6_note ⟨rfl, rfl, by decide, by decide⟩ rfl rfl (Nat.le_of_ble_eq_true rfl) dX6_digest_47 (fun r19 M20 => ?_)
    refine ky_aload_n C dX6_digest_50 0 rfl ?_
    refine ky_iload_n C dX6_digest_51 1 rfl ?_
    refine ky_aload_n C dX6_digest_52 0 rfl ?_
    refine ky_callVi C (c_X6_needsAll hG F M20 ) (ltR hG) (ceR hG) rfl (wY_goodV tw_4_49 tw_4_51 tw_p25 tw_1_7 tw_4_52) hd_X6_needsAll ⟨rfl, rfl, by decide, by decide⟩ rfl rfl (Nat.le_of_ble_eq_true rfl) dX6_digest_53 (fun r21 M22 => ?_)
    refine ky_icmp_ne C 63 dX6_digest_56 (by decide) ?_ ?_
    · refine ky_lconst C (1 : Int64) dX6_digest_59 (by decide) ?_
      refine ky_goto C 64 dX6_digest_60 (by decide) ?_
      exact ky_sub [0] rfl (jX6_digest_64 hG C F (1 : Int64) M22 )
    · refine ky_lconst C (0 : Int64) dX6_digest_63 (by decide) ?_
      exact ky_sub [0] rfl (jX6_digest_64 hG C F (0 : Int64) M22 )
def LX6_digest_11 (F : Nat)  : Nat → Int32 → Int32 → Mem → Option (Int64 × Mem)
  | 0, _, _, _ => none
  | n + 1, xv1, xv2, M => if (3 : Int32) ≤ xv2 then (JX6_digest_37 F xv1 M) else (if (M.1 0 2) = 0 then (JX6_digest_37 F xv1 M) else (bd (f_X6_noteVictim F xv2 M) (fun r25 M26 => nm (xv1 + r25) (fun x27 => nm (xv2 + (1 : Int32)) (fun x28 => LX6_digest_11 F n x27 x28 M26)))))
theorem LX6_digest_11_s (F : Nat)  (n : Nat) (xv1 : Int32) (xv2 : Int32) (M : Mem) : LX6_digest_11 F (n + 1) xv1 xv2 M = (if (3 : Int32) ≤ xv2 then (JX6_digest_37 F xv1 M) else (if (M.1 0 2) = 0 then (JX6_digest_37 F xv1 M) else (bd (f_X6_noteVictim F xv2 M) (fun r25 M26 => nm (xv1 + r25) (fun x27 => nm (xv2 + (1 : Int32)) (fun x28 => LX6_digest_11 F n x27 x28 M26)))))) := rfl
set_option maxRecDepth 100000 in
set_option maxHeartbeats 4000000 in
theorem lX6_digest_11 {G : KyG} {cy : ClassId} (hG : IsR G cy) {E : KyE} (C : Cx G E cX6_digest 4 RX6 (wY yX6_digest cX6_digest 4 (some .long)) (some .long) rmX6_digest) (F : Nat)   : ∀ (n : Nat) (xv1 : Int32) (xv2 : Int32) (M : Mem) , Wo G E 4 rL (LX6_digest_11 F n xv1 xv2 M) M 11 [(0, .ref (gA G 0)), (1, .int xv1), (2, .int xv2)] [] := by
  intro n
  induction n with
  | zero => intro xv1 xv2 M ; exact ky_none
  | succ n ih =>
    intro xv1 xv2 M 
    rw [LX6_digest_11_s]
    refine ky_iload_n C dX6_digest_11 2 rfl ?_
    refine ky_iconst C (3 : Int32) dX6_digest_12 (by decide) ?_
    refine ky_icmp_ge C 37 dX6_digest_13 (by decide) ?_ ?_
    · exact ky_sub [0, 1] rfl (jX6_digest_37 hG C F xv1 M )
    · refine ky_aload_n C dX6_digest_16 0 rfl ?_
      refine ky_get C (ltR hG) (ceR hG) rfl inWX6 2 (by decide) (wY_in tw_3_72) rfl rfl dX6_digest_17 ?_
      refine ky_if_eq C 37 dX6_digest_20 (by decide) ?_ ?_
      · exact ky_sub [0, 1] rfl (jX6_digest_37 hG C F xv1 M )
      · refine ky_iload_n C dX6_digest_23 1 rfl ?_
        refine ky_aload_n C dX6_digest_24 0 rfl ?_
        refine ky_iload_n C dX6_digest_25 2 rfl ?_
        refine ky_callVi C (c_X6_noteVictim hG F xv2 M ) (ltR hG) (ceR hG) rfl (wY_goodV tw_4_131 tw_4_133 tw_p34 tw_1_7 tw_4_134) hd_X6_noteVictim ⟨rfl, rfl, by decide, by decide⟩ rfl rfl (Nat.le_of_ble_eq_true rfl) dX6_digest_26 (fun r25 M26 => ?_)
        refine ky_iadd C dX6_digest_29 ?_
        refine ky_nmi (fun x27 => ?_)
        refine ky_istore_n (lv' := [(1, .int x27), (0, .ref (gA G 0)), (2, .int xv2)]) C dX6_digest_30 (by decide) rfl ?_
        refine ky_iinc (lv' := fun x28 => [(2, .int x28), (1, .int x27), (0, .ref (gA G 0))]) C dX6_digest_31 2 rfl (d1 := (1 : Int32)) rfl (by decide) (fun _ => rfl) (fun x28 => ?_)
        refine ky_goto C 11 dX6_digest_34 (by decide) ?_
        exact ky_sub [2, 1, 0] rfl (ih x27 x28 M26 )
def f_X6_digest (F : Nat)  (M : Mem) : Option (Int64 × Mem) := nm (uh M (883 : Int64)) (fun M1 => LX6_digest_11 F  F (0 : Int32) (0 : Int32) M1)
set_option maxRecDepth 100000 in
set_option maxHeartbeats 4000000 in
theorem c_X6_digest {G : KyG} {cy : ClassId} (hG : IsR G cy) (F : Nat)   (M : Mem)  : Ct G yX6_digest (wY yX6_digest cX6_digest 4 (some .long)) rmX6_digest rL [.ref (gA G 0)] (f_X6_digest F  M) M := by
  refine Ct_of cX6_digest 4 (some .long) RX6 hG.2.2.2 (by decide) rfl rfl (Nat.le_of_ble_eq_true rfl) rfl (fun E C => ?_)
  unfold f_X6_digest
  refine ky_aload_n C dX6_digest_0 0 rfl ?_
  refine ky_ldc2 C (883 : Int64) (wY_in tw_4_130) dX6_digest_1 ?_
  refine ky_putl C (ltR hG) (ceR hG) (othR hG) rfl inWX6 tyX6_ok nmX6 26 (by decide) (wY_in tw_3_96) ⟨rfl, rfl⟩ (tyX6_ok 26 (by decide)) (Nat.le_of_ble_eq_true rfl) rfl dX6_digest_4 (fun M1 => ?_)
  refine ky_iconst C (0 : Int32) dX6_digest_7 (by decide) ?_
  refine ky_istore_n (lv' := [(1, .int (0 : Int32)), (0, .ref (gA G 0))]) C dX6_digest_8 (by decide) rfl ?_
  refine ky_iconst C (0 : Int32) dX6_digest_9 (by decide) ?_
  refine ky_istore_n (lv' := [(2, .int (0 : Int32)), (1, .int (0 : Int32)), (0, .ref (gA G 0))]) C dX6_digest_10 (by decide) rfl ?_
  exact ky_sub [2, 1, 0] rfl (lX6_digest_11 hG C F   F (0 : Int32) (0 : Int32) M1 )
def rmX6_isGood : Room := { frames := 1, cells := 0, slots := 0, locals := 25 }
theorem hd_X6_isGood : yX6_isGood.cls ≠ "java/lang/invoke/MethodHandle" ∧ yX6_isGood.cls ≠ "java/lang/invoke/VarHandle" ∧ (parseMethodDescriptor yX6_isGood.desc).map (fun d => d.parameters.length) = some 2 := ⟨by decide, by decide, by decide +kernel⟩
def f_X6_isGood (F : Nat) (a0 : Int32) (a1 : Int32) (M : Mem) : Option (Int32 × Mem) := nm (a1 - (48 : Int32)) (fun x1 => if a0 ≤ (7 : Int32) then (if (a0 - a0 / (3 : Int32) * (3 : Int32)) = (2 : Int32) then (if a1 = (44 : Int32) then (some ((1 : Int32), M)) else (some ((0 : Int32), M))) else (bd (f_X6_in F x1.toInt64 (0 : Int64) (7 : Int64) M) (fun r2 M3 => gb r2 (some (r2, M3))))) else (if a0 = (8 : Int32) then (if a1 = (59 : Int32) then (some ((1 : Int32), M)) else (some ((0 : Int32), M))) else (if a0 = (9 : Int32) then (bd (f_X6_in F x1.toInt64 (0 : Int64) (9 : Int64) M) (fun r4 M5 => if r4 = 0 then (some ((0 : Int32), M5)) else (some ((1 : Int32), M5)))) else (some ((0 : Int32), M)))))
set_option maxRecDepth 100000 in
set_option maxHeartbeats 4000000 in
theorem c_X6_isGood {G : KyG} {cy : ClassId} (hG : IsR G cy) (F : Nat)  (a0 : Int32) (a1 : Int32) (M : Mem)  : Ct G yX6_isGood (wY yX6_isGood cX6_isGood 3 (some .boolean)) rmX6_isGood rI [.int a0, .int a1] (f_X6_isGood F a0 a1 M) M := by
  refine Ct_of cX6_isGood 3 (some .boolean) RX6 hG.2.2.2 (by decide) rfl rfl (Nat.le_of_ble_eq_true rfl) rfl (fun E C => ?_)
  unfold f_X6_isGood
  refine ky_iload_n C dX6_isGood_0 1 rfl ?_
  refine ky_bipush C (48 : Int32) dX6_isGood_1 (by decide) ?_
  refine ky_isub C dX6_isGood_3 ?_
  refine ky_nmi (fun x1 => ?_)
  refine ky_istore_n (lv' := [(2, .int x1), (0, .int a0), (1, .int a1)]) C dX6_isGood_4 (by decide) rfl ?_
  refine ky_iload_n C dX6_isGood_5 1 rfl ?_
  refine ky_bipush C (7 : Int32) dX6_isGood_6 (by decide) ?_
  refine ky_icmp_le C 55 dX6_isGood_8 (by decide) ?_ ?_
  · refine ky_iload_n C dX6_isGood_55 1 rfl ?_
    refine ky_iconst C (3 : Int32) dX6_isGood_56 (by decide) ?_
    refine ky_irem C dX6_isGood_57 (by decide) ?_
    refine ky_iconst C (2 : Int32) dX6_isGood_58 (by decide) ?_
    refine ky_icmp_ne C 76 dX6_isGood_59 (by decide) ?_ ?_
    · refine ky_iload_n C dX6_isGood_62 2 rfl ?_
      refine ky_bipush C (44 : Int32) dX6_isGood_63 (by decide) ?_
      refine ky_icmp_ne C 72 dX6_isGood_65 (by decide) ?_ ?_
      · refine ky_iconst C (1 : Int32) dX6_isGood_68 (by decide) ?_
        refine ky_goto C 85 dX6_isGood_69 (by decide) ?_
        exact ky_zret C (by decide) dX6_isGood_85
      · refine ky_iconst C (0 : Int32) dX6_isGood_72 (by decide) ?_
        refine ky_goto C 85 dX6_isGood_73 (by decide) ?_
        exact ky_zret C (by decide) dX6_isGood_85
    · refine ky_iload_n C dX6_isGood_76 0 rfl ?_
      refine ky_i2l C dX6_isGood_77 ?_
      refine ky_lconst C (0 : Int64) dX6_isGood_78 (by decide) ?_
      refine ky_ldc2 C (7 : Int64) (wY_in tw_3_176) dX6_isGood_79 ?_
      refine ky_callSi C (c_X6_in hG F x1.toInt64 (0 : Int64) (7 : Int64) M ) (wY_goodS tw_3_157 tw_3_158 tw_1_7 tw_3_159) hd_X6_in ⟨rfl, rfl, by decide, by decide⟩ rfl rfl (Nat.le_of_ble_eq_true rfl) dX6_isGood_82 (fun r2 M3 => ?_)
      exact ky_zretG C dX6_isGood_85
  · refine ky_iload_n C dX6_isGood_11 1 rfl ?_
    refine ky_bipush C (8 : Int32) dX6_isGood_12 (by decide) ?_
    refine ky_icmp_ne C 31 dX6_isGood_14 (by decide) ?_ ?_
    · refine ky_iload_n C dX6_isGood_17 2 rfl ?_
      refine ky_bipush C (59 : Int32) dX6_isGood_18 (by decide) ?_
      refine ky_icmp_ne C 27 dX6_isGood_20 (by decide) ?_ ?_
      · refine ky_iconst C (1 : Int32) dX6_isGood_23 (by decide) ?_
        refine ky_goto C 54 dX6_isGood_24 (by decide) ?_
        exact ky_zret C (by decide) dX6_isGood_54
      · refine ky_iconst C (0 : Int32) dX6_isGood_27 (by decide) ?_
        refine ky_goto C 54 dX6_isGood_28 (by decide) ?_
        exact ky_zret C (by decide) dX6_isGood_54
    · refine ky_iload_n C dX6_isGood_31 1 rfl ?_
      refine ky_bipush C (9 : Int32) dX6_isGood_32 (by decide) ?_
      refine ky_icmp_ne C 53 dX6_isGood_34 (by decide) ?_ ?_
      · refine ky_iload_n C dX6_isGood_37 0 rfl ?_
        refine ky_i2l C dX6_isGood_38 ?_
        refine ky_lconst C (0 : Int64) dX6_isGood_39 (by decide) ?_
        refine ky_ldc2 C (9 : Int64) (wY_in tw_3_175) dX6_isGood_40 ?_
        refine ky_callSi C (c_X6_in hG F x1.toInt64 (0 : Int64) (9 : Int64) M ) (wY_goodS tw_3_157 tw_3_158 tw_1_7 tw_3_159) hd_X6_in ⟨rfl, rfl, by decide, by decide⟩ rfl rfl (Nat.le_of_ble_eq_true rfl) dX6_isGood_43 (fun r4 M5 => ?_)
        refine ky_if_eq C 53 dX6_isGood_46 (by decide) ?_ ?_
        · refine ky_iconst C (0 : Int32) dX6_isGood_53 (by decide) ?_
          exact ky_zret C (by decide) dX6_isGood_54
        · refine ky_iconst C (1 : Int32) dX6_isGood_49 (by decide) ?_
          refine ky_goto C 54 dX6_isGood_50 (by decide) ?_
          exact ky_zret C (by decide) dX6_isGood_54
      · refine ky_iconst C (0 : Int32) dX6_isGood_53 (by decide) ?_
        exact ky_zret C (by decide) dX6_isGood_54
def rmX6_faultOf : Room := { frames := 2, cells := 0, slots := 0, locals := 47 }
theorem hd_X6_faultOf : yX6_faultOf.cls = RX6 ∧ yX6_faultOf.cls ≠ "java/lang/invoke/MethodHandle" ∧ yX6_faultOf.cls ≠ "java/lang/invoke/VarHandle" ∧ (parseMethodDescriptor yX6_faultOf.desc).map (fun d => d.parameters.length) = some 0 := ⟨rfl, by decide, by decide, by decide +kernel⟩
def LX6_faultOf_2 (F : Nat)  : Nat → Int32 → Mem → Option (Int32 × Mem)
  | 0, _, _ => none
  | n + 1, xv1, M => if (M.1 0 1) ≤ xv1 then (some (xv1, M)) else (gi xv1 12 (bd (f_X6_isGood F xv1 (M.1 1 xv1.toNatClampNeg) M) (fun r2 M3 => if r2 = 0 then (some (xv1, M3)) else (nm (xv1 + (1 : Int32)) (fun x4 => LX6_faultOf_2 F n x4 M3)))))
theorem LX6_faultOf_2_s (F : Nat)  (n : Nat) (xv1 : Int32) (M : Mem) : LX6_faultOf_2 F (n + 1) xv1 M = (if (M.1 0 1) ≤ xv1 then (some (xv1, M)) else (gi xv1 12 (bd (f_X6_isGood F xv1 (M.1 1 xv1.toNatClampNeg) M) (fun r2 M3 => if r2 = 0 then (some (xv1, M3)) else (nm (xv1 + (1 : Int32)) (fun x4 => LX6_faultOf_2 F n x4 M3)))))) := rfl
set_option maxRecDepth 100000 in
set_option maxHeartbeats 4000000 in
theorem lX6_faultOf_2 {G : KyG} {cy : ClassId} (hG : IsR G cy) {E : KyE} (C : Cx G E cX6_faultOf 2 RX6 (wY yX6_faultOf cX6_faultOf 2 (some .int)) (some .int) rmX6_faultOf) (F : Nat)   : ∀ (n : Nat) (xv1 : Int32) (M : Mem) , Wo G E 2 rI (LX6_faultOf_2 F n xv1 M) M 2 [(0, .ref (gA G 0)), (1, .int xv1)] [] := by
  intro n
  induction n with
  | zero => intro xv1 M ; exact ky_none
  | succ n ih =>
    intro xv1 M 
    rw [LX6_faultOf_2_s]
    refine ky_iload_n C dX6_faultOf_2 1 rfl ?_
    refine ky_aload_n C dX6_faultOf_3 0 rfl ?_
    refine ky_get C (ltR hG) (ceR hG) rfl inWX6 1 (by decide) (wY_in tw_3_71) rfl rfl dX6_faultOf_4 ?_
    refine ky_icmp_ge C 29 dX6_faultOf_7 (by decide) ?_ ?_
    · refine ky_iload_n C dX6_faultOf_29 1 rfl ?_
      exact ky_iret C dX6_faultOf_30
    · refine ky_iload_n C dX6_faultOf_10 1 rfl ?_
      refine ky_aload_n C dX6_faultOf_11 0 rfl ?_
      refine ky_get C (ltR hG) (ceR hG) rfl inWX6 0 (by decide) (wY_in tw_3_70) rfl rfl dX6_faultOf_12 ?_
      refine ky_iload_n C dX6_faultOf_15 1 rfl ?_
      refine ky_iald C (ltA hG ar1) (ceA1 hG) (tR0 hG) dX6_faultOf_16 (fun hx1 => ?_)
      refine ky_callSi C (c_X6_isGood hG F xv1 (M.1 1 xv1.toNatClampNeg) M ) (wY_goodS tw_3_172 tw_3_173 tw_1_7 tw_3_174) hd_X6_isGood ⟨rfl, rfl, by decide, by decide⟩ rfl rfl (Nat.le_of_ble_eq_true rfl) dX6_faultOf_17 (fun r2 M3 => ?_)
      refine ky_if_eq C 29 dX6_faultOf_20 (by decide) ?_ ?_
      · refine ky_iload_n C dX6_faultOf_29 1 rfl ?_
        exact ky_iret C dX6_faultOf_30
      · refine ky_iinc (lv' := fun x4 => [(1, .int x4), (0, .ref (gA G 0))]) C dX6_faultOf_23 1 rfl (d1 := (1 : Int32)) rfl (by decide) (fun _ => rfl) (fun x4 => ?_)
        refine ky_goto C 2 dX6_faultOf_26 (by decide) ?_
        exact ky_sub [1, 0] rfl (ih x4 M3 )
def f_X6_faultOf (F : Nat)  (M : Mem) : Option (Int32 × Mem) := LX6_faultOf_2 F  F (0 : Int32) M
set_option maxRecDepth 100000 in
set_option maxHeartbeats 4000000 in
theorem c_X6_faultOf {G : KyG} {cy : ClassId} (hG : IsR G cy) (F : Nat)   (M : Mem)  : Ct G yX6_faultOf (wY yX6_faultOf cX6_faultOf 2 (some .int)) rmX6_faultOf rI [.ref (gA G 0)] (f_X6_faultOf F  M) M := by
  refine Ct_of cX6_faultOf 2 (some .int) RX6 hG.2.2.2 (by decide) rfl rfl (Nat.le_of_ble_eq_true rfl) rfl (fun E C => ?_)
  unfold f_X6_faultOf
  refine ky_iconst C (0 : Int32) dX6_faultOf_0 (by decide) ?_
  refine ky_istore_n (lv' := [(1, .int (0 : Int32)), (0, .ref (gA G 0))]) C dX6_faultOf_1 (by decide) rfl ?_
  exact ky_sub [1, 0] rfl (lX6_faultOf_2 hG C F   F (0 : Int32) M )
def rmX6_fault : Room := { frames := 3, cells := 0, slots := 0, locals := 68 }
theorem hd_X6_fault : yX6_fault.cls = RX6 ∧ yX6_fault.cls ≠ "java/lang/invoke/MethodHandle" ∧ yX6_fault.cls ≠ "java/lang/invoke/VarHandle" ∧ (parseMethodDescriptor yX6_fault.desc).map (fun d => d.parameters.length) = some 0 := ⟨rfl, by decide, by decide, by decide +kernel⟩
def f_X6_fault (F : Nat)  (M : Mem) : Option (Int32 × Mem) := bd (f_X6_faultOf F M) (fun r1 M2 => some (r1, M2))
set_option maxRecDepth 100000 in
set_option maxHeartbeats 4000000 in
theorem c_X6_fault {G : KyG} {cy : ClassId} (hG : IsR G cy) (F : Nat)   (M : Mem)  : Ct G yX6_fault (wY yX6_fault cX6_fault 1 (some .int)) rmX6_fault rI [.ref (gA G 0)] (f_X6_fault F  M) M := by
  refine Ct_of cX6_fault 1 (some .int) RX6 hG.2.2.2 (by decide) rfl rfl (Nat.le_of_ble_eq_true rfl) rfl (fun E C => ?_)
  unfold f_X6_fault
  refine ky_aload_n C dX6_fault_0 0 rfl ?_
  refine ky_callVi C (c_X6_faultOf hG F M ) (ltR hG) (ceR hG) rfl (wY_goodV tw_3_168 tw_3_170 tw_p9 tw_1_7 tw_3_171) hd_X6_faultOf ⟨rfl, rfl, by decide, by decide⟩ rfl rfl (Nat.le_of_ble_eq_true rfl) dX6_fault_1 (fun r1 M2 => ?_)
  exact ky_iret C dX6_fault_4
def rmX6_forget : Room := { frames := 0, cells := 0, slots := 0, locals := 0 }
theorem hd_X6_forget : yX6_forget.cls = RX6 ∧ yX6_forget.cls ≠ "java/lang/invoke/MethodHandle" ∧ yX6_forget.cls ≠ "java/lang/invoke/VarHandle" ∧ (parseMethodDescriptor yX6_forget.desc).map (fun d => d.parameters.length) = some 0 := ⟨rfl, by decide, by decide, by decide +kernel⟩
def f_X6_forget (F : Nat)  (M : Mem) : Option (Int32 × Mem) := nm (M.1 0 13) (fun x1 => nm (u2 M 0 13 (0 : Int32)) (fun M2 => some (x1, M2)))
set_option maxRecDepth 100000 in
set_option maxHeartbeats 4000000 in
theorem c_X6_forget {G : KyG} {cy : ClassId} (hG : IsR G cy) (F : Nat)   (M : Mem)  : Ct G yX6_forget (wY yX6_forget cX6_forget 2 (some .int)) rmX6_forget rI [.ref (gA G 0)] (f_X6_forget F  M) M := by
  refine Ct_of cX6_forget 2 (some .int) RX6 hG.2.2.2 (by decide) rfl rfl (Nat.le_of_ble_eq_true rfl) rfl (fun E C => ?_)
  unfold f_X6_forget
  refine ky_aload_n C dX6_forget_0 0 rfl ?_
  refine ky_get C (ltR hG) (ceR hG) rfl inWX6 13 (by decide) (wY_in tw_3_83) rfl rfl dX6_forget_1 ?_
  refine ky_nmi (fun x1 => ?_)
  refine ky_istore_n (lv' := [(1, .int x1), (0, .ref (gA G 0))]) C dX6_forget_4 (by decide) rfl ?_
  refine ky_aload_n C dX6_forget_5 1 rfl ?_
  refine ky_iconst C (0 : Int32) dX6_forget_6 (by decide) ?_
  refine ky_put C (ltR hG) (ceR hG) rfl inWX6 tyX6_ok nmX6 13 (by decide) (wY_in tw_3_83) ⟨rfl, rfl⟩ (tyX6_ok 13 (by decide)) rfl rfl (Nat.le_of_ble_eq_true rfl) rfl dX6_forget_7 (fun M2 => ?_)
  refine ky_iload_n C dX6_forget_10 0 rfl ?_
  exact ky_iret C dX6_forget_11
def rmX6_image : Room := { frames := 1, cells := 0, slots := 0, locals := 22 }
theorem hd_X6_image : yX6_image.cls = RX6 ∧ yX6_image.cls ≠ "java/lang/invoke/MethodHandle" ∧ yX6_image.cls ≠ "java/lang/invoke/VarHandle" ∧ (parseMethodDescriptor yX6_image.desc).map (fun d => d.parameters.length) = some 0 := ⟨rfl, by decide, by decide, by decide +kernel⟩
def f_X6_image (F : Nat)  (M : Mem) : Option (Int32 × Mem) := if (M.1 0 2) = 0 then (some ((mI 103), M)) else (bd (f_X6_copy F 4 11 M) (fun r1 M2 => bd (f_X6_copy F 3 12 M2) (fun r3 M4 => bd (f_X6_copy F 8 13 M4) (fun r5 M6 => nm (M6.1 0 3) (fun x7 => nm (u2 M6 0 19 x7) (fun M8 => nm (M8.1 0 4) (fun x9 => nm (u2 M8 0 20 x9) (fun M10 => nm (M10.1 0 8) (fun x11 => nm (u2 M10 0 21 x11) (fun M12 => nm (M12.1 0 13) (fun x13 => nm (u2 M12 0 22 x13) (fun M14 => nm (M14.1 0 5) (fun x15 => nm (u2 M14 0 18 x15) (fun M16 => some (M16.1 0 4, M16)))))))))))))))
set_option maxRecDepth 100000 in
set_option maxHeartbeats 4000000 in
theorem c_X6_image {G : KyG} {cy : ClassId} (hG : IsR G cy) (F : Nat)   (M : Mem)  : Ct G yX6_image (wY yX6_image cX6_image 1 (some .int)) rmX6_image rI [.ref (gA G 0)] (f_X6_image F  M) M := by
  refine Ct_of cX6_image 1 (some .int) RX6 hG.2.2.2 (by decide) rfl rfl (Nat.le_of_ble_eq_true rfl) rfl (fun E C => ?_)
  unfold f_X6_image
  refine ky_aload_n C dX6_image_0 0 rfl ?_
  refine ky_get C (ltR hG) (ceR hG) rfl inWX6 2 (by decide) (wY_in tw_3_72) rfl rfl dX6_image_1 ?_
  refine ky_if_ne C 10 dX6_image_4 (by decide) ?_ ?_
  · refine ky_bipush C (mI 103) dX6_image_7 (by decide) ?_
    exact ky_iret C dX6_image_9
  · refine ky_aload_n C dX6_image_10 0 rfl ?_
    refine ky_get C (ltR hG) (ceR hG) rfl inWX6 9 (by decide) (wY_in tw_3_79) rfl rfl dX6_image_11 ?_
    refine ky_aload_n C dX6_image_14 0 rfl ?_
    refine ky_get C (ltR hG) (ceR hG) rfl inWX6 23 (by decide) (wY_in tw_3_93) rfl rfl dX6_image_15 ?_
    refine ky_callSv C (c_X6_copy hG F 4 11 M ar4 ar11) (wY_goodS tw_4_46 tw_4_47 tw_1_7 tw_4_48) hd_X6_copy ⟨rfl, rfl, by decide, by decide⟩ rfl rfl (Nat.le_of_ble_eq_true rfl) dX6_image_18 (fun r1 M2 => ?_)
    refine ky_aload_n C dX6_image_21 0 rfl ?_
    refine ky_get C (ltR hG) (ceR hG) rfl inWX6 7 (by decide) (wY_in tw_3_77) rfl rfl dX6_image_22 ?_
    refine ky_aload_n C dX6_image_25 0 rfl ?_
    refine ky_get C (ltR hG) (ceR hG) rfl inWX6 24 (by decide) (wY_in tw_3_94) rfl rfl dX6_image_26 ?_
    refine ky_callSv C (c_X6_copy hG F 3 12 M2 ar3 ar12) (wY_goodS tw_4_46 tw_4_47 tw_1_7 tw_4_48) hd_X6_copy ⟨rfl, rfl, by decide, by decide⟩ rfl rfl (Nat.le_of_ble_eq_true rfl) dX6_image_29 (fun r3 M4 => ?_)
    refine ky_aload_n C dX6_image_32 0 rfl ?_
    refine ky_get C (ltR hG) (ceR hG) rfl inWX6 14 (by decide) (wY_in tw_3_84) rfl rfl dX6_image_33 ?_
    refine ky_aload_n C dX6_image_36 0 rfl ?_
    refine ky_get C (ltR hG) (ceR hG) rfl inWX6 25 (by decide) (wY_in tw_3_95) rfl rfl dX6_image_37 ?_
    refine ky_callSv C (c_X6_copy hG F 8 13 M4 ar8 ar13) (wY_goodS tw_4_46 tw_4_47 tw_1_7 tw_4_48) hd_X6_copy ⟨rfl, rfl, by decide, by decide⟩ rfl rfl (Nat.le_of_ble_eq_true rfl) dX6_image_40 (fun r5 M6 => ?_)
    refine ky_aload_n C dX6_image_43 0 rfl ?_
    refine ky_aload_n C dX6_image_44 0 rfl ?_
    refine ky_get C (ltR hG) (ceR hG) rfl inWX6 3 (by decide) (wY_in tw_3_73) rfl rfl dX6_image_45 ?_
    refine ky_nmi (fun x7 => ?_)
    refine ky_put C (ltR hG) (ceR hG) rfl inWX6 tyX6_ok nmX6 19 (by decide) (wY_in tw_3_89) ⟨rfl, rfl⟩ (tyX6_ok 19 (by decide)) rfl rfl (Nat.le_of_ble_eq_true rfl) rfl dX6_image_48 (fun M8 => ?_)
    refine ky_aload_n C dX6_image_51 0 rfl ?_
    refine ky_aload_n C dX6_image_52 0 rfl ?_
    refine ky_get C (ltR hG) (ceR hG) rfl inWX6 4 (by decide) (wY_in tw_3_74) rfl rfl dX6_image_53 ?_
    refine ky_nmi (fun x9 => ?_)
    refine ky_put C (ltR hG) (ceR hG) rfl inWX6 tyX6_ok nmX6 20 (by decide) (wY_in tw_3_90) ⟨rfl, rfl⟩ (tyX6_ok 20 (by decide)) rfl rfl (Nat.le_of_ble_eq_true rfl) rfl dX6_image_56 (fun M10 => ?_)
    refine ky_aload_n C dX6_image_59 0 rfl ?_
    refine ky_aload_n C dX6_image_60 0 rfl ?_
    refine ky_get C (ltR hG) (ceR hG) rfl inWX6 8 (by decide) (wY_in tw_3_78) rfl rfl dX6_image_61 ?_
    refine ky_nmi (fun x11 => ?_)
    refine ky_put C (ltR hG) (ceR hG) rfl inWX6 tyX6_ok nmX6 21 (by decide) (wY_in tw_3_91) ⟨rfl, rfl⟩ (tyX6_ok 21 (by decide)) rfl rfl (Nat.le_of_ble_eq_true rfl) rfl dX6_image_64 (fun M12 => ?_)
    refine ky_aload_n C dX6_image_67 0 rfl ?_
    refine ky_aload_n C dX6_image_68 0 rfl ?_
    refine ky_get C (ltR hG) (ceR hG) rfl inWX6 13 (by decide) (wY_in tw_3_83) rfl rfl dX6_image_69 ?_
    refine ky_nmi (fun x13 => ?_)
    refine ky_put C (ltR hG) (ceR hG) rfl inWX6 tyX6_ok nmX6 22 (by decide) (wY_in tw_3_92) ⟨rfl, rfl⟩ (tyX6_ok 22 (by decide)) rfl rfl (Nat.le_of_ble_eq_true rfl) rfl dX6_image_72 (fun M14 => ?_)
    refine ky_aload_n C dX6_image_75 0 rfl ?_
    refine ky_aload_n C dX6_image_76 0 rfl ?_
    refine ky_get C (ltR hG) (ceR hG) rfl inWX6 5 (by decide) (wY_in tw_3_75) rfl rfl dX6_image_77 ?_
    refine ky_nmi (fun x15 => ?_)
    refine ky_put C (ltR hG) (ceR hG) rfl inWX6 tyX6_ok nmX6 18 (by decide) (wY_in tw_3_88) ⟨rfl, rfl⟩ (tyX6_ok 18 (by decide)) rfl rfl (Nat.le_of_ble_eq_true rfl) rfl dX6_image_80 (fun M16 => ?_)
    refine ky_aload_n C dX6_image_83 0 rfl ?_
    refine ky_get C (ltR hG) (ceR hG) rfl inWX6 4 (by decide) (wY_in tw_3_74) rfl rfl dX6_image_84 ?_
    exact ky_iret C dX6_image_87
def rmX6_isSaying : Room := { frames := 1, cells := 0, slots := 0, locals := 25 }
theorem hd_X6_isSaying : yX6_isSaying.cls ≠ "java/lang/invoke/MethodHandle" ∧ yX6_isSaying.cls ≠ "java/lang/invoke/VarHandle" ∧ (parseMethodDescriptor yX6_isSaying.desc).map (fun d => d.parameters.length) = some 1 := ⟨by decide, by decide, by decide +kernel⟩
def f_X6_isSaying (F : Nat) (a0 : Int32) (M : Mem) : Option (Int32 × Mem) := bd (f_X6_in F a0.toInt64 (0 : Int64) (5 : Int64) M) (fun r1 M2 => gb r1 (some (r1, M2)))
set_option maxRecDepth 100000 in
set_option maxHeartbeats 4000000 in
theorem c_X6_isSaying {G : KyG} {cy : ClassId} (hG : IsR G cy) (F : Nat)  (a0 : Int32) (M : Mem)  : Ct G yX6_isSaying (wY yX6_isSaying cX6_isSaying 1 (some .boolean)) rmX6_isSaying rI [.int a0] (f_X6_isSaying F a0 M) M := by
  refine Ct_of cX6_isSaying 1 (some .boolean) RX6 hG.2.2.2 (by decide) rfl rfl (Nat.le_of_ble_eq_true rfl) rfl (fun E C => ?_)
  unfold f_X6_isSaying
  refine ky_iload_n C dX6_isSaying_0 0 rfl ?_
  refine ky_i2l C dX6_isSaying_1 ?_
  refine ky_lconst C (0 : Int64) dX6_isSaying_2 (by decide) ?_
  refine ky_ldc2 C (5 : Int64) (wY_in tw_4_9) dX6_isSaying_3 ?_
  refine ky_callSi C (c_X6_in hG F a0.toInt64 (0 : Int64) (5 : Int64) M ) (wY_goodS tw_3_157 tw_3_158 tw_1_7 tw_3_159) hd_X6_in ⟨rfl, rfl, by decide, by decide⟩ rfl rfl (Nat.le_of_ble_eq_true rfl) dX6_isSaying_6 (fun r1 M2 => ?_)
  exact ky_zretG C dX6_isSaying_9
def rmX6_learn : Room := { frames := 2, cells := 0, slots := 0, locals := 46 }
theorem hd_X6_learn : yX6_learn.cls = RX6 ∧ yX6_learn.cls ≠ "java/lang/invoke/MethodHandle" ∧ yX6_learn.cls ≠ "java/lang/invoke/VarHandle" ∧ (parseMethodDescriptor yX6_learn.desc).map (fun d => d.parameters.length) = some 2 := ⟨rfl, by decide, by decide, by decide +kernel⟩
def JX6_learn_32 (F : Nat) (xv1 : Int32) (xv2 : Int32) (xs0 : Int32) (M : Mem) : Option (Int32 × Mem) := gi (((6 : Int32) * xv1) + (3 : Int32)) 24 (nm ((M.1 4 (((6 : Int32) * xv1) + (3 : Int32)).toNatClampNeg) ||| ((1 : Int32) <<< (xv2 &&& 31))) (fun x8 => gi (((6 : Int32) * xv1) + (3 : Int32)) 24 (nm (u2 M 4 (((6 : Int32) * xv1) + (3 : Int32)).toNatClampNeg x8) (fun M9 => some (xs0, M9)))))
set_option maxRecDepth 100000 in
set_option maxHeartbeats 4000000 in
theorem jX6_learn_32 {G : KyG} {cy : ClassId} (hG : IsR G cy) {E : KyE} (C : Cx G E cX6_learn 4 RX6 (wY yX6_learn cX6_learn 4 (some .int)) (some .int) rmX6_learn) (F : Nat) (xv1 : Int32) (xv2 : Int32) (xs0 : Int32) (M : Mem)  : Wo G E 4 rI (JX6_learn_32 F xv1 xv2 xs0 M) M 32 [(0, .ref (gA G 0)), (1, .int xv1), (2, .int xv2)] [.int xs0] := by
  unfold JX6_learn_32
  refine ky_istore_n (lv' := [(3, .int xs0), (0, .ref (gA G 0)), (1, .int xv1), (2, .int xv2)]) C dX6_learn_32 (by decide) rfl ?_
  refine ky_aload_n C dX6_learn_33 1 rfl ?_
  refine ky_get C (ltR hG) (ceR hG) rfl inWX6 9 (by decide) (wY_in tw_3_79) rfl rfl dX6_learn_34 ?_
  refine ky_bipush C (6 : Int32) dX6_learn_37 (by decide) ?_
  refine ky_iload_n C dX6_learn_39 2 rfl ?_
  refine ky_imul C dX6_learn_40 ?_
  refine ky_iconst C (3 : Int32) dX6_learn_41 (by decide) ?_
  refine ky_iadd C dX6_learn_42 ?_
  refine ky_dup2 C dX6_learn_43 rfl rfl ?_
  refine ky_iald C (ltA hG ar4) (ceA4 hG) (tR0 hG) dX6_learn_44 (fun hx7 => ?_)
  refine ky_iconst C (1 : Int32) dX6_learn_45 (by decide) ?_
  refine ky_iload_n C dX6_learn_46 3 rfl ?_
  refine ky_ishl C dX6_learn_47 ?_
  refine ky_ior C dX6_learn_48 ?_
  refine ky_nmi (fun x8 => ?_)
  refine ky_iast C (ltA hG ar4) (ceA4 hG) (tR0 hG) dX6_learn_49 (fun M9 hx10 => ?_)
  refine ky_iload_n C dX6_learn_50 0 rfl ?_
  exact ky_iret C dX6_learn_51
def f_X6_learn (F : Nat) (a1 : Int32) (a2 : Int32) (M : Mem) : Option (Int32 × Mem) := bd (f_X6_isConvict F a1 M) (fun r1 M2 => if r1 = 0 then (some ((mI 101), M2)) else (bd (f_X6_isSaying F a2 M2) (fun r3 M4 => if r3 = 0 then (some ((mI 101), M4)) else (bd (f_X6_knows F a1 a2 M4) (fun r5 M6 => if r5 = 0 then (JX6_learn_32 F a1 a2 (1 : Int32) M6) else (JX6_learn_32 F a1 a2 (0 : Int32) M6))))))
set_option maxRecDepth 100000 in
set_option maxHeartbeats 4000000 in
theorem c_X6_learn {G : KyG} {cy : ClassId} (hG : IsR G cy) (F : Nat)  (a1 : Int32) (a2 : Int32) (M : Mem)  : Ct G yX6_learn (wY yX6_learn cX6_learn 4 (some .int)) rmX6_learn rI [.ref (gA G 0), .int a1, .int a2] (f_X6_learn F a1 a2 M) M := by
  refine Ct_of cX6_learn 4 (some .int) RX6 hG.2.2.2 (by decide) rfl rfl (Nat.le_of_ble_eq_true rfl) rfl (fun E C => ?_)
  unfold f_X6_learn
  refine ky_aload_n C dX6_learn_0 0 rfl ?_
  refine ky_iload_n C dX6_learn_1 1 rfl ?_
  refine ky_callVi C (c_X6_isConvict hG F a1 M ) (ltR hG) (ceR hG) rfl (wY_goodV tw_3_214 tw_3_216 tw_p13 tw_1_7 tw_3_217) hd_X6_isConvict ⟨rfl, rfl, by decide, by decide⟩ rfl rfl (Nat.le_of_ble_eq_true rfl) dX6_learn_2 (fun r1 M2 => ?_)
  refine ky_if_eq C 15 dX6_learn_5 (by decide) ?_ ?_
  · refine ky_bipush C (mI 101) dX6_learn_15 (by decide) ?_
    exact ky_iret C dX6_learn_17
  · refine ky_iload_n C dX6_learn_8 2 rfl ?_
    refine ky_callSi C (c_X6_isSaying hG F a2 M2 ) (wY_goodS tw_4_6 tw_4_7 tw_1_7 tw_4_8) hd_X6_isSaying ⟨rfl, rfl, by decide, by decide⟩ rfl rfl (Nat.le_of_ble_eq_true rfl) dX6_learn_9 (fun r3 M4 => ?_)
    refine ky_if_ne C 18 dX6_learn_12 (by decide) ?_ ?_
    · refine ky_bipush C (mI 101) dX6_learn_15 (by decide) ?_
      exact ky_iret C dX6_learn_17
    · refine ky_aload_n C dX6_learn_18 0 rfl ?_
      refine ky_iload_n C dX6_learn_19 1 rfl ?_
      refine ky_iload_n C dX6_learn_20 2 rfl ?_
      refine ky_callVi C (c_X6_knows hG F a1 a2 M4 ) (ltR hG) (ceR hG) rfl (wY_goodV tw_4_10 tw_4_12 tw_p19 tw_1_7 tw_4_13) hd_X6_knows ⟨rfl, rfl, by decide, by decide⟩ rfl rfl (Nat.le_of_ble_eq_true rfl) dX6_learn_21 (fun r5 M6 => ?_)
      refine ky_if_eq C 31 dX6_learn_24 (by decide) ?_ ?_
      · refine ky_iconst C (1 : Int32) dX6_learn_31 (by decide) ?_
        exact ky_sub [0, 1, 2] rfl (jX6_learn_32 hG C F a1 a2 (1 : Int32) M6 )
      · refine ky_iconst C (0 : Int32) dX6_learn_27 (by decide) ?_
        refine ky_goto C 32 dX6_learn_28 (by decide) ?_
        exact ky_sub [0, 1, 2] rfl (jX6_learn_32 hG C F a1 a2 (0 : Int32) M6 )
def rmX6_letter : Room := { frames := 1, cells := 0, slots := 0, locals := 25 }
theorem hd_X6_letter : yX6_letter.cls = RX6 ∧ yX6_letter.cls ≠ "java/lang/invoke/MethodHandle" ∧ yX6_letter.cls ≠ "java/lang/invoke/VarHandle" ∧ (parseMethodDescriptor yX6_letter.desc).map (fun d => d.parameters.length) = some 1 := ⟨rfl, by decide, by decide, by decide +kernel⟩
def f_X6_letter (F : Nat) (a1 : Int32) (M : Mem) : Option (Int32 × Mem) := bd (f_X6_in F a1.toInt64 (1 : Int64) (126 : Int64) M) (fun r1 M2 => if r1 = 0 then (some ((mI 102), M2)) else (if (M2.1 0 1) = (12 : Int32) then (some ((mI 104), M2)) else (gi (M2.1 0 1) 12 (nm (u2 M2 1 (M2.1 0 1).toNatClampNeg a1) (fun M3 => nm ((M3.1 0 1) + (1 : Int32)) (fun x5 => nm (u2 M3 0 1 x5) (fun M6 => some (M6.1 0 1, M6))))))))
set_option maxRecDepth 100000 in
set_option maxHeartbeats 4000000 in
theorem c_X6_letter {G : KyG} {cy : ClassId} (hG : IsR G cy) (F : Nat)  (a1 : Int32) (M : Mem)  : Ct G yX6_letter (wY yX6_letter cX6_letter 2 (some .int)) rmX6_letter rI [.ref (gA G 0), .int a1] (f_X6_letter F a1 M) M := by
  refine Ct_of cX6_letter 2 (some .int) RX6 hG.2.2.2 (by decide) rfl rfl (Nat.le_of_ble_eq_true rfl) rfl (fun E C => ?_)
  unfold f_X6_letter
  refine ky_iload_n C dX6_letter_0 1 rfl ?_
  refine ky_i2l C dX6_letter_1 ?_
  refine ky_lconst C (1 : Int64) dX6_letter_2 (by decide) ?_
  refine ky_ldc2 C (126 : Int64) (wY_in tw_3_156) dX6_letter_3 ?_
  refine ky_callSi C (c_X6_in hG F a1.toInt64 (1 : Int64) (126 : Int64) M ) (wY_goodS tw_3_157 tw_3_158 tw_1_7 tw_3_159) hd_X6_in ⟨rfl, rfl, by decide, by decide⟩ rfl rfl (Nat.le_of_ble_eq_true rfl) dX6_letter_6 (fun r1 M2 => ?_)
  refine ky_if_ne C 15 dX6_letter_9 (by decide) ?_ ?_
  · refine ky_bipush C (mI 102) dX6_letter_12 (by decide) ?_
    exact ky_iret C dX6_letter_14
  · refine ky_aload_n C dX6_letter_15 0 rfl ?_
    refine ky_get C (ltR hG) (ceR hG) rfl inWX6 1 (by decide) (wY_in tw_3_71) rfl rfl dX6_letter_16 ?_
    refine ky_bipush C (12 : Int32) dX6_letter_19 (by decide) ?_
    refine ky_icmp_ne C 27 dX6_letter_21 (by decide) ?_ ?_
    · refine ky_bipush C (mI 104) dX6_letter_24 (by decide) ?_
      exact ky_iret C dX6_letter_26
    · refine ky_aload_n C dX6_letter_27 0 rfl ?_
      refine ky_get C (ltR hG) (ceR hG) rfl inWX6 0 (by decide) (wY_in tw_3_70) rfl rfl dX6_letter_28 ?_
      refine ky_aload_n C dX6_letter_31 0 rfl ?_
      refine ky_get C (ltR hG) (ceR hG) rfl inWX6 1 (by decide) (wY_in tw_3_71) rfl rfl dX6_letter_32 ?_
      refine ky_iload_n C dX6_letter_35 1 rfl ?_
      refine ky_iast C (ltA hG ar1) (ceA1 hG) (tR0 hG) dX6_letter_36 (fun M3 hx4 => ?_)
      refine ky_aload_n C dX6_letter_37 0 rfl ?_
      refine ky_dup C dX6_letter_38 rfl ?_
      refine ky_get C (ltR hG) (ceR hG) rfl inWX6 1 (by decide) (wY_in tw_3_71) rfl rfl dX6_letter_39 ?_
      refine ky_iconst C (1 : Int32) dX6_letter_42 (by decide) ?_
      refine ky_iadd C dX6_letter_43 ?_
      refine ky_nmi (fun x5 => ?_)
      refine ky_put C (ltR hG) (ceR hG) rfl inWX6 tyX6_ok nmX6 1 (by decide) (wY_in tw_3_71) ⟨rfl, rfl⟩ (tyX6_ok 1 (by decide)) rfl rfl (Nat.le_of_ble_eq_true rfl) rfl dX6_letter_44 (fun M6 => ?_)
      refine ky_aload_n C dX6_letter_47 0 rfl ?_
      refine ky_get C (ltR hG) (ceR hG) rfl inWX6 1 (by decide) (wY_in tw_3_71) rfl rfl dX6_letter_48 ?_
      exact ky_iret C dX6_letter_51
def rmX6_mostOf : Room := { frames := 3, cells := 0, slots := 0, locals := 73 }
theorem hd_X6_mostOf : yX6_mostOf.cls = RX6 ∧ yX6_mostOf.cls ≠ "java/lang/invoke/MethodHandle" ∧ yX6_mostOf.cls ≠ "java/lang/invoke/VarHandle" ∧ (parseMethodDescriptor yX6_mostOf.desc).map (fun d => d.parameters.length) = some 0 := ⟨rfl, by decide, by decide, by decide +kernel⟩
def LX6_mostOf_4 (F : Nat)  : Nat → Int32 → Int32 → Mem → Option (Int32 × Mem)
  | 0, _, _, _ => none
  | n + 1, xv1, xv2, M => if (3 : Int32) ≤ xv2 then (some (xv1, M)) else (bd (f_X6_layMost F xv2 M) (fun r1 M2 => nm (xv1 + r1) (fun x3 => nm (xv2 + (1 : Int32)) (fun x4 => LX6_mostOf_4 F n x3 x4 M2))))
theorem LX6_mostOf_4_s (F : Nat)  (n : Nat) (xv1 : Int32) (xv2 : Int32) (M : Mem) : LX6_mostOf_4 F (n + 1) xv1 xv2 M = (if (3 : Int32) ≤ xv2 then (some (xv1, M)) else (bd (f_X6_layMost F xv2 M) (fun r1 M2 => nm (xv1 + r1) (fun x3 => nm (xv2 + (1 : Int32)) (fun x4 => LX6_mostOf_4 F n x3 x4 M2))))) := rfl
set_option maxRecDepth 100000 in
set_option maxHeartbeats 4000000 in
theorem lX6_mostOf_4 {G : KyG} {cy : ClassId} (hG : IsR G cy) {E : KyE} (C : Cx G E cX6_mostOf 3 RX6 (wY yX6_mostOf cX6_mostOf 3 (some .int)) (some .int) rmX6_mostOf) (F : Nat)   : ∀ (n : Nat) (xv1 : Int32) (xv2 : Int32) (M : Mem) , Wo G E 3 rI (LX6_mostOf_4 F n xv1 xv2 M) M 4 [(0, .ref (gA G 0)), (1, .int xv1), (2, .int xv2)] [] := by
  intro n
  induction n with
  | zero => intro xv1 xv2 M ; exact ky_none
  | succ n ih =>
    intro xv1 xv2 M 
    rw [LX6_mostOf_4_s]
    refine ky_iload_n C dX6_mostOf_4 2 rfl ?_
    refine ky_iconst C (3 : Int32) dX6_mostOf_5 (by decide) ?_
    refine ky_icmp_ge C 23 dX6_mostOf_6 (by decide) ?_ ?_
    · refine ky_iload_n C dX6_mostOf_23 1 rfl ?_
      exact ky_iret C dX6_mostOf_24
    · refine ky_iload_n C dX6_mostOf_9 1 rfl ?_
      refine ky_aload_n C dX6_mostOf_10 0 rfl ?_
      refine ky_iload_n C dX6_mostOf_11 2 rfl ?_
      refine ky_callVi C (c_X6_layMost hG F xv2 M ) (ltR hG) (ceR hG) rfl (wY_goodV tw_4_38 tw_4_40 tw_p23 tw_1_7 tw_4_41) hd_X6_layMost ⟨rfl, rfl, by decide, by decide⟩ rfl rfl (Nat.le_of_ble_eq_true rfl) dX6_mostOf_12 (fun r1 M2 => ?_)
      refine ky_iadd C dX6_mostOf_15 ?_
      refine ky_nmi (fun x3 => ?_)
      refine ky_istore_n (lv' := [(1, .int x3), (0, .ref (gA G 0)), (2, .int xv2)]) C dX6_mostOf_16 (by decide) rfl ?_
      refine ky_iinc (lv' := fun x4 => [(2, .int x4), (1, .int x3), (0, .ref (gA G 0))]) C dX6_mostOf_17 2 rfl (d1 := (1 : Int32)) rfl (by decide) (fun _ => rfl) (fun x4 => ?_)
      refine ky_goto C 4 dX6_mostOf_20 (by decide) ?_
      exact ky_sub [2, 1, 0] rfl (ih x3 x4 M2 )
def f_X6_mostOf (F : Nat)  (M : Mem) : Option (Int32 × Mem) := LX6_mostOf_4 F  F (0 : Int32) (0 : Int32) M
set_option maxRecDepth 100000 in
set_option maxHeartbeats 4000000 in
theorem c_X6_mostOf {G : KyG} {cy : ClassId} (hG : IsR G cy) (F : Nat)   (M : Mem)  : Ct G yX6_mostOf (wY yX6_mostOf cX6_mostOf 3 (some .int)) rmX6_mostOf rI [.ref (gA G 0)] (f_X6_mostOf F  M) M := by
  refine Ct_of cX6_mostOf 3 (some .int) RX6 hG.2.2.2 (by decide) rfl rfl (Nat.le_of_ble_eq_true rfl) rfl (fun E C => ?_)
  unfold f_X6_mostOf
  refine ky_iconst C (0 : Int32) dX6_mostOf_0 (by decide) ?_
  refine ky_istore_n (lv' := [(1, .int (0 : Int32)), (0, .ref (gA G 0))]) C dX6_mostOf_1 (by decide) rfl ?_
  refine ky_iconst C (0 : Int32) dX6_mostOf_2 (by decide) ?_
  refine ky_istore_n (lv' := [(2, .int (0 : Int32)), (1, .int (0 : Int32)), (0, .ref (gA G 0))]) C dX6_mostOf_3 (by decide) rfl ?_
  exact ky_sub [2, 1, 0] rfl (lX6_mostOf_4 hG C F   F (0 : Int32) (0 : Int32) M )
def rmX6_most : Room := { frames := 4, cells := 0, slots := 0, locals := 95 }
theorem hd_X6_most : yX6_most.cls = RX6 ∧ yX6_most.cls ≠ "java/lang/invoke/MethodHandle" ∧ yX6_most.cls ≠ "java/lang/invoke/VarHandle" ∧ (parseMethodDescriptor yX6_most.desc).map (fun d => d.parameters.length) = some 1 := ⟨rfl, by decide, by decide, by decide +kernel⟩
def f_X6_most (F : Nat) (a1 : Int32) (M : Mem) : Option (Int32 × Mem) := bd (f_X6_in F a1.toInt64 (0 : Int64) (1 : Int64) M) (fun r1 M2 => if r1 = 0 then (some ((mI 102), M2)) else (if (M2.1 0 2) = 0 then (some ((mI 103), M2)) else (bd (f_X6_mostOf F M2) (fun r3 M4 => if a1 = 0 then (some (r3, M4)) else (bd (f_X6_needsAll F M4) (fun r5 M6 => if r3 = r5 then (some ((1 : Int32), M6)) else (some ((0 : Int32), M6))))))))
set_option maxRecDepth 100000 in
set_option maxHeartbeats 4000000 in
theorem c_X6_most {G : KyG} {cy : ClassId} (hG : IsR G cy) (F : Nat)  (a1 : Int32) (M : Mem)  : Ct G yX6_most (wY yX6_most cX6_most 3 (some .int)) rmX6_most rI [.ref (gA G 0), .int a1] (f_X6_most F a1 M) M := by
  refine Ct_of cX6_most 3 (some .int) RX6 hG.2.2.2 (by decide) rfl rfl (Nat.le_of_ble_eq_true rfl) rfl (fun E C => ?_)
  unfold f_X6_most
  refine ky_iload_n C dX6_most_0 1 rfl ?_
  refine ky_i2l C dX6_most_1 ?_
  refine ky_lconst C (0 : Int64) dX6_most_2 (by decide) ?_
  refine ky_lconst C (1 : Int64) dX6_most_3 (by decide) ?_
  refine ky_callSi C (c_X6_in hG F a1.toInt64 (0 : Int64) (1 : Int64) M ) (wY_goodS tw_3_157 tw_3_158 tw_1_7 tw_3_159) hd_X6_in ⟨rfl, rfl, by decide, by decide⟩ rfl rfl (Nat.le_of_ble_eq_true rfl) dX6_most_4 (fun r1 M2 => ?_)
  refine ky_if_ne C 13 dX6_most_7 (by decide) ?_ ?_
  · refine ky_bipush C (mI 102) dX6_most_10 (by decide) ?_
    exact ky_iret C dX6_most_12
  · refine ky_aload_n C dX6_most_13 0 rfl ?_
    refine ky_get C (ltR hG) (ceR hG) rfl inWX6 2 (by decide) (wY_in tw_3_72) rfl rfl dX6_most_14 ?_
    refine ky_if_ne C 23 dX6_most_17 (by decide) ?_ ?_
    · refine ky_bipush C (mI 103) dX6_most_20 (by decide) ?_
      exact ky_iret C dX6_most_22
    · refine ky_aload_n C dX6_most_23 0 rfl ?_
      refine ky_callVi C (c_X6_mostOf hG F M2 ) (ltR hG) (ceR hG) rfl (wY_goodV tw_4_34 tw_4_36 tw_p22 tw_1_7 tw_4_37) hd_X6_mostOf ⟨rfl, rfl, by decide, by decide⟩ rfl rfl (Nat.le_of_ble_eq_true rfl) dX6_most_24 (fun r3 M4 => ?_)
      refine ky_istore_n (lv' := [(2, .int r3), (0, .ref (gA G 0)), (1, .int a1)]) C dX6_most_27 (by decide) rfl ?_
      refine ky_iload_n C dX6_most_28 2 rfl ?_
      refine ky_if_ne C 36 dX6_most_29 (by decide) ?_ ?_
      · refine ky_iload_n C dX6_most_32 0 rfl ?_
        refine ky_goto C 49 dX6_most_33 (by decide) ?_
        exact ky_iret C dX6_most_49
      · refine ky_iload_n C dX6_most_36 0 rfl ?_
        refine ky_aload_n C dX6_most_37 1 rfl ?_
        refine ky_callVi C (c_X6_needsAll hG F M4 ) (ltR hG) (ceR hG) rfl (wY_goodV tw_4_49 tw_4_51 tw_p25 tw_1_7 tw_4_52) hd_X6_needsAll ⟨rfl, rfl, by decide, by decide⟩ rfl rfl (Nat.le_of_ble_eq_true rfl) dX6_most_38 (fun r5 M6 => ?_)
        refine ky_icmp_ne C 48 dX6_most_41 (by decide) ?_ ?_
        · refine ky_iconst C (1 : Int32) dX6_most_44 (by decide) ?_
          refine ky_goto C 49 dX6_most_45 (by decide) ?_
          exact ky_iret C dX6_most_49
        · refine ky_iconst C (0 : Int32) dX6_most_48 (by decide) ?_
          exact ky_iret C dX6_most_49
def rmX6_sleep : Room := { frames := 1, cells := 0, slots := 0, locals := 20 }
theorem hd_X6_sleep : yX6_sleep.cls = RX6 ∧ yX6_sleep.cls ≠ "java/lang/invoke/MethodHandle" ∧ yX6_sleep.cls ≠ "java/lang/invoke/VarHandle" ∧ (parseMethodDescriptor yX6_sleep.desc).map (fun d => d.parameters.length) = some 0 := ⟨rfl, by decide, by decide, by decide +kernel⟩
def LX6_sleep_2 (F : Nat)  : Nat → Int32 → Mem → Option (Unit × Mem)
  | 0, _, _ => none
  | n + 1, xv1, M => if (M.1 0 8) ≤ xv1 then (some ((), M)) else (gi ((6 : Int32) * xv1) 24 (bd (f_X6_aDay F (M.1 4 ((6 : Int32) * xv1).toNatClampNeg) M) (fun r2 M3 => gi (((6 : Int32) * xv1) + (4 : Int32)) 24 (nm (u2 M3 4 (((6 : Int32) * xv1) + (4 : Int32)).toNatClampNeg r2) (fun M4 => nm (xv1 + (1 : Int32)) (fun x6 => LX6_sleep_2 F n x6 M4))))))
theorem LX6_sleep_2_s (F : Nat)  (n : Nat) (xv1 : Int32) (M : Mem) : LX6_sleep_2 F (n + 1) xv1 M = (if (M.1 0 8) ≤ xv1 then (some ((), M)) else (gi ((6 : Int32) * xv1) 24 (bd (f_X6_aDay F (M.1 4 ((6 : Int32) * xv1).toNatClampNeg) M) (fun r2 M3 => gi (((6 : Int32) * xv1) + (4 : Int32)) 24 (nm (u2 M3 4 (((6 : Int32) * xv1) + (4 : Int32)).toNatClampNeg r2) (fun M4 => nm (xv1 + (1 : Int32)) (fun x6 => LX6_sleep_2 F n x6 M4))))))) := rfl
set_option maxRecDepth 100000 in
set_option maxHeartbeats 4000000 in
theorem lX6_sleep_2 {G : KyG} {cy : ClassId} (hG : IsR G cy) {E : KyE} (C : Cx G E cX6_sleep 2 RX6 (wY yX6_sleep cX6_sleep 2 none) none rmX6_sleep) (F : Nat)   : ∀ (n : Nat) (xv1 : Int32) (M : Mem) , Wo G E 2 rV (LX6_sleep_2 F n xv1 M) M 2 [(0, .ref (gA G 0)), (1, .int xv1)] [] := by
  intro n
  induction n with
  | zero => intro xv1 M ; exact ky_none
  | succ n ih =>
    intro xv1 M 
    rw [LX6_sleep_2_s]
    refine ky_iload_n C dX6_sleep_2 1 rfl ?_
    refine ky_aload_n C dX6_sleep_3 0 rfl ?_
    refine ky_get C (ltR hG) (ceR hG) rfl inWX6 8 (by decide) (wY_in tw_3_78) rfl rfl dX6_sleep_4 ?_
    refine ky_icmp_ge C 39 dX6_sleep_7 (by decide) ?_ ?_
    · exact ky_vret C dX6_sleep_39
    · refine ky_aload_n C dX6_sleep_10 0 rfl ?_
      refine ky_get C (ltR hG) (ceR hG) rfl inWX6 9 (by decide) (wY_in tw_3_79) rfl rfl dX6_sleep_11 ?_
      refine ky_bipush C (6 : Int32) dX6_sleep_14 (by decide) ?_
      refine ky_iload_n C dX6_sleep_16 1 rfl ?_
      refine ky_imul C dX6_sleep_17 ?_
      refine ky_iconst C (4 : Int32) dX6_sleep_18 (by decide) ?_
      refine ky_iadd C dX6_sleep_19 ?_
      refine ky_aload_n C dX6_sleep_20 0 rfl ?_
      refine ky_get C (ltR hG) (ceR hG) rfl inWX6 9 (by decide) (wY_in tw_3_79) rfl rfl dX6_sleep_21 ?_
      refine ky_bipush C (6 : Int32) dX6_sleep_24 (by decide) ?_
      refine ky_iload_n C dX6_sleep_26 1 rfl ?_
      refine ky_imul C dX6_sleep_27 ?_
      refine ky_iald C (ltA hG ar4) (ceA4 hG) (tR0 hG) dX6_sleep_28 (fun hx1 => ?_)
      refine ky_callSi C (c_X6_aDay hG F (M.1 4 ((6 : Int32) * xv1).toNatClampNeg) M ) (wY_goodS tw_3_207 tw_3_208 tw_1_7 tw_3_209) hd_X6_aDay ⟨rfl, rfl, by decide, by decide⟩ rfl rfl (Nat.le_of_ble_eq_true rfl) dX6_sleep_29 (fun r2 M3 => ?_)
      refine ky_iast C (ltA hG ar4) (ceA4 hG) (tR0 hG) dX6_sleep_32 (fun M4 hx5 => ?_)
      refine ky_iinc (lv' := fun x6 => [(1, .int x6), (0, .ref (gA G 0))]) C dX6_sleep_33 1 rfl (d1 := (1 : Int32)) rfl (by decide) (fun _ => rfl) (fun x6 => ?_)
      refine ky_goto C 2 dX6_sleep_36 (by decide) ?_
      exact ky_sub [1, 0] rfl (ih x6 M4 )
def f_X6_sleep (F : Nat)  (M : Mem) : Option (Unit × Mem) := LX6_sleep_2 F  F (0 : Int32) M
set_option maxRecDepth 100000 in
set_option maxHeartbeats 4000000 in
theorem c_X6_sleep {G : KyG} {cy : ClassId} (hG : IsR G cy) (F : Nat)   (M : Mem)  : Ct G yX6_sleep (wY yX6_sleep cX6_sleep 2 none) rmX6_sleep rV [.ref (gA G 0)] (f_X6_sleep F  M) M := by
  refine Ct_of cX6_sleep 2 none RX6 hG.2.2.2 (by decide) rfl rfl (Nat.le_of_ble_eq_true rfl) rfl (fun E C => ?_)
  unfold f_X6_sleep
  refine ky_iconst C (0 : Int32) dX6_sleep_0 (by decide) ?_
  refine ky_istore_n (lv' := [(1, .int (0 : Int32)), (0, .ref (gA G 0))]) C dX6_sleep_1 (by decide) rfl ?_
  exact ky_sub [1, 0] rfl (lX6_sleep_2 hG C F   F (0 : Int32) M )
def rmX6_night : Room := { frames := 2, cells := 0, slots := 0, locals := 41 }
theorem hd_X6_night : yX6_night.cls = RX6 ∧ yX6_night.cls ≠ "java/lang/invoke/MethodHandle" ∧ yX6_night.cls ≠ "java/lang/invoke/VarHandle" ∧ (parseMethodDescriptor yX6_night.desc).map (fun d => d.parameters.length) = some 0 := ⟨rfl, by decide, by decide, by decide +kernel⟩
def f_X6_night (F : Nat)  (M : Mem) : Option (Int32 × Mem) := if (M.1 0 2) = 0 then (some ((mI 103), M)) else (bd (f_X6_sleep F M) (fun r1 M2 => nm ((M2.1 0 4) + (1 : Int32)) (fun x3 => nm (u2 M2 0 4 x3) (fun M4 => some (M4.1 0 4, M4)))))
set_option maxRecDepth 100000 in
set_option maxHeartbeats 4000000 in
theorem c_X6_night {G : KyG} {cy : ClassId} (hG : IsR G cy) (F : Nat)   (M : Mem)  : Ct G yX6_night (wY yX6_night cX6_night 1 (some .int)) rmX6_night rI [.ref (gA G 0)] (f_X6_night F  M) M := by
  refine Ct_of cX6_night 1 (some .int) RX6 hG.2.2.2 (by decide) rfl rfl (Nat.le_of_ble_eq_true rfl) rfl (fun E C => ?_)
  unfold f_X6_night
  refine ky_aload_n C dX6_night_0 0 rfl ?_
  refine ky_get C (ltR hG) (ceR hG) rfl inWX6 2 (by decide) (wY_in tw_3_72) rfl rfl dX6_night_1 ?_
  refine ky_if_ne C 10 dX6_night_4 (by decide) ?_ ?_
  · refine ky_bipush C (mI 103) dX6_night_7 (by decide) ?_
    exact ky_iret C dX6_night_9
  · refine ky_aload_n C dX6_night_10 0 rfl ?_
    refine ky_callVv C (c_X6_sleep hG F M ) (ltR hG) (ceR hG) rfl (wY_goodV tw_4_26 tw_4_28 tw_p21 tw_1_7 tw_4_29) hd_X6_sleep ⟨rfl, rfl, by decide, by decide⟩ rfl rfl (Nat.le_of_ble_eq_true rfl) dX6_night_11 (fun r1 M2 => ?_)
    refine ky_aload_n C dX6_night_14 0 rfl ?_
    refine ky_dup C dX6_night_15 rfl ?_
    refine ky_get C (ltR hG) (ceR hG) rfl inWX6 4 (by decide) (wY_in tw_3_74) rfl rfl dX6_night_16 ?_
    refine ky_iconst C (1 : Int32) dX6_night_19 (by decide) ?_
    refine ky_iadd C dX6_night_20 ?_
    refine ky_nmi (fun x3 => ?_)
    refine ky_put C (ltR hG) (ceR hG) rfl inWX6 tyX6_ok nmX6 4 (by decide) (wY_in tw_3_74) ⟨rfl, rfl⟩ (tyX6_ok 4 (by decide)) rfl rfl (Nat.le_of_ble_eq_true rfl) rfl dX6_night_21 (fun M4 => ?_)
    refine ky_aload_n C dX6_night_24 0 rfl ?_
    refine ky_get C (ltR hG) (ceR hG) rfl inWX6 4 (by decide) (wY_in tw_3_74) rfl rfl dX6_night_25 ?_
    exact ky_iret C dX6_night_28
def rmX6_restore : Room := { frames := 1, cells := 0, slots := 0, locals := 22 }
theorem hd_X6_restore : yX6_restore.cls = RX6 ∧ yX6_restore.cls ≠ "java/lang/invoke/MethodHandle" ∧ yX6_restore.cls ≠ "java/lang/invoke/VarHandle" ∧ (parseMethodDescriptor yX6_restore.desc).map (fun d => d.parameters.length) = some 0 := ⟨rfl, by decide, by decide, by decide +kernel⟩
def f_X6_restore (F : Nat)  (M : Mem) : Option (Int32 × Mem) := if (M.1 0 18) = (M.1 0 5) then (bd (f_X6_copy F 11 4 M) (fun r1 M2 => bd (f_X6_copy F 12 3 M2) (fun r3 M4 => bd (f_X6_copy F 13 8 M4) (fun r5 M6 => nm (M6.1 0 19) (fun x7 => nm (u2 M6 0 3 x7) (fun M8 => nm (M8.1 0 20) (fun x9 => nm (u2 M8 0 4 x9) (fun M10 => nm (M10.1 0 21) (fun x11 => nm (u2 M10 0 8 x11) (fun M12 => nm (M12.1 0 22) (fun x13 => nm (u2 M12 0 13 x13) (fun M14 => some (M14.1 0 4, M14))))))))))))) else (some ((mI 103), M))
set_option maxRecDepth 100000 in
set_option maxHeartbeats 4000000 in
theorem c_X6_restore {G : KyG} {cy : ClassId} (hG : IsR G cy) (F : Nat)   (M : Mem)  : Ct G yX6_restore (wY yX6_restore cX6_restore 1 (some .int)) rmX6_restore rI [.ref (gA G 0)] (f_X6_restore F  M) M := by
  refine Ct_of cX6_restore 1 (some .int) RX6 hG.2.2.2 (by decide) rfl rfl (Nat.le_of_ble_eq_true rfl) rfl (fun E C => ?_)
  unfold f_X6_restore
  refine ky_aload_n C dX6_restore_0 0 rfl ?_
  refine ky_get C (ltR hG) (ceR hG) rfl inWX6 18 (by decide) (wY_in tw_3_88) rfl rfl dX6_restore_1 ?_
  refine ky_aload_n C dX6_restore_4 0 rfl ?_
  refine ky_get C (ltR hG) (ceR hG) rfl inWX6 5 (by decide) (wY_in tw_3_75) rfl rfl dX6_restore_5 ?_
  refine ky_icmp_eq C 14 dX6_restore_8 (by decide) ?_ ?_
  · refine ky_aload_n C dX6_restore_14 0 rfl ?_
    refine ky_get C (ltR hG) (ceR hG) rfl inWX6 23 (by decide) (wY_in tw_3_93) rfl rfl dX6_restore_15 ?_
    refine ky_aload_n C dX6_restore_18 0 rfl ?_
    refine ky_get C (ltR hG) (ceR hG) rfl inWX6 9 (by decide) (wY_in tw_3_79) rfl rfl dX6_restore_19 ?_
    refine ky_callSv C (c_X6_copy hG F 11 4 M ar11 ar4) (wY_goodS tw_4_46 tw_4_47 tw_1_7 tw_4_48) hd_X6_copy ⟨rfl, rfl, by decide, by decide⟩ rfl rfl (Nat.le_of_ble_eq_true rfl) dX6_restore_22 (fun r1 M2 => ?_)
    refine ky_aload_n C dX6_restore_25 0 rfl ?_
    refine ky_get C (ltR hG) (ceR hG) rfl inWX6 24 (by decide) (wY_in tw_3_94) rfl rfl dX6_restore_26 ?_
    refine ky_aload_n C dX6_restore_29 0 rfl ?_
    refine ky_get C (ltR hG) (ceR hG) rfl inWX6 7 (by decide) (wY_in tw_3_77) rfl rfl dX6_restore_30 ?_
    refine ky_callSv C (c_X6_copy hG F 12 3 M2 ar12 ar3) (wY_goodS tw_4_46 tw_4_47 tw_1_7 tw_4_48) hd_X6_copy ⟨rfl, rfl, by decide, by decide⟩ rfl rfl (Nat.le_of_ble_eq_true rfl) dX6_restore_33 (fun r3 M4 => ?_)
    refine ky_aload_n C dX6_restore_36 0 rfl ?_
    refine ky_get C (ltR hG) (ceR hG) rfl inWX6 25 (by decide) (wY_in tw_3_95) rfl rfl dX6_restore_37 ?_
    refine ky_aload_n C dX6_restore_40 0 rfl ?_
    refine ky_get C (ltR hG) (ceR hG) rfl inWX6 14 (by decide) (wY_in tw_3_84) rfl rfl dX6_restore_41 ?_
    refine ky_callSv C (c_X6_copy hG F 13 8 M4 ar13 ar8) (wY_goodS tw_4_46 tw_4_47 tw_1_7 tw_4_48) hd_X6_copy ⟨rfl, rfl, by decide, by decide⟩ rfl rfl (Nat.le_of_ble_eq_true rfl) dX6_restore_44 (fun r5 M6 => ?_)
    refine ky_aload_n C dX6_restore_47 0 rfl ?_
    refine ky_aload_n C dX6_restore_48 0 rfl ?_
    refine ky_get C (ltR hG) (ceR hG) rfl inWX6 19 (by decide) (wY_in tw_3_89) rfl rfl dX6_restore_49 ?_
    refine ky_nmi (fun x7 => ?_)
    refine ky_put C (ltR hG) (ceR hG) rfl inWX6 tyX6_ok nmX6 3 (by decide) (wY_in tw_3_73) ⟨rfl, rfl⟩ (tyX6_ok 3 (by decide)) rfl rfl (Nat.le_of_ble_eq_true rfl) rfl dX6_restore_52 (fun M8 => ?_)
    refine ky_aload_n C dX6_restore_55 0 rfl ?_
    refine ky_aload_n C dX6_restore_56 0 rfl ?_
    refine ky_get C (ltR hG) (ceR hG) rfl inWX6 20 (by decide) (wY_in tw_3_90) rfl rfl dX6_restore_57 ?_
    refine ky_nmi (fun x9 => ?_)
    refine ky_put C (ltR hG) (ceR hG) rfl inWX6 tyX6_ok nmX6 4 (by decide) (wY_in tw_3_74) ⟨rfl, rfl⟩ (tyX6_ok 4 (by decide)) rfl rfl (Nat.le_of_ble_eq_true rfl) rfl dX6_restore_60 (fun M10 => ?_)
    refine ky_aload_n C dX6_restore_63 0 rfl ?_
    refine ky_aload_n C dX6_restore_64 0 rfl ?_
    refine ky_get C (ltR hG) (ceR hG) rfl inWX6 21 (by decide) (wY_in tw_3_91) rfl rfl dX6_restore_65 ?_
    refine ky_nmi (fun x11 => ?_)
    refine ky_put C (ltR hG) (ceR hG) rfl inWX6 tyX6_ok nmX6 8 (by decide) (wY_in tw_3_78) ⟨rfl, rfl⟩ (tyX6_ok 8 (by decide)) rfl rfl (Nat.le_of_ble_eq_true rfl) rfl dX6_restore_68 (fun M12 => ?_)
    refine ky_aload_n C dX6_restore_71 0 rfl ?_
    refine ky_aload_n C dX6_restore_72 0 rfl ?_
    refine ky_get C (ltR hG) (ceR hG) rfl inWX6 22 (by decide) (wY_in tw_3_92) rfl rfl dX6_restore_73 ?_
    refine ky_nmi (fun x13 => ?_)
    refine ky_put C (ltR hG) (ceR hG) rfl inWX6 tyX6_ok nmX6 13 (by decide) (wY_in tw_3_83) ⟨rfl, rfl⟩ (tyX6_ok 13 (by decide)) rfl rfl (Nat.le_of_ble_eq_true rfl) rfl dX6_restore_76 (fun M14 => ?_)
    refine ky_aload_n C dX6_restore_79 0 rfl ?_
    refine ky_get C (ltR hG) (ceR hG) rfl inWX6 4 (by decide) (wY_in tw_3_74) rfl rfl dX6_restore_80 ?_
    exact ky_iret C dX6_restore_83
  · refine ky_bipush C (mI 103) dX6_restore_11 (by decide) ?_
    exact ky_iret C dX6_restore_13
def rmX6_say : Room := { frames := 2, cells := 0, slots := 0, locals := 46 }
theorem hd_X6_say : yX6_say.cls = RX6 ∧ yX6_say.cls ≠ "java/lang/invoke/MethodHandle" ∧ yX6_say.cls ≠ "java/lang/invoke/VarHandle" ∧ (parseMethodDescriptor yX6_say.desc).map (fun d => d.parameters.length) = some 2 := ⟨rfl, by decide, by decide, by decide +kernel⟩
def f_X6_say (F : Nat) (a1 : Int32) (a2 : Int32) (M : Mem) : Option (Int32 × Mem) := bd (f_X6_isConvict F a1 M) (fun r1 M2 => if r1 = 0 then (some ((mI 101), M2)) else (bd (f_X6_isSaying F a2 M2) (fun r3 M4 => if r3 = 0 then (some ((mI 101), M4)) else (gi (((6 : Int32) * a1) + (2 : Int32)) 24 (if (M4.1 4 (((6 : Int32) * a1) + (2 : Int32)).toNatClampNeg) = 0 then (some ((mI 103), M4)) else (gi (((6 : Int32) * a1) + (4 : Int32)) 24 (if (M4.1 4 (((6 : Int32) * a1) + (4 : Int32)).toNatClampNeg) = 0 then (some ((mI 103), M4)) else (bd (f_X6_knows F a1 a2 M4) (fun r7 M8 => if r7 = 0 then (some ((mI 103), M8)) else (gi (((6 : Int32) * a1) + (4 : Int32)) 24 (nm ((M8.1 4 (((6 : Int32) * a1) + (4 : Int32)).toNatClampNeg) - (1 : Int32)) (fun x10 => gi (((6 : Int32) * a1) + (4 : Int32)) 24 (nm (u2 M8 4 (((6 : Int32) * a1) + (4 : Int32)).toNatClampNeg x10) (fun M11 => bd (f_X6_says F a1 a2 M11) (fun r13 M14 => some (r13, M14))))))))))))))))
set_option maxRecDepth 100000 in
set_option maxHeartbeats 4000000 in
theorem c_X6_say {G : KyG} {cy : ClassId} (hG : IsR G cy) (F : Nat)  (a1 : Int32) (a2 : Int32) (M : Mem)  : Ct G yX6_say (wY yX6_say cX6_say 3 (some .int)) rmX6_say rI [.ref (gA G 0), .int a1, .int a2] (f_X6_say F a1 a2 M) M := by
  refine Ct_of cX6_say 3 (some .int) RX6 hG.2.2.2 (by decide) rfl rfl (Nat.le_of_ble_eq_true rfl) rfl (fun E C => ?_)
  unfold f_X6_say
  refine ky_aload_n C dX6_say_0 0 rfl ?_
  refine ky_iload_n C dX6_say_1 1 rfl ?_
  refine ky_callVi C (c_X6_isConvict hG F a1 M ) (ltR hG) (ceR hG) rfl (wY_goodV tw_3_214 tw_3_216 tw_p13 tw_1_7 tw_3_217) hd_X6_isConvict ⟨rfl, rfl, by decide, by decide⟩ rfl rfl (Nat.le_of_ble_eq_true rfl) dX6_say_2 (fun r1 M2 => ?_)
  refine ky_if_eq C 15 dX6_say_5 (by decide) ?_ ?_
  · refine ky_bipush C (mI 101) dX6_say_15 (by decide) ?_
    exact ky_iret C dX6_say_17
  · refine ky_iload_n C dX6_say_8 2 rfl ?_
    refine ky_callSi C (c_X6_isSaying hG F a2 M2 ) (wY_goodS tw_4_6 tw_4_7 tw_1_7 tw_4_8) hd_X6_isSaying ⟨rfl, rfl, by decide, by decide⟩ rfl rfl (Nat.le_of_ble_eq_true rfl) dX6_say_9 (fun r3 M4 => ?_)
    refine ky_if_ne C 18 dX6_say_12 (by decide) ?_ ?_
    · refine ky_bipush C (mI 101) dX6_say_15 (by decide) ?_
      exact ky_iret C dX6_say_17
    · refine ky_aload_n C dX6_say_18 0 rfl ?_
      refine ky_get C (ltR hG) (ceR hG) rfl inWX6 9 (by decide) (wY_in tw_3_79) rfl rfl dX6_say_19 ?_
      refine ky_bipush C (6 : Int32) dX6_say_22 (by decide) ?_
      refine ky_iload_n C dX6_say_24 1 rfl ?_
      refine ky_imul C dX6_say_25 ?_
      refine ky_iconst C (2 : Int32) dX6_say_26 (by decide) ?_
      refine ky_iadd C dX6_say_27 ?_
      refine ky_iald C (ltA hG ar4) (ceA4 hG) (tR0 hG) dX6_say_28 (fun hx5 => ?_)
      refine ky_if_eq C 55 dX6_say_29 (by decide) ?_ ?_
      · refine ky_bipush C (mI 103) dX6_say_55 (by decide) ?_
        exact ky_iret C dX6_say_57
      · refine ky_aload_n C dX6_say_32 0 rfl ?_
        refine ky_get C (ltR hG) (ceR hG) rfl inWX6 9 (by decide) (wY_in tw_3_79) rfl rfl dX6_say_33 ?_
        refine ky_bipush C (6 : Int32) dX6_say_36 (by decide) ?_
        refine ky_iload_n C dX6_say_38 1 rfl ?_
        refine ky_imul C dX6_say_39 ?_
        refine ky_iconst C (4 : Int32) dX6_say_40 (by decide) ?_
        refine ky_iadd C dX6_say_41 ?_
        refine ky_iald C (ltA hG ar4) (ceA4 hG) (tR0 hG) dX6_say_42 (fun hx6 => ?_)
        refine ky_if_eq C 55 dX6_say_43 (by decide) ?_ ?_
        · refine ky_bipush C (mI 103) dX6_say_55 (by decide) ?_
          exact ky_iret C dX6_say_57
        · refine ky_aload_n C dX6_say_46 0 rfl ?_
          refine ky_iload_n C dX6_say_47 1 rfl ?_
          refine ky_iload_n C dX6_say_48 2 rfl ?_
          refine ky_callVi C (c_X6_knows hG F a1 a2 M4 ) (ltR hG) (ceR hG) rfl (wY_goodV tw_4_10 tw_4_12 tw_p19 tw_1_7 tw_4_13) hd_X6_knows ⟨rfl, rfl, by decide, by decide⟩ rfl rfl (Nat.le_of_ble_eq_true rfl) dX6_say_49 (fun r7 M8 => ?_)
          refine ky_if_ne C 58 dX6_say_52 (by decide) ?_ ?_
          · refine ky_bipush C (mI 103) dX6_say_55 (by decide) ?_
            exact ky_iret C dX6_say_57
          · refine ky_aload_n C dX6_say_58 0 rfl ?_
            refine ky_get C (ltR hG) (ceR hG) rfl inWX6 9 (by decide) (wY_in tw_3_79) rfl rfl dX6_say_59 ?_
            refine ky_bipush C (6 : Int32) dX6_say_62 (by decide) ?_
            refine ky_iload_n C dX6_say_64 1 rfl ?_
            refine ky_imul C dX6_say_65 ?_
            refine ky_iconst C (4 : Int32) dX6_say_66 (by decide) ?_
            refine ky_iadd C dX6_say_67 ?_
            refine ky_dup2 C dX6_say_68 rfl rfl ?_
            refine ky_iald C (ltA hG ar4) (ceA4 hG) (tR0 hG) dX6_say_69 (fun hx9 => ?_)
            refine ky_iconst C (1 : Int32) dX6_say_70 (by decide) ?_
            refine ky_isub C dX6_say_71 ?_
            refine ky_nmi (fun x10 => ?_)
            refine ky_iast C (ltA hG ar4) (ceA4 hG) (tR0 hG) dX6_say_72 (fun M11 hx12 => ?_)
            refine ky_aload_n C dX6_say_73 0 rfl ?_
            refine ky_iload_n C dX6_say_74 1 rfl ?_
            refine ky_iload_n C dX6_say_75 2 rfl ?_
            refine ky_callVi C (c_X6_says hG F a1 a2 M11 ) (ltR hG) (ceR hG) rfl (wY_goodV tw_4_14 tw_4_16 tw_p20 tw_1_7 tw_4_17) hd_X6_says ⟨rfl, rfl, by decide, by decide⟩ rfl rfl (Nat.le_of_ble_eq_true rfl) dX6_say_76 (fun r13 M14 => ?_)
            exact ky_iret C dX6_say_79
def rmX6_town : Room := { frames := 3, cells := 0, slots := 0, locals := 68 }
theorem hd_X6_town : yX6_town.cls = RX6 ∧ yX6_town.cls ≠ "java/lang/invoke/MethodHandle" ∧ yX6_town.cls ≠ "java/lang/invoke/VarHandle" ∧ (parseMethodDescriptor yX6_town.desc).map (fun d => d.parameters.length) = some 0 := ⟨rfl, by decide, by decide, by decide +kernel⟩
def LX6_town_23 (F : Nat)  : Nat → Int32 → Mem → Option (Int32 × Mem)
  | 0, _, _ => none
  | n + 1, xv1, M => if (3 : Int32) ≤ xv1 then (gi (9 : Int32) 12 (nm ((M.1 1 (9 : Int32).toNatClampNeg) - (48 : Int32)) (fun x4 => nm (u2 M 0 3 x4) (fun M5 => nm (u2 M5 0 2 (1 : Int32)) (fun M6 => nm (u2 M6 0 4 (0 : Int32)) (fun M7 => nm (u2 M7 0 8 (0 : Int32)) (fun M8 => nm (u2 M8 0 13 (0 : Int32)) (fun M9 => nm ((M9.1 0 5) + (1 : Int32)) (fun x10 => nm (u2 M9 0 5 x10) (fun M11 => nm (u2 M11 0 1 (0 : Int32)) (fun M12 => bd (f_X6_trueAll F M12) (fun r13 M14 => some (r13, M14))))))))))))) else (gi ((3 : Int32) * xv1) 12 (gi (((3 : Int32) * xv1) + (1 : Int32)) 12 (nm ((((8 : Int32) * ((M.1 1 ((3 : Int32) * xv1).toNatClampNeg) - (48 : Int32))) + (M.1 1 (((3 : Int32) * xv1) + (1 : Int32)).toNatClampNeg)) - (48 : Int32)) (fun x17 => gi xv1 3 (nm (u2 M 2 xv1.toNatClampNeg x17) (fun M18 => gi xv1 3 (nm (u2 M18 3 xv1.toNatClampNeg (0 : Int32)) (fun M20 => nm (xv1 + (1 : Int32)) (fun x22 => LX6_town_23 F n x22 M20)))))))))
theorem LX6_town_23_s (F : Nat)  (n : Nat) (xv1 : Int32) (M : Mem) : LX6_town_23 F (n + 1) xv1 M = (if (3 : Int32) ≤ xv1 then (gi (9 : Int32) 12 (nm ((M.1 1 (9 : Int32).toNatClampNeg) - (48 : Int32)) (fun x4 => nm (u2 M 0 3 x4) (fun M5 => nm (u2 M5 0 2 (1 : Int32)) (fun M6 => nm (u2 M6 0 4 (0 : Int32)) (fun M7 => nm (u2 M7 0 8 (0 : Int32)) (fun M8 => nm (u2 M8 0 13 (0 : Int32)) (fun M9 => nm ((M9.1 0 5) + (1 : Int32)) (fun x10 => nm (u2 M9 0 5 x10) (fun M11 => nm (u2 M11 0 1 (0 : Int32)) (fun M12 => bd (f_X6_trueAll F M12) (fun r13 M14 => some (r13, M14))))))))))))) else (gi ((3 : Int32) * xv1) 12 (gi (((3 : Int32) * xv1) + (1 : Int32)) 12 (nm ((((8 : Int32) * ((M.1 1 ((3 : Int32) * xv1).toNatClampNeg) - (48 : Int32))) + (M.1 1 (((3 : Int32) * xv1) + (1 : Int32)).toNatClampNeg)) - (48 : Int32)) (fun x17 => gi xv1 3 (nm (u2 M 2 xv1.toNatClampNeg x17) (fun M18 => gi xv1 3 (nm (u2 M18 3 xv1.toNatClampNeg (0 : Int32)) (fun M20 => nm (xv1 + (1 : Int32)) (fun x22 => LX6_town_23 F n x22 M20)))))))))) := rfl
set_option maxRecDepth 100000 in
set_option maxHeartbeats 4000000 in
theorem lX6_town_23 {G : KyG} {cy : ClassId} (hG : IsR G cy) {E : KyE} (C : Cx G E cX6_town 2 RX6 (wY yX6_town cX6_town 2 (some .int)) (some .int) rmX6_town) (F : Nat)   : ∀ (n : Nat) (xv1 : Int32) (M : Mem) , Wo G E 2 rI (LX6_town_23 F n xv1 M) M 23 [(0, .ref (gA G 0)), (1, .int xv1)] [] := by
  intro n
  induction n with
  | zero => intro xv1 M ; exact ky_none
  | succ n ih =>
    intro xv1 M 
    rw [LX6_town_23_s]
    refine ky_iload_n C dX6_town_23 1 rfl ?_
    refine ky_iconst C (3 : Int32) dX6_town_24 (by decide) ?_
    refine ky_icmp_ge C 75 dX6_town_25 (by decide) ?_ ?_
    · refine ky_aload_n C dX6_town_75 0 rfl ?_
      refine ky_aload_n C dX6_town_76 0 rfl ?_
      refine ky_get C (ltR hG) (ceR hG) rfl inWX6 0 (by decide) (wY_in tw_3_70) rfl rfl dX6_town_77 ?_
      refine ky_bipush C (9 : Int32) dX6_town_80 (by decide) ?_
      refine ky_iald C (ltA hG ar1) (ceA1 hG) (tR0 hG) dX6_town_82 (fun hx3 => ?_)
      refine ky_bipush C (48 : Int32) dX6_town_83 (by decide) ?_
      refine ky_isub C dX6_town_85 ?_
      refine ky_nmi (fun x4 => ?_)
      refine ky_put C (ltR hG) (ceR hG) rfl inWX6 tyX6_ok nmX6 3 (by decide) (wY_in tw_3_73) ⟨rfl, rfl⟩ (tyX6_ok 3 (by decide)) rfl rfl (Nat.le_of_ble_eq_true rfl) rfl dX6_town_86 (fun M5 => ?_)
      refine ky_aload_n C dX6_town_89 0 rfl ?_
      refine ky_iconst C (1 : Int32) dX6_town_90 (by decide) ?_
      refine ky_put C (ltR hG) (ceR hG) rfl inWX6 tyX6_ok nmX6 2 (by decide) (wY_in tw_3_72) ⟨rfl, rfl⟩ (tyX6_ok 2 (by decide)) (by decide) (by decide) (Nat.le_of_ble_eq_true rfl) rfl dX6_town_91 (fun M6 => ?_)
      refine ky_aload_n C dX6_town_94 0 rfl ?_
      refine ky_iconst C (0 : Int32) dX6_town_95 (by decide) ?_
      refine ky_put C (ltR hG) (ceR hG) rfl inWX6 tyX6_ok nmX6 4 (by decide) (wY_in tw_3_74) ⟨rfl, rfl⟩ (tyX6_ok 4 (by decide)) rfl rfl (Nat.le_of_ble_eq_true rfl) rfl dX6_town_96 (fun M7 => ?_)
      refine ky_aload_n C dX6_town_99 0 rfl ?_
      refine ky_iconst C (0 : Int32) dX6_town_100 (by decide) ?_
      refine ky_put C (ltR hG) (ceR hG) rfl inWX6 tyX6_ok nmX6 8 (by decide) (wY_in tw_3_78) ⟨rfl, rfl⟩ (tyX6_ok 8 (by decide)) rfl rfl (Nat.le_of_ble_eq_true rfl) rfl dX6_town_101 (fun M8 => ?_)
      refine ky_aload_n C dX6_town_104 0 rfl ?_
      refine ky_iconst C (0 : Int32) dX6_town_105 (by decide) ?_
      refine ky_put C (ltR hG) (ceR hG) rfl inWX6 tyX6_ok nmX6 13 (by decide) (wY_in tw_3_83) ⟨rfl, rfl⟩ (tyX6_ok 13 (by decide)) rfl rfl (Nat.le_of_ble_eq_true rfl) rfl dX6_town_106 (fun M9 => ?_)
      refine ky_aload_n C dX6_town_109 0 rfl ?_
      refine ky_dup C dX6_town_110 rfl ?_
      refine ky_get C (ltR hG) (ceR hG) rfl inWX6 5 (by decide) (wY_in tw_3_75) rfl rfl dX6_town_111 ?_
      refine ky_iconst C (1 : Int32) dX6_town_114 (by decide) ?_
      refine ky_iadd C dX6_town_115 ?_
      refine ky_nmi (fun x10 => ?_)
      refine ky_put C (ltR hG) (ceR hG) rfl inWX6 tyX6_ok nmX6 5 (by decide) (wY_in tw_3_75) ⟨rfl, rfl⟩ (tyX6_ok 5 (by decide)) rfl rfl (Nat.le_of_ble_eq_true rfl) rfl dX6_town_116 (fun M11 => ?_)
      refine ky_aload_n C dX6_town_119 0 rfl ?_
      refine ky_iconst C (0 : Int32) dX6_town_120 (by decide) ?_
      refine ky_put C (ltR hG) (ceR hG) rfl inWX6 tyX6_ok nmX6 1 (by decide) (wY_in tw_3_71) ⟨rfl, rfl⟩ (tyX6_ok 1 (by decide)) rfl rfl (Nat.le_of_ble_eq_true rfl) rfl dX6_town_121 (fun M12 => ?_)
      refine ky_aload_n C dX6_town_124 0 rfl ?_
      refine ky_callVi C (c_X6_trueAll hG F M12 ) (ltR hG) (ceR hG) rfl (wY_goodV tw_3_181 tw_3_183 tw_p10 tw_1_7 tw_3_184) hd_X6_trueAll ⟨rfl, rfl, by decide, by decide⟩ rfl rfl (Nat.le_of_ble_eq_true rfl) dX6_town_125 (fun r13 M14 => ?_)
      exact ky_iret C dX6_town_128
    · refine ky_aload_n C dX6_town_28 0 rfl ?_
      refine ky_get C (ltR hG) (ceR hG) rfl inWX6 6 (by decide) (wY_in tw_3_76) rfl rfl dX6_town_29 ?_
      refine ky_iload_n C dX6_town_32 1 rfl ?_
      refine ky_bipush C (8 : Int32) dX6_town_33 (by decide) ?_
      refine ky_aload_n C dX6_town_35 0 rfl ?_
      refine ky_get C (ltR hG) (ceR hG) rfl inWX6 0 (by decide) (wY_in tw_3_70) rfl rfl dX6_town_36 ?_
      refine ky_iconst C (3 : Int32) dX6_town_39 (by decide) ?_
      refine ky_iload_n C dX6_town_40 1 rfl ?_
      refine ky_imul C dX6_town_41 ?_
      refine ky_iald C (ltA hG ar1) (ceA1 hG) (tR0 hG) dX6_town_42 (fun hx15 => ?_)
      refine ky_bipush C (48 : Int32) dX6_town_43 (by decide) ?_
      refine ky_isub C dX6_town_45 ?_
      refine ky_imul C dX6_town_46 ?_
      refine ky_aload_n C dX6_town_47 0 rfl ?_
      refine ky_get C (ltR hG) (ceR hG) rfl inWX6 0 (by decide) (wY_in tw_3_70) rfl rfl dX6_town_48 ?_
      refine ky_iconst C (3 : Int32) dX6_town_51 (by decide) ?_
      refine ky_iload_n C dX6_town_52 1 rfl ?_
      refine ky_imul C dX6_town_53 ?_
      refine ky_iconst C (1 : Int32) dX6_town_54 (by decide) ?_
      refine ky_iadd C dX6_town_55 ?_
      refine ky_iald C (ltA hG ar1) (ceA1 hG) (tR0 hG) dX6_town_56 (fun hx16 => ?_)
      refine ky_iadd C dX6_town_57 ?_
      refine ky_bipush C (48 : Int32) dX6_town_58 (by decide) ?_
      refine ky_isub C dX6_town_60 ?_
      refine ky_nmi (fun x17 => ?_)
      refine ky_iast C (ltA hG ar2) (ceA2 hG) (tR0 hG) dX6_town_61 (fun M18 hx19 => ?_)
      refine ky_aload_n C dX6_town_62 0 rfl ?_
      refine ky_get C (ltR hG) (ceR hG) rfl inWX6 7 (by decide) (wY_in tw_3_77) rfl rfl dX6_town_63 ?_
      refine ky_iload_n C dX6_town_66 1 rfl ?_
      refine ky_iconst C (0 : Int32) dX6_town_67 (by decide) ?_
      refine ky_iast C (ltA hG ar3) (ceA3 hG) (tR0 hG) dX6_town_68 (fun M20 hx21 => ?_)
      refine ky_iinc (lv' := fun x22 => [(1, .int x22), (0, .ref (gA G 0))]) C dX6_town_69 1 rfl (d1 := (1 : Int32)) rfl (by decide) (fun _ => rfl) (fun x22 => ?_)
      refine ky_goto C 23 dX6_town_72 (by decide) ?_
      exact ky_sub [1, 0] rfl (ih x22 M20 )
def f_X6_town (F : Nat)  (M : Mem) : Option (Int32 × Mem) := if (M.1 0 1) = (10 : Int32) then (bd (f_X6_faultOf F M) (fun r1 M2 => if (10 : Int32) ≤ r1 then (LX6_town_23 F  F (0 : Int32) M2) else (some ((mI 103), M2)))) else (some ((mI 103), M))
set_option maxRecDepth 100000 in
set_option maxHeartbeats 4000000 in
theorem c_X6_town {G : KyG} {cy : ClassId} (hG : IsR G cy) (F : Nat)   (M : Mem)  : Ct G yX6_town (wY yX6_town cX6_town 2 (some .int)) rmX6_town rI [.ref (gA G 0)] (f_X6_town F  M) M := by
  refine Ct_of cX6_town 2 (some .int) RX6 hG.2.2.2 (by decide) rfl rfl (Nat.le_of_ble_eq_true rfl) rfl (fun E C => ?_)
  unfold f_X6_town
  refine ky_aload_n C dX6_town_0 0 rfl ?_
  refine ky_get C (ltR hG) (ceR hG) rfl inWX6 1 (by decide) (wY_in tw_3_71) rfl rfl dX6_town_1 ?_
  refine ky_bipush C (10 : Int32) dX6_town_4 (by decide) ?_
  refine ky_icmp_ne C 18 dX6_town_6 (by decide) ?_ ?_
  · refine ky_aload_n C dX6_town_9 0 rfl ?_
    refine ky_callVi C (c_X6_faultOf hG F M ) (ltR hG) (ceR hG) rfl (wY_goodV tw_3_168 tw_3_170 tw_p9 tw_1_7 tw_3_171) hd_X6_faultOf ⟨rfl, rfl, by decide, by decide⟩ rfl rfl (Nat.le_of_ble_eq_true rfl) dX6_town_10 (fun r1 M2 => ?_)
    refine ky_bipush C (10 : Int32) dX6_town_13 (by decide) ?_
    refine ky_icmp_ge C 21 dX6_town_15 (by decide) ?_ ?_
    · refine ky_iconst C (0 : Int32) dX6_town_21 (by decide) ?_
      refine ky_istore_n (lv' := [(1, .int (0 : Int32)), (0, .ref (gA G 0))]) C dX6_town_22 (by decide) rfl ?_
      exact ky_sub [1, 0] rfl (lX6_town_23 hG C F   F (0 : Int32) M2 )
    · refine ky_bipush C (mI 103) dX6_town_18 (by decide) ?_
      exact ky_iret C dX6_town_20
  · refine ky_bipush C (mI 103) dX6_town_18 (by decide) ?_
    exact ky_iret C dX6_town_20
def rmX6_trial : Room := { frames := 2, cells := 0, slots := 0, locals := 46 }
theorem hd_X6_trial : yX6_trial.cls = RX6 ∧ yX6_trial.cls ≠ "java/lang/invoke/MethodHandle" ∧ yX6_trial.cls ≠ "java/lang/invoke/VarHandle" ∧ (parseMethodDescriptor yX6_trial.desc).map (fun d => d.parameters.length) = some 3 := ⟨rfl, by decide, by decide, by decide +kernel⟩
def JX6_trial_77 (F : Nat) (xs0 : Int32) (xs1 : Int32) (M : Mem) : Option (Int32 × Mem) := gi xs1 24 (nm (u2 M 8 xs1.toNatClampNeg xs0) (fun M9 => nm ((M9.1 0 13) + (1 : Int32)) (fun x11 => nm (u2 M9 0 13 x11) (fun M12 => some (M12.1 0 13, M12)))))
set_option maxRecDepth 100000 in
set_option maxHeartbeats 4000000 in
theorem jX6_trial_77 {G : KyG} {cy : ClassId} (hG : IsR G cy) {E : KyE} (C : Cx G E cX6_trial 4 RX6 (wY yX6_trial cX6_trial 4 (some .int)) (some .int) rmX6_trial) (F : Nat) (xs0 : Int32) (xs1 : Int32) (M : Mem)  : Wo G E 4 rI (JX6_trial_77 F xs0 xs1 M) M 77 [(0, .ref (gA G 0))] [.int xs0, .int xs1, .ref (gA G 8)] := by
  unfold JX6_trial_77
  refine ky_iast C (ltA hG ar8) (ceA8 hG) (tR0 hG) dX6_trial_77 (fun M9 hx10 => ?_)
  refine ky_aload_n C dX6_trial_78 0 rfl ?_
  refine ky_dup C dX6_trial_79 rfl ?_
  refine ky_get C (ltR hG) (ceR hG) rfl inWX6 13 (by decide) (wY_in tw_3_83) rfl rfl dX6_trial_80 ?_
  refine ky_iconst C (1 : Int32) dX6_trial_83 (by decide) ?_
  refine ky_iadd C dX6_trial_84 ?_
  refine ky_nmi (fun x11 => ?_)
  refine ky_put C (ltR hG) (ceR hG) rfl inWX6 tyX6_ok nmX6 13 (by decide) (wY_in tw_3_83) ⟨rfl, rfl⟩ (tyX6_ok 13 (by decide)) rfl rfl (Nat.le_of_ble_eq_true rfl) rfl dX6_trial_85 (fun M12 => ?_)
  refine ky_aload_n C dX6_trial_88 0 rfl ?_
  refine ky_get C (ltR hG) (ceR hG) rfl inWX6 13 (by decide) (wY_in tw_3_83) rfl rfl dX6_trial_89 ?_
  exact ky_iret C dX6_trial_92
def f_X6_trial (F : Nat) (a1 : Int32) (a2 : Int32) (a3 : Int32) (M : Mem) : Option (Int32 × Mem) := bd (f_X6_isVictim F a1 M) (fun r1 M2 => if r1 = 0 then (some ((mI 101), M2)) else (bd (f_X6_isSaying F a2 M2) (fun r3 M4 => if r3 = 0 then (some ((mI 101), M4)) else (if (M4.1 0 13) = (8 : Int32) then (some ((mI 104), M4)) else (gi ((3 : Int32) * (M4.1 0 13)) 24 (nm (u2 M4 8 ((3 : Int32) * (M4.1 0 13)).toNatClampNeg a1) (fun M5 => gi (((3 : Int32) * (M5.1 0 13)) + (1 : Int32)) 24 (nm (u2 M5 8 (((3 : Int32) * (M5.1 0 13)) + (1 : Int32)).toNatClampNeg a2) (fun M7 => if a3 = 0 then (JX6_trial_77 F (0 : Int32) (((3 : Int32) * (M7.1 0 13)) + (2 : Int32)) M7) else (JX6_trial_77 F (1 : Int32) (((3 : Int32) * (M7.1 0 13)) + (2 : Int32)) M7))))))))))
set_option maxRecDepth 100000 in
set_option maxHeartbeats 4000000 in
theorem c_X6_trial {G : KyG} {cy : ClassId} (hG : IsR G cy) (F : Nat)  (a1 : Int32) (a2 : Int32) (a3 : Int32) (M : Mem)  : Ct G yX6_trial (wY yX6_trial cX6_trial 4 (some .int)) rmX6_trial rI [.ref (gA G 0), .int a1, .int a2, .int a3] (f_X6_trial F a1 a2 a3 M) M := by
  refine Ct_of cX6_trial 4 (some .int) RX6 hG.2.2.2 (by decide) rfl rfl (Nat.le_of_ble_eq_true rfl) rfl (fun E C => ?_)
  unfold f_X6_trial
  refine ky_aload_n C dX6_trial_0 0 rfl ?_
  refine ky_iload_n C dX6_trial_1 1 rfl ?_
  refine ky_callVi C (c_X6_isVictim hG F a1 M ) (ltR hG) (ceR hG) rfl (wY_goodV tw_3_192 tw_3_194 tw_p11 tw_1_7 tw_3_195) hd_X6_isVictim ⟨rfl, rfl, by decide, by decide⟩ rfl rfl (Nat.le_of_ble_eq_true rfl) dX6_trial_2 (fun r1 M2 => ?_)
  refine ky_if_eq C 15 dX6_trial_5 (by decide) ?_ ?_
  · refine ky_bipush C (mI 101) dX6_trial_15 (by decide) ?_
    exact ky_iret C dX6_trial_17
  · refine ky_iload_n C dX6_trial_8 2 rfl ?_
    refine ky_callSi C (c_X6_isSaying hG F a2 M2 ) (wY_goodS tw_4_6 tw_4_7 tw_1_7 tw_4_8) hd_X6_isSaying ⟨rfl, rfl, by decide, by decide⟩ rfl rfl (Nat.le_of_ble_eq_true rfl) dX6_trial_9 (fun r3 M4 => ?_)
    refine ky_if_ne C 18 dX6_trial_12 (by decide) ?_ ?_
    · refine ky_bipush C (mI 101) dX6_trial_15 (by decide) ?_
      exact ky_iret C dX6_trial_17
    · refine ky_aload_n C dX6_trial_18 0 rfl ?_
      refine ky_get C (ltR hG) (ceR hG) rfl inWX6 13 (by decide) (wY_in tw_3_83) rfl rfl dX6_trial_19 ?_
      refine ky_bipush C (8 : Int32) dX6_trial_22 (by decide) ?_
      refine ky_icmp_ne C 30 dX6_trial_24 (by decide) ?_ ?_
      · refine ky_bipush C (mI 104) dX6_trial_27 (by decide) ?_
        exact ky_iret C dX6_trial_29
      · refine ky_aload_n C dX6_trial_30 0 rfl ?_
        refine ky_get C (ltR hG) (ceR hG) rfl inWX6 14 (by decide) (wY_in tw_3_84) rfl rfl dX6_trial_31 ?_
        refine ky_iconst C (3 : Int32) dX6_trial_34 (by decide) ?_
        refine ky_aload_n C dX6_trial_35 0 rfl ?_
        refine ky_get C (ltR hG) (ceR hG) rfl inWX6 13 (by decide) (wY_in tw_3_83) rfl rfl dX6_trial_36 ?_
        refine ky_imul C dX6_trial_39 ?_
        refine ky_iload_n C dX6_trial_40 1 rfl ?_
        refine ky_iast C (ltA hG ar8) (ceA8 hG) (tR0 hG) dX6_trial_41 (fun M5 hx6 => ?_)
        refine ky_aload_n C dX6_trial_42 0 rfl ?_
        refine ky_get C (ltR hG) (ceR hG) rfl inWX6 14 (by decide) (wY_in tw_3_84) rfl rfl dX6_trial_43 ?_
        refine ky_iconst C (3 : Int32) dX6_trial_46 (by decide) ?_
        refine ky_aload_n C dX6_trial_47 0 rfl ?_
        refine ky_get C (ltR hG) (ceR hG) rfl inWX6 13 (by decide) (wY_in tw_3_83) rfl rfl dX6_trial_48 ?_
        refine ky_imul C dX6_trial_51 ?_
        refine ky_iconst C (1 : Int32) dX6_trial_52 (by decide) ?_
        refine ky_iadd C dX6_trial_53 ?_
        refine ky_iload_n C dX6_trial_54 2 rfl ?_
        refine ky_iast C (ltA hG ar8) (ceA8 hG) (tR0 hG) dX6_trial_55 (fun M7 hx8 => ?_)
        refine ky_aload_n C dX6_trial_56 0 rfl ?_
        refine ky_get C (ltR hG) (ceR hG) rfl inWX6 14 (by decide) (wY_in tw_3_84) rfl rfl dX6_trial_57 ?_
        refine ky_iconst C (3 : Int32) dX6_trial_60 (by decide) ?_
        refine ky_aload_n C dX6_trial_61 0 rfl ?_
        refine ky_get C (ltR hG) (ceR hG) rfl inWX6 13 (by decide) (wY_in tw_3_83) rfl rfl dX6_trial_62 ?_
        refine ky_imul C dX6_trial_65 ?_
        refine ky_iconst C (2 : Int32) dX6_trial_66 (by decide) ?_
        refine ky_iadd C dX6_trial_67 ?_
        refine ky_iload_n C dX6_trial_68 3 rfl ?_
        refine ky_if_eq C 76 dX6_trial_69 (by decide) ?_ ?_
        · refine ky_iconst C (0 : Int32) dX6_trial_76 (by decide) ?_
          exact ky_sub [0] rfl (jX6_trial_77 hG C F (0 : Int32) (((3 : Int32) * (M7.1 0 13)) + (2 : Int32)) M7 )
        · refine ky_iconst C (1 : Int32) dX6_trial_72 (by decide) ?_
          refine ky_goto C 77 dX6_trial_73 (by decide) ?_
          exact ky_sub [0] rfl (jX6_trial_77 hG C F (1 : Int32) (((3 : Int32) * (M7.1 0 13)) + (2 : Int32)) M7 )
def rmX6_truths : Room := { frames := 2, cells := 0, slots := 0, locals := 50 }
theorem hd_X6_truths : yX6_truths.cls = RX6 ∧ yX6_truths.cls ≠ "java/lang/invoke/MethodHandle" ∧ yX6_truths.cls ≠ "java/lang/invoke/VarHandle" ∧ (parseMethodDescriptor yX6_truths.desc).map (fun d => d.parameters.length) = some 2 := ⟨rfl, by decide, by decide, by decide +kernel⟩
def f_X6_truths (F : Nat) (a1 : Int32) (a2 : Int32) (M : Mem) : Option (Int32 × Mem) := bd (f_X6_isVictim F a1 M) (fun r1 M2 => if r1 = 0 then (some ((mI 101), M2)) else (bd (f_X6_in F a2.toInt64 (0 : Int64) (2 : Int64) M2) (fun r3 M4 => if r3 = 0 then (some ((mI 102), M4)) else (bd (f_X6_truthsOf F a1 a2 M4) (fun r5 M6 => some (r5, M6))))))
set_option maxRecDepth 100000 in
set_option maxHeartbeats 4000000 in
theorem c_X6_truths {G : KyG} {cy : ClassId} (hG : IsR G cy) (F : Nat)  (a1 : Int32) (a2 : Int32) (M : Mem)  : Ct G yX6_truths (wY yX6_truths cX6_truths 3 (some .int)) rmX6_truths rI [.ref (gA G 0), .int a1, .int a2] (f_X6_truths F a1 a2 M) M := by
  refine Ct_of cX6_truths 3 (some .int) RX6 hG.2.2.2 (by decide) rfl rfl (Nat.le_of_ble_eq_true rfl) rfl (fun E C => ?_)
  unfold f_X6_truths
  refine ky_aload_n C dX6_truths_0 0 rfl ?_
  refine ky_iload_n C dX6_truths_1 1 rfl ?_
  refine ky_callVi C (c_X6_isVictim hG F a1 M ) (ltR hG) (ceR hG) rfl (wY_goodV tw_3_192 tw_3_194 tw_p11 tw_1_7 tw_3_195) hd_X6_isVictim ⟨rfl, rfl, by decide, by decide⟩ rfl rfl (Nat.le_of_ble_eq_true rfl) dX6_truths_2 (fun r1 M2 => ?_)
  refine ky_if_ne C 11 dX6_truths_5 (by decide) ?_ ?_
  · refine ky_bipush C (mI 101) dX6_truths_8 (by decide) ?_
    exact ky_iret C dX6_truths_10
  · refine ky_iload_n C dX6_truths_11 2 rfl ?_
    refine ky_i2l C dX6_truths_12 ?_
    refine ky_lconst C (0 : Int64) dX6_truths_13 (by decide) ?_
    refine ky_ldc2 C (2 : Int64) (wY_in tw_3_196) dX6_truths_14 ?_
    refine ky_callSi C (c_X6_in hG F a2.toInt64 (0 : Int64) (2 : Int64) M2 ) (wY_goodS tw_3_157 tw_3_158 tw_1_7 tw_3_159) hd_X6_in ⟨rfl, rfl, by decide, by decide⟩ rfl rfl (Nat.le_of_ble_eq_true rfl) dX6_truths_17 (fun r3 M4 => ?_)
    refine ky_if_eq C 32 dX6_truths_20 (by decide) ?_ ?_
    · refine ky_bipush C (mI 102) dX6_truths_32 (by decide) ?_
      exact ky_iret C dX6_truths_34
    · refine ky_aload_n C dX6_truths_23 0 rfl ?_
      refine ky_iload_n C dX6_truths_24 1 rfl ?_
      refine ky_iload_n C dX6_truths_25 2 rfl ?_
      refine ky_callVi C (c_X6_truthsOf hG F a1 a2 M4 ) (ltR hG) (ceR hG) rfl (wY_goodV tw_4_69 tw_4_71 tw_p26 tw_1_7 tw_4_72) hd_X6_truthsOf ⟨rfl, rfl, by decide, by decide⟩ rfl rfl (Nat.le_of_ble_eq_true rfl) dX6_truths_26 (fun r5 M6 => ?_)
      refine ky_goto C 34 dX6_truths_29 (by decide) ?_
      exact ky_iret C dX6_truths_34
def rmX6_victim : Room := { frames := 2, cells := 0, slots := 0, locals := 46 }
theorem hd_X6_victim : yX6_victim.cls = RX6 ∧ yX6_victim.cls ≠ "java/lang/invoke/MethodHandle" ∧ yX6_victim.cls ≠ "java/lang/invoke/VarHandle" ∧ (parseMethodDescriptor yX6_victim.desc).map (fun d => d.parameters.length) = some 2 := ⟨rfl, by decide, by decide, by decide +kernel⟩
def f_X6_victim (F : Nat) (a1 : Int32) (a2 : Int32) (M : Mem) : Option (Int32 × Mem) := bd (f_X6_isVictim F a1 M) (fun r1 M2 => if r1 = 0 then (some ((mI 101), M2)) else (bd (f_X6_tellVictim F a1 a2 M2) (fun r3 M4 => some (r3, M4))))
set_option maxRecDepth 100000 in
set_option maxHeartbeats 4000000 in
theorem c_X6_victim {G : KyG} {cy : ClassId} (hG : IsR G cy) (F : Nat)  (a1 : Int32) (a2 : Int32) (M : Mem)  : Ct G yX6_victim (wY yX6_victim cX6_victim 3 (some .int)) rmX6_victim rI [.ref (gA G 0), .int a1, .int a2] (f_X6_victim F a1 a2 M) M := by
  refine Ct_of cX6_victim 3 (some .int) RX6 hG.2.2.2 (by decide) rfl rfl (Nat.le_of_ble_eq_true rfl) rfl (fun E C => ?_)
  unfold f_X6_victim
  refine ky_aload_n C dX6_victim_0 0 rfl ?_
  refine ky_iload_n C dX6_victim_1 1 rfl ?_
  refine ky_callVi C (c_X6_isVictim hG F a1 M ) (ltR hG) (ceR hG) rfl (wY_goodV tw_3_192 tw_3_194 tw_p11 tw_1_7 tw_3_195) hd_X6_isVictim ⟨rfl, rfl, by decide, by decide⟩ rfl rfl (Nat.le_of_ble_eq_true rfl) dX6_victim_2 (fun r1 M2 => ?_)
  refine ky_if_eq C 17 dX6_victim_5 (by decide) ?_ ?_
  · refine ky_bipush C (mI 101) dX6_victim_17 (by decide) ?_
    exact ky_iret C dX6_victim_19
  · refine ky_aload_n C dX6_victim_8 0 rfl ?_
    refine ky_iload_n C dX6_victim_9 1 rfl ?_
    refine ky_iload_n C dX6_victim_10 2 rfl ?_
    refine ky_callVi C (c_X6_tellVictim hG F a1 a2 M2 ) (ltR hG) (ceR hG) rfl (wY_goodV tw_3_197 tw_3_199 tw_p12 tw_1_7 tw_3_200) hd_X6_tellVictim ⟨rfl, rfl, by decide, by decide⟩ rfl rfl (Nat.le_of_ble_eq_true rfl) dX6_victim_11 (fun r3 M4 => ?_)
    refine ky_goto C 19 dX6_victim_14 (by decide) ?_
    exact ky_iret C dX6_victim_19
def rmX6_weeks : Room := { frames := 2, cells := 0, slots := 0, locals := 49 }
theorem hd_X6_weeks : yX6_weeks.cls = RX6 ∧ yX6_weeks.cls ≠ "java/lang/invoke/MethodHandle" ∧ yX6_weeks.cls ≠ "java/lang/invoke/VarHandle" ∧ (parseMethodDescriptor yX6_weeks.desc).map (fun d => d.parameters.length) = some 3 := ⟨rfl, by decide, by decide, by decide +kernel⟩
def LX6_weeks_89 (F : Nat) (q115 : Int32 → Int32 → Int32 → Int32 → Int32 → Mem → Option (Int32 × Mem)) : Nat → Int32 → Int32 → Int32 → Int32 → Int32 → Int32 → Mem → Option (Int32 × Mem)
  | 0, _, _, _, _, _, _, _ => none
  | n + 1, xv1, xv3, xv4, xv5, xv6, xv7, M => if (M.1 0 8) ≤ xv7 then (q115 xv1 xv3 xv4 xv5 xv6 M) else (bd (f_X6_dayOf F xv7 M) (fun r18 M19 => nm (xv5 + r18) (fun x20 => nm (xv7 + (1 : Int32)) (fun x21 => LX6_weeks_89 F q115 n xv1 xv3 xv4 x20 xv6 x21 M19))))
theorem LX6_weeks_89_s (F : Nat) (q115 : Int32 → Int32 → Int32 → Int32 → Int32 → Mem → Option (Int32 × Mem)) (n : Nat) (xv1 : Int32) (xv3 : Int32) (xv4 : Int32) (xv5 : Int32) (xv6 : Int32) (xv7 : Int32) (M : Mem) : LX6_weeks_89 F q115 (n + 1) xv1 xv3 xv4 xv5 xv6 xv7 M = (if (M.1 0 8) ≤ xv7 then (q115 xv1 xv3 xv4 xv5 xv6 M) else (bd (f_X6_dayOf F xv7 M) (fun r18 M19 => nm (xv5 + r18) (fun x20 => nm (xv7 + (1 : Int32)) (fun x21 => LX6_weeks_89 F q115 n xv1 xv3 xv4 x20 xv6 x21 M19))))) := rfl
set_option maxRecDepth 100000 in
set_option maxHeartbeats 4000000 in
theorem lX6_weeks_89 {G : KyG} {cy : ClassId} (hG : IsR G cy) {E : KyE} (C : Cx G E cX6_weeks 8 RX6 (wY yX6_weeks cX6_weeks 8 (some .int)) (some .int) rmX6_weeks) (F : Nat) (q115 : Int32 → Int32 → Int32 → Int32 → Int32 → Mem → Option (Int32 × Mem)) (hq115 : ∀ (xv1 : Int32) (xv3 : Int32) (xv4 : Int32) (xv5 : Int32) (xv6 : Int32) (M : Mem) , Wo G E 8 rI (q115 xv1 xv3 xv4 xv5 xv6 M) M 115 [(0, .ref (gA G 0)), (1, .int xv1), (3, .int xv3), (4, .int xv4), (5, .int xv5), (6, .int xv6)] []) : ∀ (n : Nat) (xv1 : Int32) (xv3 : Int32) (xv4 : Int32) (xv5 : Int32) (xv6 : Int32) (xv7 : Int32) (M : Mem) , Wo G E 8 rI (LX6_weeks_89 F q115 n xv1 xv3 xv4 xv5 xv6 xv7 M) M 89 [(0, .ref (gA G 0)), (1, .int xv1), (3, .int xv3), (4, .int xv4), (5, .int xv5), (6, .int xv6), (7, .int xv7)] [] := by
  intro n
  induction n with
  | zero => intro xv1 xv3 xv4 xv5 xv6 xv7 M ; exact ky_none
  | succ n ih =>
    intro xv1 xv3 xv4 xv5 xv6 xv7 M 
    rw [LX6_weeks_89_s]
    refine ky_iload C dX6_weeks_89 6 rfl ?_
    refine ky_aload_n C dX6_weeks_91 0 rfl ?_
    refine ky_get C (ltR hG) (ceR hG) rfl inWX6 8 (by decide) (wY_in tw_3_78) rfl rfl dX6_weeks_92 ?_
    refine ky_icmp_ge C 115 dX6_weeks_95 (by decide) ?_ ?_
    · exact ky_sub [0, 1, 2, 3, 4, 5] rfl (hq115 xv1 xv3 xv4 xv5 xv6 M )
    · refine ky_iload C dX6_weeks_98 4 rfl ?_
      refine ky_aload_n C dX6_weeks_100 0 rfl ?_
      refine ky_iload C dX6_weeks_101 6 rfl ?_
      refine ky_callVi C (c_X6_dayOf hG F xv7 M ) (ltR hG) (ceR hG) rfl (wY_goodV tw_4_90 tw_4_92 tw_p29 tw_1_7 tw_4_93) hd_X6_dayOf ⟨rfl, rfl, by decide, by decide⟩ rfl rfl (Nat.le_of_ble_eq_true rfl) dX6_weeks_103 (fun r18 M19 => ?_)
      refine ky_iadd C dX6_weeks_106 ?_
      refine ky_nmi (fun x20 => ?_)
      refine ky_istore (lv' := [(5, .int x20), (0, .ref (gA G 0)), (1, .int xv1), (3, .int xv3), (4, .int xv4), (6, .int xv6), (7, .int xv7)]) C dX6_weeks_107 (by decide) rfl ?_
      refine ky_iinc (lv' := fun x21 => [(7, .int x21), (5, .int x20), (0, .ref (gA G 0)), (1, .int xv1), (3, .int xv3), (4, .int xv4), (6, .int xv6)]) C dX6_weeks_109 6 rfl (d1 := (1 : Int32)) rfl (by decide) (fun _ => rfl) (fun x21 => ?_)
      refine ky_goto C 89 dX6_weeks_112 (by decide) ?_
      exact ky_sub [2, 3, 4, 5, 1, 6, 0] rfl (ih xv1 xv3 xv4 x20 xv6 x21 M19 )
def LX6_weeks_80 (F : Nat)  : Nat → Int32 → Int32 → Int32 → Int32 → Int32 → Mem → Option (Int32 × Mem)
  | 0, _, _, _, _, _, _ => none
  | n + 1, xv1, xv3, xv4, xv5, xv6, M => if xv1 ≤ xv6 then (bd (f_X6_paidMany F M) (fun r11 M12 => bd (f_X6_copy F 9 4 M12) (fun r13 M14 => bd (f_X6_copy F 10 3 M14) (fun r15 M16 => nm (u2 M16 0 3 xv4) (fun M17 => if xv3 = 0 then (some (xv5, M17)) else (if xv3 = (1 : Int32) then (some (r11, M17)) else (some (M17.1 0 15, M17)))))))) else (LX6_weeks_89 F (fun y23 y24 y25 y26 y27 M22 => bd (f_X6_sleep F M22) (fun r28 M29 => nm (y27 + (1 : Int32)) (fun x30 => LX6_weeks_80 F n y23 y24 y25 y26 x30 M29))) F xv1 xv3 xv4 xv5 xv6 (0 : Int32) M)
theorem LX6_weeks_80_s (F : Nat)  (n : Nat) (xv1 : Int32) (xv3 : Int32) (xv4 : Int32) (xv5 : Int32) (xv6 : Int32) (M : Mem) : LX6_weeks_80 F (n + 1) xv1 xv3 xv4 xv5 xv6 M = (if xv1 ≤ xv6 then (bd (f_X6_paidMany F M) (fun r11 M12 => bd (f_X6_copy F 9 4 M12) (fun r13 M14 => bd (f_X6_copy F 10 3 M14) (fun r15 M16 => nm (u2 M16 0 3 xv4) (fun M17 => if xv3 = 0 then (some (xv5, M17)) else (if xv3 = (1 : Int32) then (some (r11, M17)) else (some (M17.1 0 15, M17)))))))) else (LX6_weeks_89 F (fun y23 y24 y25 y26 y27 M22 => bd (f_X6_sleep F M22) (fun r28 M29 => nm (y27 + (1 : Int32)) (fun x30 => LX6_weeks_80 F n y23 y24 y25 y26 x30 M29))) F xv1 xv3 xv4 xv5 xv6 (0 : Int32) M)) := rfl
set_option maxRecDepth 100000 in
set_option maxHeartbeats 4000000 in
theorem lX6_weeks_80 {G : KyG} {cy : ClassId} (hG : IsR G cy) {E : KyE} (C : Cx G E cX6_weeks 8 RX6 (wY yX6_weeks cX6_weeks 8 (some .int)) (some .int) rmX6_weeks) (F : Nat)   : ∀ (n : Nat) (xv1 : Int32) (xv3 : Int32) (xv4 : Int32) (xv5 : Int32) (xv6 : Int32) (M : Mem) , Wo G E 8 rI (LX6_weeks_80 F n xv1 xv3 xv4 xv5 xv6 M) M 80 [(0, .ref (gA G 0)), (1, .int xv1), (3, .int xv3), (4, .int xv4), (5, .int xv5), (6, .int xv6)] [] := by
  intro n
  induction n with
  | zero => intro xv1 xv3 xv4 xv5 xv6 M ; exact ky_none
  | succ n ih =>
    intro xv1 xv3 xv4 xv5 xv6 M 
    rw [LX6_weeks_80_s]
    refine ky_iload C dX6_weeks_80 5 rfl ?_
    refine ky_iload_n C dX6_weeks_82 1 rfl ?_
    refine ky_icmp_ge C 125 dX6_weeks_83 (by decide) ?_ ?_
    · refine ky_aload_n C dX6_weeks_125 0 rfl ?_
      refine ky_callVi C (c_X6_paidMany hG F M ) (ltR hG) (ceR hG) rfl (wY_goodV tw_4_102 tw_4_104 tw_p31 tw_1_7 tw_4_105) hd_X6_paidMany ⟨rfl, rfl, by decide, by decide⟩ rfl rfl (Nat.le_of_ble_eq_true rfl) dX6_weeks_126 (fun r11 M12 => ?_)
      refine ky_istore (lv' := [(6, .int r11), (0, .ref (gA G 0)), (1, .int xv1), (3, .int xv3), (4, .int xv4), (5, .int xv5)]) C dX6_weeks_129 (by decide) rfl ?_
      refine ky_aload_n C dX6_weeks_131 1 rfl ?_
      refine ky_get C (ltR hG) (ceR hG) rfl inWX6 16 (by decide) (wY_in tw_3_86) rfl rfl dX6_weeks_132 ?_
      refine ky_aload_n C dX6_weeks_135 1 rfl ?_
      refine ky_get C (ltR hG) (ceR hG) rfl inWX6 9 (by decide) (wY_in tw_3_79) rfl rfl dX6_weeks_136 ?_
      refine ky_callSv C (c_X6_copy hG F 9 4 M12 ar9 ar4) (wY_goodS tw_4_46 tw_4_47 tw_1_7 tw_4_48) hd_X6_copy ⟨rfl, rfl, by decide, by decide⟩ rfl rfl (Nat.le_of_ble_eq_true rfl) dX6_weeks_139 (fun r13 M14 => ?_)
      refine ky_aload_n C dX6_weeks_142 1 rfl ?_
      refine ky_get C (ltR hG) (ceR hG) rfl inWX6 17 (by decide) (wY_in tw_3_87) rfl rfl dX6_weeks_143 ?_
      refine ky_aload_n C dX6_weeks_146 1 rfl ?_
      refine ky_get C (ltR hG) (ceR hG) rfl inWX6 7 (by decide) (wY_in tw_3_77) rfl rfl dX6_weeks_147 ?_
      refine ky_callSv C (c_X6_copy hG F 10 3 M14 ar10 ar3) (wY_goodS tw_4_46 tw_4_47 tw_1_7 tw_4_48) hd_X6_copy ⟨rfl, rfl, by decide, by decide⟩ rfl rfl (Nat.le_of_ble_eq_true rfl) dX6_weeks_150 (fun r15 M16 => ?_)
      refine ky_aload_n C dX6_weeks_153 1 rfl ?_
      refine ky_iload C dX6_weeks_154 4 rfl ?_
      refine ky_put C (ltR hG) (ceR hG) rfl inWX6 tyX6_ok nmX6 3 (by decide) (wY_in tw_3_73) ⟨rfl, rfl⟩ (tyX6_ok 3 (by decide)) rfl rfl (Nat.le_of_ble_eq_true rfl) rfl dX6_weeks_156 (fun M17 => ?_)
      refine ky_iload_n C dX6_weeks_159 3 rfl ?_
      refine ky_if_ne C 168 dX6_weeks_160 (by decide) ?_ ?_
      · refine ky_iload C dX6_weeks_163 5 rfl ?_
        refine ky_goto C 182 dX6_weeks_165 (by decide) ?_
        exact ky_iret C dX6_weeks_182
      · refine ky_iload_n C dX6_weeks_168 3 rfl ?_
        refine ky_iconst C (1 : Int32) dX6_weeks_169 (by decide) ?_
        refine ky_icmp_ne C 178 dX6_weeks_170 (by decide) ?_ ?_
        · refine ky_iload C dX6_weeks_173 0 rfl ?_
          refine ky_goto C 182 dX6_weeks_175 (by decide) ?_
          exact ky_iret C dX6_weeks_182
        · refine ky_aload_n C dX6_weeks_178 1 rfl ?_
          refine ky_get C (ltR hG) (ceR hG) rfl inWX6 15 (by decide) (wY_in tw_3_85) rfl rfl dX6_weeks_179 ?_
          exact ky_iret C dX6_weeks_182
    · refine ky_iconst C (0 : Int32) dX6_weeks_86 (by decide) ?_
      refine ky_istore (lv' := [(7, .int (0 : Int32)), (0, .ref (gA G 0)), (1, .int xv1), (3, .int xv3), (4, .int xv4), (5, .int xv5), (6, .int xv6)]) C dX6_weeks_87 (by decide) rfl ?_
      refine ky_sub [1, 2, 3, 4, 5, 6, 0] rfl (lX6_weeks_89 hG C F _ ?_ F xv1 xv3 xv4 xv5 xv6 (0 : Int32) M )
      · intro y23 y24 y25 y26 y27 M22 
        refine ky_aload_n C dX6_weeks_115 0 rfl ?_
        refine ky_callVv C (c_X6_sleep hG F M22 ) (ltR hG) (ceR hG) rfl (wY_goodV tw_4_26 tw_4_28 tw_p21 tw_1_7 tw_4_29) hd_X6_sleep ⟨rfl, rfl, by decide, by decide⟩ rfl rfl (Nat.le_of_ble_eq_true rfl) dX6_weeks_116 (fun r28 M29 => ?_)
        refine ky_iinc (lv' := fun x30 => [(6, .int x30), (0, .ref (gA G 0)), (1, .int y23), (3, .int y24), (4, .int y25), (5, .int y26)]) C dX6_weeks_119 5 rfl (d1 := (1 : Int32)) rfl (by decide) (fun _ => rfl) (fun x30 => ?_)
        refine ky_goto C 80 dX6_weeks_122 (by decide) ?_
        exact ky_sub [1, 2, 3, 4, 5, 0] rfl (ih y23 y24 y25 y26 x30 M29 )
def f_X6_weeks (F : Nat) (a1 : Int32) (a2 : Int32) (a3 : Int32) (M : Mem) : Option (Int32 × Mem) := bd (f_X6_in F a1.toInt64 (1 : Int64) (40 : Int64) M) (fun r1 M2 => if r1 = 0 then (some ((mI 102), M2)) else (if a2 < 0 then (some ((mI 102), M2)) else (bd (f_X6_in F a3.toInt64 (0 : Int64) (2 : Int64) M2) (fun r3 M4 => if r3 = 0 then (some ((mI 102), M4)) else (if (M4.1 0 8) = 0 then (some ((mI 103), M4)) else (bd (f_X6_copy F 4 9 M4) (fun r5 M6 => bd (f_X6_copy F 3 10 M6) (fun r7 M8 => nm (M8.1 0 3) (fun x9 => nm (u2 M8 0 15 a2) (fun M10 => LX6_weeks_80 F  F a1 a3 x9 (0 : Int32) (0 : Int32) M10))))))))))
set_option maxRecDepth 100000 in
set_option maxHeartbeats 4000000 in
theorem c_X6_weeks {G : KyG} {cy : ClassId} (hG : IsR G cy) (F : Nat)  (a1 : Int32) (a2 : Int32) (a3 : Int32) (M : Mem)  : Ct G yX6_weeks (wY yX6_weeks cX6_weeks 8 (some .int)) rmX6_weeks rI [.ref (gA G 0), .int a1, .int a2, .int a3] (f_X6_weeks F a1 a2 a3 M) M := by
  refine Ct_of cX6_weeks 8 (some .int) RX6 hG.2.2.2 (by decide) rfl rfl (Nat.le_of_ble_eq_true rfl) rfl (fun E C => ?_)
  unfold f_X6_weeks
  refine ky_iload_n C dX6_weeks_0 1 rfl ?_
  refine ky_i2l C dX6_weeks_1 ?_
  refine ky_lconst C (1 : Int64) dX6_weeks_2 (by decide) ?_
  refine ky_ldc2 C (40 : Int64) (wY_in tw_4_89) dX6_weeks_3 ?_
  refine ky_callSi C (c_X6_in hG F a1.toInt64 (1 : Int64) (40 : Int64) M ) (wY_goodS tw_3_157 tw_3_158 tw_1_7 tw_3_159) hd_X6_in ⟨rfl, rfl, by decide, by decide⟩ rfl rfl (Nat.le_of_ble_eq_true rfl) dX6_weeks_6 (fun r1 M2 => ?_)
  refine ky_if_eq C 28 dX6_weeks_9 (by decide) ?_ ?_
  · refine ky_bipush C (mI 102) dX6_weeks_28 (by decide) ?_
    exact ky_iret C dX6_weeks_30
  · refine ky_iload_n C dX6_weeks_12 2 rfl ?_
    refine ky_if_lt C 28 dX6_weeks_13 (by decide) ?_ ?_
    · refine ky_bipush C (mI 102) dX6_weeks_28 (by decide) ?_
      exact ky_iret C dX6_weeks_30
    · refine ky_iload_n C dX6_weeks_16 3 rfl ?_
      refine ky_i2l C dX6_weeks_17 ?_
      refine ky_lconst C (0 : Int64) dX6_weeks_18 (by decide) ?_
      refine ky_ldc2 C (2 : Int64) (wY_in tw_3_196) dX6_weeks_19 ?_
      refine ky_callSi C (c_X6_in hG F a3.toInt64 (0 : Int64) (2 : Int64) M2 ) (wY_goodS tw_3_157 tw_3_158 tw_1_7 tw_3_159) hd_X6_in ⟨rfl, rfl, by decide, by decide⟩ rfl rfl (Nat.le_of_ble_eq_true rfl) dX6_weeks_22 (fun r3 M4 => ?_)
      refine ky_if_ne C 31 dX6_weeks_25 (by decide) ?_ ?_
      · refine ky_bipush C (mI 102) dX6_weeks_28 (by decide) ?_
        exact ky_iret C dX6_weeks_30
      · refine ky_aload_n C dX6_weeks_31 0 rfl ?_
        refine ky_get C (ltR hG) (ceR hG) rfl inWX6 8 (by decide) (wY_in tw_3_78) rfl rfl dX6_weeks_32 ?_
        refine ky_if_ne C 41 dX6_weeks_35 (by decide) ?_ ?_
        · refine ky_bipush C (mI 103) dX6_weeks_38 (by decide) ?_
          exact ky_iret C dX6_weeks_40
        · refine ky_aload_n C dX6_weeks_41 0 rfl ?_
          refine ky_get C (ltR hG) (ceR hG) rfl inWX6 9 (by decide) (wY_in tw_3_79) rfl rfl dX6_weeks_42 ?_
          refine ky_aload_n C dX6_weeks_45 0 rfl ?_
          refine ky_get C (ltR hG) (ceR hG) rfl inWX6 16 (by decide) (wY_in tw_3_86) rfl rfl dX6_weeks_46 ?_
          refine ky_callSv C (c_X6_copy hG F 4 9 M4 ar4 ar9) (wY_goodS tw_4_46 tw_4_47 tw_1_7 tw_4_48) hd_X6_copy ⟨rfl, rfl, by decide, by decide⟩ rfl rfl (Nat.le_of_ble_eq_true rfl) dX6_weeks_49 (fun r5 M6 => ?_)
          refine ky_aload_n C dX6_weeks_52 0 rfl ?_
          refine ky_get C (ltR hG) (ceR hG) rfl inWX6 7 (by decide) (wY_in tw_3_77) rfl rfl dX6_weeks_53 ?_
          refine ky_aload_n C dX6_weeks_56 0 rfl ?_
          refine ky_get C (ltR hG) (ceR hG) rfl inWX6 17 (by decide) (wY_in tw_3_87) rfl rfl dX6_weeks_57 ?_
          refine ky_callSv C (c_X6_copy hG F 3 10 M6 ar3 ar10) (wY_goodS tw_4_46 tw_4_47 tw_1_7 tw_4_48) hd_X6_copy ⟨rfl, rfl, by decide, by decide⟩ rfl rfl (Nat.le_of_ble_eq_true rfl) dX6_weeks_60 (fun r7 M8 => ?_)
          refine ky_aload_n C dX6_weeks_63 0 rfl ?_
          refine ky_get C (ltR hG) (ceR hG) rfl inWX6 3 (by decide) (wY_in tw_3_73) rfl rfl dX6_weeks_64 ?_
          refine ky_nmi (fun x9 => ?_)
          refine ky_istore (lv' := [(4, .int x9), (0, .ref (gA G 0)), (1, .int a1), (2, .int a2), (3, .int a3)]) C dX6_weeks_67 (by decide) rfl ?_
          refine ky_aload_n C dX6_weeks_69 1 rfl ?_
          refine ky_iload_n C dX6_weeks_70 3 rfl ?_
          refine ky_put C (ltR hG) (ceR hG) rfl inWX6 tyX6_ok nmX6 15 (by decide) (wY_in tw_3_85) ⟨rfl, rfl⟩ (tyX6_ok 15 (by decide)) rfl rfl (Nat.le_of_ble_eq_true rfl) rfl dX6_weeks_71 (fun M10 => ?_)
          refine ky_iconst C (0 : Int32) dX6_weeks_74 (by decide) ?_
          refine ky_istore (lv' := [(5, .int (0 : Int32)), (4, .int x9), (0, .ref (gA G 0)), (1, .int a1), (2, .int a2), (3, .int a3)]) C dX6_weeks_75 (by decide) rfl ?_
          refine ky_iconst C (0 : Int32) dX6_weeks_77 (by decide) ?_
          refine ky_istore (lv' := [(6, .int (0 : Int32)), (5, .int (0 : Int32)), (4, .int x9), (0, .ref (gA G 0)), (1, .int a1), (2, .int a2), (3, .int a3)]) C dX6_weeks_78 (by decide) rfl ?_
          exact ky_sub [3, 4, 6, 2, 1, 0] rfl (lX6_weeks_80 hG C F   F a1 a3 x9 (0 : Int32) (0 : Int32) M10 )
def rmX6_who : Room := { frames := 3, cells := 0, slots := 0, locals := 73 }
theorem hd_X6_who : yX6_who.cls = RX6 ∧ yX6_who.cls ≠ "java/lang/invoke/MethodHandle" ∧ yX6_who.cls ≠ "java/lang/invoke/VarHandle" ∧ (parseMethodDescriptor yX6_who.desc).map (fun d => d.parameters.length) = some 2 := ⟨rfl, by decide, by decide, by decide +kernel⟩
def f_X6_who (F : Nat) (a1 : Int32) (a2 : Int32) (M : Mem) : Option (Int32 × Mem) := bd (f_X6_isVictim F a1 M) (fun r1 M2 => if r1 = 0 then (some ((mI 101), M2)) else (bd (f_X6_isSaying F a2 M2) (fun r3 M4 => if r3 = 0 then (some ((mI 101), M4)) else (bd (f_X6_layMost F a1 M4) (fun r5 M6 => gi a2 6 (some ((M6.1 6 a2.toNatClampNeg) - (1 : Int32), M6)))))))
set_option maxRecDepth 100000 in
set_option maxHeartbeats 4000000 in
theorem c_X6_who {G : KyG} {cy : ClassId} (hG : IsR G cy) (F : Nat)  (a1 : Int32) (a2 : Int32) (M : Mem)  : Ct G yX6_who (wY yX6_who cX6_who 4 (some .int)) rmX6_who rI [.ref (gA G 0), .int a1, .int a2] (f_X6_who F a1 a2 M) M := by
  refine Ct_of cX6_who 4 (some .int) RX6 hG.2.2.2 (by decide) rfl rfl (Nat.le_of_ble_eq_true rfl) rfl (fun E C => ?_)
  unfold f_X6_who
  refine ky_aload_n C dX6_who_0 0 rfl ?_
  refine ky_iload_n C dX6_who_1 1 rfl ?_
  refine ky_callVi C (c_X6_isVictim hG F a1 M ) (ltR hG) (ceR hG) rfl (wY_goodV tw_3_192 tw_3_194 tw_p11 tw_1_7 tw_3_195) hd_X6_isVictim ⟨rfl, rfl, by decide, by decide⟩ rfl rfl (Nat.le_of_ble_eq_true rfl) dX6_who_2 (fun r1 M2 => ?_)
  refine ky_if_eq C 15 dX6_who_5 (by decide) ?_ ?_
  · refine ky_bipush C (mI 101) dX6_who_15 (by decide) ?_
    exact ky_iret C dX6_who_17
  · refine ky_iload_n C dX6_who_8 2 rfl ?_
    refine ky_callSi C (c_X6_isSaying hG F a2 M2 ) (wY_goodS tw_4_6 tw_4_7 tw_1_7 tw_4_8) hd_X6_isSaying ⟨rfl, rfl, by decide, by decide⟩ rfl rfl (Nat.le_of_ble_eq_true rfl) dX6_who_9 (fun r3 M4 => ?_)
    refine ky_if_ne C 18 dX6_who_12 (by decide) ?_ ?_
    · refine ky_bipush C (mI 101) dX6_who_15 (by decide) ?_
      exact ky_iret C dX6_who_17
    · refine ky_aload_n C dX6_who_18 0 rfl ?_
      refine ky_iload_n C dX6_who_19 1 rfl ?_
      refine ky_callVi C (c_X6_layMost hG F a1 M4 ) (ltR hG) (ceR hG) rfl (wY_goodV tw_4_38 tw_4_40 tw_p23 tw_1_7 tw_4_41) hd_X6_layMost ⟨rfl, rfl, by decide, by decide⟩ rfl rfl (Nat.le_of_ble_eq_true rfl) dX6_who_20 (fun r5 M6 => ?_)
      refine ky_istore_n (lv' := [(3, .int r5), (0, .ref (gA G 0)), (1, .int a1), (2, .int a2)]) C dX6_who_23 (by decide) rfl ?_
      refine ky_aload_n C dX6_who_24 1 rfl ?_
      refine ky_get C (ltR hG) (ceR hG) rfl inWX6 11 (by decide) (wY_in tw_3_81) rfl rfl dX6_who_25 ?_
      refine ky_iload_n C dX6_who_28 3 rfl ?_
      refine ky_iald C (ltA hG ar6) (ceA6 hG) (tR0 hG) dX6_who_29 (fun hx7 => ?_)
      refine ky_iconst C (1 : Int32) dX6_who_30 (by decide) ?_
      refine ky_isub C dX6_who_31 ?_
      exact ky_iret C dX6_who_32
