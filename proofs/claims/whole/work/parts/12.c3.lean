def rmX1_mostAmong : Room := { frames := 1, cells := 0, slots := 0, locals := 30 }
theorem hd_X1_mostAmong : yX1_mostAmong.cls = RX1 ∧ yX1_mostAmong.cls ≠ "java/lang/invoke/MethodHandle" ∧ yX1_mostAmong.cls ≠ "java/lang/invoke/VarHandle" ∧ (parseMethodDescriptor yX1_mostAmong.desc).map (fun d => d.parameters.length) = some 1 := ⟨rfl, by decide, by decide, by decide +kernel⟩
def LX1_mostAmong_24 (F : Nat) (q77 : Int32 → Int32 → Int32 → Int32 → Int32 → Mem → Option (Int32 × Mem)) : Nat → Int32 → Int32 → Int32 → Int32 → Int32 → Int32 → Mem → Option (Int32 × Mem)
  | 0, _, _, _, _, _, _, _ => none
  | n + 1, xv1, xv2, xv3, xv4, xv5, xv6, M => if (M.1 3 2) ≤ xv6 then (q77 xv1 xv2 xv3 xv4 xv5 M) else (if (xv3 &&& ((1 : Int32) <<< (xv6 &&& 31))) = 0 then (gi xv6 4 (nm (xv5 ||| ((M.1 5 xv6.toNatClampNeg) &&& xv1)) (fun x2 => nm (xv6 + (1 : Int32)) (fun x3 => LX1_mostAmong_24 F q77 n xv1 xv2 xv3 xv4 x2 x3 M)))) else (gi xv6 4 (nm (xv4 + (M.1 4 xv6.toNatClampNeg)) (fun x5 => nm (xv6 + (1 : Int32)) (fun x6 => LX1_mostAmong_24 F q77 n xv1 xv2 xv3 x5 xv5 x6 M)))))
theorem LX1_mostAmong_24_s (F : Nat) (q77 : Int32 → Int32 → Int32 → Int32 → Int32 → Mem → Option (Int32 × Mem)) (n : Nat) (xv1 : Int32) (xv2 : Int32) (xv3 : Int32) (xv4 : Int32) (xv5 : Int32) (xv6 : Int32) (M : Mem) : LX1_mostAmong_24 F q77 (n + 1) xv1 xv2 xv3 xv4 xv5 xv6 M = (if (M.1 3 2) ≤ xv6 then (q77 xv1 xv2 xv3 xv4 xv5 M) else (if (xv3 &&& ((1 : Int32) <<< (xv6 &&& 31))) = 0 then (gi xv6 4 (nm (xv5 ||| ((M.1 5 xv6.toNatClampNeg) &&& xv1)) (fun x2 => nm (xv6 + (1 : Int32)) (fun x3 => LX1_mostAmong_24 F q77 n xv1 xv2 xv3 xv4 x2 x3 M)))) else (gi xv6 4 (nm (xv4 + (M.1 4 xv6.toNatClampNeg)) (fun x5 => nm (xv6 + (1 : Int32)) (fun x6 => LX1_mostAmong_24 F q77 n xv1 xv2 xv3 x5 xv5 x6 M)))))) := rfl
set_option maxRecDepth 100000 in
set_option maxHeartbeats 4000000 in
theorem lX1_mostAmong_24 {G : KyG} {cy : Nat → ClassId} (hG : IsC G cy) {E : KyE} (C : Cx G E cX1_mostAmong 7 RX1 (wY yX1_mostAmong cX1_mostAmong 7 (some .int)) (some .int) rmX1_mostAmong) (F : Nat) (q77 : Int32 → Int32 → Int32 → Int32 → Int32 → Mem → Option (Int32 × Mem)) (hq77 : ∀ (xv1 : Int32) (xv2 : Int32) (xv3 : Int32) (xv4 : Int32) (xv5 : Int32) (M : Mem) , Wo G E 7 rI (q77 xv1 xv2 xv3 xv4 xv5 M) M 77 [(0, .ref (gA G 3)), (1, .int xv1), (2, .int xv2), (3, .int xv3), (4, .int xv4), (5, .int xv5)] []) : ∀ (n : Nat) (xv1 : Int32) (xv2 : Int32) (xv3 : Int32) (xv4 : Int32) (xv5 : Int32) (xv6 : Int32) (M : Mem) , Wo G E 7 rI (LX1_mostAmong_24 F q77 n xv1 xv2 xv3 xv4 xv5 xv6 M) M 24 [(0, .ref (gA G 3)), (1, .int xv1), (2, .int xv2), (3, .int xv3), (4, .int xv4), (5, .int xv5), (6, .int xv6)] [] := by
  intro n
  induction n with
  | zero => intro xv1 xv2 xv3 xv4 xv5 xv6 M ; exact ky_none
  | succ n ih =>
    intro xv1 xv2 xv3 xv4 xv5 xv6 M 
    rw [LX1_mostAmong_24_s]
    refine ky_iload C dX1_mostAmong_24 6 rfl ?_
    refine ky_aload_n C dX1_mostAmong_26 0 rfl ?_
    refine ky_get C (ltS hG) (ceS hG) rfl inWX1 2 (by decide) (wY_in tw_1_151) rfl rfl dX1_mostAmong_27 ?_
    refine ky_icmp_ge C 77 dX1_mostAmong_30 (by decide) ?_ ?_
    · exact ky_sub [0, 1, 2, 3, 4, 5] rfl (hq77 xv1 xv2 xv3 xv4 xv5 M )
    · refine ky_iload_n C dX1_mostAmong_33 3 rfl ?_
      refine ky_iconst C (1 : Int32) dX1_mostAmong_34 (by decide) ?_
      refine ky_iload C dX1_mostAmong_35 6 rfl ?_
      refine ky_ishl C dX1_mostAmong_37 ?_
      refine ky_iand C dX1_mostAmong_38 ?_
      refine ky_if_eq C 57 dX1_mostAmong_39 (by decide) ?_ ?_
      · refine ky_iload C dX1_mostAmong_57 5 rfl ?_
        refine ky_aload_n C dX1_mostAmong_59 0 rfl ?_
        refine ky_get C (ltS hG) (ceS hG) rfl inWX1 1 (by decide) (wY_in tw_1_150) rfl rfl dX1_mostAmong_60 ?_
        refine ky_iload C dX1_mostAmong_63 6 rfl ?_
        refine ky_iald C (ltF hG) (ceF hG) (tC1 hG) dX1_mostAmong_65 (fun hx1 => ?_)
        refine ky_iload_n C dX1_mostAmong_66 1 rfl ?_
        refine ky_iand C dX1_mostAmong_67 ?_
        refine ky_ior C dX1_mostAmong_68 ?_
        refine ky_nmi (fun x2 => ?_)
        refine ky_istore (lv' := [(5, .int x2), (0, .ref (gA G 3)), (1, .int xv1), (2, .int xv2), (3, .int xv3), (4, .int xv4), (6, .int xv6)]) C dX1_mostAmong_69 (by decide) rfl ?_
        refine ky_iinc (lv' := fun x3 => [(6, .int x3), (5, .int x2), (0, .ref (gA G 3)), (1, .int xv1), (2, .int xv2), (3, .int xv3), (4, .int xv4)]) C dX1_mostAmong_71 6 rfl (d1 := (1 : Int32)) rfl (by decide) (fun _ => rfl) (fun x3 => ?_)
        refine ky_goto C 24 dX1_mostAmong_74 (by decide) ?_
        exact ky_sub [2, 3, 4, 5, 6, 1, 0] rfl (ih xv1 xv2 xv3 xv4 x2 x3 M )
      · refine ky_iload C dX1_mostAmong_42 4 rfl ?_
        refine ky_aload_n C dX1_mostAmong_44 0 rfl ?_
        refine ky_get C (ltS hG) (ceS hG) rfl inWX1 0 (by decide) (wY_in tw_1_149) rfl rfl dX1_mostAmong_45 ?_
        refine ky_iload C dX1_mostAmong_48 6 rfl ?_
        refine ky_iald C (ltN hG) (ceN hG) (tC1 hG) dX1_mostAmong_50 (fun hx4 => ?_)
        refine ky_iadd C dX1_mostAmong_51 ?_
        refine ky_nmi (fun x5 => ?_)
        refine ky_istore (lv' := [(4, .int x5), (0, .ref (gA G 3)), (1, .int xv1), (2, .int xv2), (3, .int xv3), (5, .int xv5), (6, .int xv6)]) C dX1_mostAmong_52 (by decide) rfl ?_
        refine ky_goto C 71 dX1_mostAmong_54 (by decide) ?_
        refine ky_iinc (lv' := fun x6 => [(6, .int x6), (4, .int x5), (0, .ref (gA G 3)), (1, .int xv1), (2, .int xv2), (3, .int xv3), (5, .int xv5)]) C dX1_mostAmong_71 6 rfl (d1 := (1 : Int32)) rfl (by decide) (fun _ => rfl) (fun x6 => ?_)
        refine ky_goto C 24 dX1_mostAmong_74 (by decide) ?_
        exact ky_sub [2, 3, 4, 5, 1, 6, 0] rfl (ih xv1 xv2 xv3 x5 xv5 x6 M )
def LX1_mostAmong_5 (F : Nat)  : Nat → Int32 → Int32 → Int32 → Mem → Option (Int32 × Mem)
  | 0, _, _, _, _ => none
  | n + 1, xv1, xv2, xv3, M => if ((1 : Int32) <<< ((M.1 3 2) &&& 31)) ≤ xv3 then (some (xv2, M)) else (LX1_mostAmong_24 F (fun y8 y9 y10 y11 y12 M7 => bd (f_J6_bitCount_0f7a4 F y12 M7) (fun r13 M14 => nm (if (y11 + r13) < y9 then (y11 + r13) else y9) (fun x15 => nm (y10 + (1 : Int32)) (fun x16 => LX1_mostAmong_5 F n y8 x15 x16 M14)))) F xv1 xv2 xv3 (0 : Int32) (0 : Int32) (0 : Int32) M)
theorem LX1_mostAmong_5_s (F : Nat)  (n : Nat) (xv1 : Int32) (xv2 : Int32) (xv3 : Int32) (M : Mem) : LX1_mostAmong_5 F (n + 1) xv1 xv2 xv3 M = (if ((1 : Int32) <<< ((M.1 3 2) &&& 31)) ≤ xv3 then (some (xv2, M)) else (LX1_mostAmong_24 F (fun y8 y9 y10 y11 y12 M7 => bd (f_J6_bitCount_0f7a4 F y12 M7) (fun r13 M14 => nm (if (y11 + r13) < y9 then (y11 + r13) else y9) (fun x15 => nm (y10 + (1 : Int32)) (fun x16 => LX1_mostAmong_5 F n y8 x15 x16 M14)))) F xv1 xv2 xv3 (0 : Int32) (0 : Int32) (0 : Int32) M)) := rfl
set_option maxRecDepth 100000 in
set_option maxHeartbeats 4000000 in
theorem lX1_mostAmong_5 {G : KyG} {cy : Nat → ClassId} (hG : IsC G cy) {E : KyE} (C : Cx G E cX1_mostAmong 7 RX1 (wY yX1_mostAmong cX1_mostAmong 7 (some .int)) (some .int) rmX1_mostAmong) (F : Nat)   : ∀ (n : Nat) (xv1 : Int32) (xv2 : Int32) (xv3 : Int32) (M : Mem) , Wo G E 7 rI (LX1_mostAmong_5 F n xv1 xv2 xv3 M) M 5 [(0, .ref (gA G 3)), (1, .int xv1), (2, .int xv2), (3, .int xv3)] [] := by
  intro n
  induction n with
  | zero => intro xv1 xv2 xv3 M ; exact ky_none
  | succ n ih =>
    intro xv1 xv2 xv3 M 
    rw [LX1_mostAmong_5_s]
    refine ky_iload_n C dX1_mostAmong_5 3 rfl ?_
    refine ky_iconst C (1 : Int32) dX1_mostAmong_6 (by decide) ?_
    refine ky_aload_n C dX1_mostAmong_7 0 rfl ?_
    refine ky_get C (ltS hG) (ceS hG) rfl inWX1 2 (by decide) (wY_in tw_1_151) rfl rfl dX1_mostAmong_8 ?_
    refine ky_ishl C dX1_mostAmong_11 ?_
    refine ky_icmp_ge C 96 dX1_mostAmong_12 (by decide) ?_ ?_
    · refine ky_iload_n C dX1_mostAmong_96 2 rfl ?_
      exact ky_iret C dX1_mostAmong_97
    · refine ky_iconst C (0 : Int32) dX1_mostAmong_15 (by decide) ?_
      refine ky_istore (lv' := [(4, .int (0 : Int32)), (0, .ref (gA G 3)), (1, .int xv1), (2, .int xv2), (3, .int xv3)]) C dX1_mostAmong_16 (by decide) rfl ?_
      refine ky_iconst C (0 : Int32) dX1_mostAmong_18 (by decide) ?_
      refine ky_istore (lv' := [(5, .int (0 : Int32)), (4, .int (0 : Int32)), (0, .ref (gA G 3)), (1, .int xv1), (2, .int xv2), (3, .int xv3)]) C dX1_mostAmong_19 (by decide) rfl ?_
      refine ky_iconst C (0 : Int32) dX1_mostAmong_21 (by decide) ?_
      refine ky_istore (lv' := [(6, .int (0 : Int32)), (5, .int (0 : Int32)), (4, .int (0 : Int32)), (0, .ref (gA G 3)), (1, .int xv1), (2, .int xv2), (3, .int xv3)]) C dX1_mostAmong_22 (by decide) rfl ?_
      refine ky_sub [3, 4, 5, 6, 2, 1, 0] rfl (lX1_mostAmong_24 hG C F _ ?_ F xv1 xv2 xv3 (0 : Int32) (0 : Int32) (0 : Int32) M )
      · intro y8 y9 y10 y11 y12 M7 
        refine ky_iload_n C dX1_mostAmong_77 2 rfl ?_
        refine ky_iload C dX1_mostAmong_78 4 rfl ?_
        refine ky_iload C dX1_mostAmong_80 5 rfl ?_
        refine ky_callSi C (c_J6_bitCount_0f7a4 hG F y12 M7 ) (wY_goodS tw_2_168 tw_2_39 tw_1_12 tw_2_40) hd_J6_bitCount_0f7a4 ⟨rfl, rfl, by decide, by decide⟩ rfl rfl (Nat.le_of_ble_eq_true rfl) dX1_mostAmong_82 (fun r13 M14 => ?_)
        refine ky_iadd C dX1_mostAmong_85 ?_
        refine ky_mmin C tw_2_169 tw_2_170 tw_1_13 tw_2_171 (by decide) (Nat.le_of_ble_eq_true rfl) dX1_mostAmong_86 ?_
        refine ky_nmi (fun x15 => ?_)
        refine ky_istore_n (lv' := [(2, .int x15), (0, .ref (gA G 3)), (1, .int y8), (3, .int y10), (4, .int y11), (5, .int y12)]) C dX1_mostAmong_89 (by decide) rfl ?_
        refine ky_iinc (lv' := fun x16 => [(3, .int x16), (2, .int x15), (0, .ref (gA G 3)), (1, .int y8), (4, .int y11), (5, .int y12)]) C dX1_mostAmong_90 3 rfl (d1 := (1 : Int32)) rfl (by decide) (fun _ => rfl) (fun x16 => ?_)
        refine ky_goto C 5 dX1_mostAmong_93 (by decide) ?_
        exact ky_sub [2, 3, 1, 0] rfl (ih y8 x15 x16 M14 )
def f_X1_mostAmong (F : Nat) (a1 : Int32) (M : Mem) : Option (Int32 × Mem) := LX1_mostAmong_5 F  F a1 (6 : Int32) (0 : Int32) M
set_option maxRecDepth 100000 in
set_option maxHeartbeats 4000000 in
theorem c_X1_mostAmong {G : KyG} {cy : Nat → ClassId} (hG : IsC G cy) (F : Nat)  (a1 : Int32) (M : Mem)  : Ct G yX1_mostAmong (wY yX1_mostAmong cX1_mostAmong 7 (some .int)) rmX1_mostAmong rI [.ref (gA G 3), .int a1] (f_X1_mostAmong F a1 M) M := by
  refine Ct_of cX1_mostAmong 7 (some .int) RX1 hG.2.2.2.1 (by decide) rfl rfl (Nat.le_of_ble_eq_true rfl) rfl (fun E C => ?_)
  unfold f_X1_mostAmong
  refine ky_bipush C (6 : Int32) dX1_mostAmong_0 (by decide) ?_
  refine ky_istore_n (lv' := [(2, .int (6 : Int32)), (0, .ref (gA G 3)), (1, .int a1)]) C dX1_mostAmong_2 (by decide) rfl ?_
  refine ky_iconst C (0 : Int32) dX1_mostAmong_3 (by decide) ?_
  refine ky_istore_n (lv' := [(3, .int (0 : Int32)), (2, .int (6 : Int32)), (0, .ref (gA G 3)), (1, .int a1)]) C dX1_mostAmong_4 (by decide) rfl ?_
  exact ky_sub [2, 3, 1, 0] rfl (lX1_mostAmong_5 hG C F   F a1 (6 : Int32) (0 : Int32) M )
def rmX1_firstSayer : Room := { frames := 2, cells := 0, slots := 0, locals := 56 }
theorem hd_X1_firstSayer : yX1_firstSayer.cls = RX1 ∧ yX1_firstSayer.cls ≠ "java/lang/invoke/MethodHandle" ∧ yX1_firstSayer.cls ≠ "java/lang/invoke/VarHandle" ∧ (parseMethodDescriptor yX1_firstSayer.desc).map (fun d => d.parameters.length) = some 3 := ⟨rfl, by decide, by decide, by decide +kernel⟩
def LX1_firstSayer_14 (F : Nat)  : Nat → Int32 → Int32 → Int32 → Int32 → Mem → Option (Int32 × Mem)
  | 0, _, _, _, _, _ => none
  | n + 1, xv1, xv2, xv3, xv4, M => if (M.1 3 2) ≤ xv4 then (some ((mI 1), M)) else (gi xv4 4 (if (M.1 4 xv4.toNatClampNeg) ≤ 0 then (nm (xv4 + (1 : Int32)) (fun x4 => LX1_firstSayer_14 F n xv1 xv2 xv3 x4 M)) else (gi xv4 4 (if ((M.1 5 xv4.toNatClampNeg) &&& ((1 : Int32) <<< (xv1 &&& 31))) = 0 then (nm (xv4 + (1 : Int32)) (fun x6 => LX1_firstSayer_14 F n xv1 xv2 xv3 x6 M)) else (gi xv4 4 (nm ((M.1 4 xv4.toNatClampNeg) - (1 : Int32)) (fun x8 => gi xv4 4 (nm (u2 M 4 xv4.toNatClampNeg x8) (fun M9 => bd (f_X1_mostAmong F xv2 M9) (fun r11 M12 => gi xv4 4 (nm ((M12.1 4 xv4.toNatClampNeg) + (1 : Int32)) (fun x14 => gi xv4 4 (nm (u2 M12 4 xv4.toNatClampNeg x14) (fun M15 => if (r11 + (1 : Int32)) = xv3 then (some (xv4, M15)) else (nm (xv4 + (1 : Int32)) (fun x17 => LX1_firstSayer_14 F n xv1 xv2 xv3 x17 M15))))))))))))))))
theorem LX1_firstSayer_14_s (F : Nat)  (n : Nat) (xv1 : Int32) (xv2 : Int32) (xv3 : Int32) (xv4 : Int32) (M : Mem) : LX1_firstSayer_14 F (n + 1) xv1 xv2 xv3 xv4 M = (if (M.1 3 2) ≤ xv4 then (some ((mI 1), M)) else (gi xv4 4 (if (M.1 4 xv4.toNatClampNeg) ≤ 0 then (nm (xv4 + (1 : Int32)) (fun x4 => LX1_firstSayer_14 F n xv1 xv2 xv3 x4 M)) else (gi xv4 4 (if ((M.1 5 xv4.toNatClampNeg) &&& ((1 : Int32) <<< (xv1 &&& 31))) = 0 then (nm (xv4 + (1 : Int32)) (fun x6 => LX1_firstSayer_14 F n xv1 xv2 xv3 x6 M)) else (gi xv4 4 (nm ((M.1 4 xv4.toNatClampNeg) - (1 : Int32)) (fun x8 => gi xv4 4 (nm (u2 M 4 xv4.toNatClampNeg x8) (fun M9 => bd (f_X1_mostAmong F xv2 M9) (fun r11 M12 => gi xv4 4 (nm ((M12.1 4 xv4.toNatClampNeg) + (1 : Int32)) (fun x14 => gi xv4 4 (nm (u2 M12 4 xv4.toNatClampNeg x14) (fun M15 => if (r11 + (1 : Int32)) = xv3 then (some (xv4, M15)) else (nm (xv4 + (1 : Int32)) (fun x17 => LX1_firstSayer_14 F n xv1 xv2 xv3 x17 M15))))))))))))))))) := rfl
set_option maxRecDepth 100000 in
set_option maxHeartbeats 4000000 in
theorem lX1_firstSayer_14 {G : KyG} {cy : Nat → ClassId} (hG : IsC G cy) {E : KyE} (C : Cx G E cX1_firstSayer 6 RX1 (wY yX1_firstSayer cX1_firstSayer 6 (some .int)) (some .int) rmX1_firstSayer) (F : Nat)   : ∀ (n : Nat) (xv1 : Int32) (xv2 : Int32) (xv3 : Int32) (xv4 : Int32) (M : Mem) , Wo G E 6 rI (LX1_firstSayer_14 F n xv1 xv2 xv3 xv4 M) M 14 [(0, .ref (gA G 3)), (1, .int xv1), (2, .int xv2), (3, .int xv3), (4, .int xv4)] [] := by
  intro n
  induction n with
  | zero => intro xv1 xv2 xv3 xv4 M ; exact ky_none
  | succ n ih =>
    intro xv1 xv2 xv3 xv4 M 
    rw [LX1_firstSayer_14_s]
    refine ky_iload C dX1_firstSayer_14 4 rfl ?_
    refine ky_aload_n C dX1_firstSayer_16 0 rfl ?_
    refine ky_get C (ltS hG) (ceS hG) rfl inWX1 2 (by decide) (wY_in tw_1_151) rfl rfl dX1_firstSayer_17 ?_
    refine ky_icmp_ge C 93 dX1_firstSayer_20 (by decide) ?_ ?_
    · refine ky_iconst C (mI 1) dX1_firstSayer_93 (by decide) ?_
      exact ky_iret C dX1_firstSayer_94
    · refine ky_aload_n C dX1_firstSayer_23 0 rfl ?_
      refine ky_get C (ltS hG) (ceS hG) rfl inWX1 0 (by decide) (wY_in tw_1_149) rfl rfl dX1_firstSayer_24 ?_
      refine ky_iload C dX1_firstSayer_27 4 rfl ?_
      refine ky_iald C (ltN hG) (ceN hG) (tC1 hG) dX1_firstSayer_29 (fun hx3 => ?_)
      refine ky_if_le C 87 dX1_firstSayer_30 (by decide) ?_ ?_
      · refine ky_iinc (lv' := fun x4 => [(4, .int x4), (0, .ref (gA G 3)), (1, .int xv1), (2, .int xv2), (3, .int xv3)]) C dX1_firstSayer_87 4 rfl (d1 := (1 : Int32)) rfl (by decide) (fun _ => rfl) (fun x4 => ?_)
        refine ky_goto C 14 dX1_firstSayer_90 (by decide) ?_
        exact ky_sub [1, 2, 3, 4, 0] rfl (ih xv1 xv2 xv3 x4 M )
      · refine ky_aload_n C dX1_firstSayer_33 0 rfl ?_
        refine ky_get C (ltS hG) (ceS hG) rfl inWX1 1 (by decide) (wY_in tw_1_150) rfl rfl dX1_firstSayer_34 ?_
        refine ky_iload C dX1_firstSayer_37 4 rfl ?_
        refine ky_iald C (ltF hG) (ceF hG) (tC1 hG) dX1_firstSayer_39 (fun hx5 => ?_)
        refine ky_iconst C (1 : Int32) dX1_firstSayer_40 (by decide) ?_
        refine ky_iload_n C dX1_firstSayer_41 1 rfl ?_
        refine ky_ishl C dX1_firstSayer_42 ?_
        refine ky_iand C dX1_firstSayer_43 ?_
        refine ky_if_eq C 87 dX1_firstSayer_44 (by decide) ?_ ?_
        · refine ky_iinc (lv' := fun x6 => [(4, .int x6), (0, .ref (gA G 3)), (1, .int xv1), (2, .int xv2), (3, .int xv3)]) C dX1_firstSayer_87 4 rfl (d1 := (1 : Int32)) rfl (by decide) (fun _ => rfl) (fun x6 => ?_)
          refine ky_goto C 14 dX1_firstSayer_90 (by decide) ?_
          exact ky_sub [1, 2, 3, 4, 0] rfl (ih xv1 xv2 xv3 x6 M )
        · refine ky_aload_n C dX1_firstSayer_47 0 rfl ?_
          refine ky_get C (ltS hG) (ceS hG) rfl inWX1 0 (by decide) (wY_in tw_1_149) rfl rfl dX1_firstSayer_48 ?_
          refine ky_iload C dX1_firstSayer_51 4 rfl ?_
          refine ky_dup2 C dX1_firstSayer_53 rfl rfl ?_
          refine ky_iald C (ltN hG) (ceN hG) (tC1 hG) dX1_firstSayer_54 (fun hx7 => ?_)
          refine ky_iconst C (1 : Int32) dX1_firstSayer_55 (by decide) ?_
          refine ky_isub C dX1_firstSayer_56 ?_
          refine ky_nmi (fun x8 => ?_)
          refine ky_iast C (ltN hG) (ceN hG) (tC1 hG) dX1_firstSayer_57 (fun M9 hx10 => ?_)
          refine ky_aload_n C dX1_firstSayer_58 0 rfl ?_
          refine ky_iload_n C dX1_firstSayer_59 2 rfl ?_
          refine ky_callVi C (c_X1_mostAmong hG F xv2 M9 ) (ltS hG) (ceS hG) rfl (wY_goodV tw_2_164 tw_2_166 tw_p4 tw_1_6 tw_2_167) hd_X1_mostAmong ⟨rfl, rfl, by decide, by decide⟩ rfl rfl (Nat.le_of_ble_eq_true rfl) dX1_firstSayer_60 (fun r11 M12 => ?_)
          refine ky_istore (lv' := [(5, .int r11), (0, .ref (gA G 3)), (1, .int xv1), (2, .int xv2), (3, .int xv3), (4, .int xv4)]) C dX1_firstSayer_63 (by decide) rfl ?_
          refine ky_aload_n C dX1_firstSayer_65 1 rfl ?_
          refine ky_get C (ltS hG) (ceS hG) rfl inWX1 0 (by decide) (wY_in tw_1_149) rfl rfl dX1_firstSayer_66 ?_
          refine ky_iload C dX1_firstSayer_69 5 rfl ?_
          refine ky_dup2 C dX1_firstSayer_71 rfl rfl ?_
          refine ky_iald C (ltN hG) (ceN hG) (tC1 hG) dX1_firstSayer_72 (fun hx13 => ?_)
          refine ky_iconst C (1 : Int32) dX1_firstSayer_73 (by decide) ?_
          refine ky_iadd C dX1_firstSayer_74 ?_
          refine ky_nmi (fun x14 => ?_)
          refine ky_iast C (ltN hG) (ceN hG) (tC1 hG) dX1_firstSayer_75 (fun M15 hx16 => ?_)
          refine ky_iload C dX1_firstSayer_76 0 rfl ?_
          refine ky_iconst C (1 : Int32) dX1_firstSayer_78 (by decide) ?_
          refine ky_iadd C dX1_firstSayer_79 ?_
          refine ky_iload_n C dX1_firstSayer_80 4 rfl ?_
          refine ky_icmp_ne C 87 dX1_firstSayer_81 (by decide) ?_ ?_
          · refine ky_iload C dX1_firstSayer_84 5 rfl ?_
            exact ky_iret C dX1_firstSayer_86
          · refine ky_iinc (lv' := fun x17 => [(4, .int x17), (5, .int r11), (0, .ref (gA G 3)), (1, .int xv1), (2, .int xv2), (3, .int xv3)]) C dX1_firstSayer_87 5 rfl (d1 := (1 : Int32)) rfl (by decide) (fun _ => rfl) (fun x17 => ?_)
            refine ky_goto C 14 dX1_firstSayer_90 (by decide) ?_
            exact ky_sub [2, 3, 4, 5, 0] rfl (ih xv1 xv2 xv3 x17 M15 )
def f_X1_firstSayer (F : Nat) (a1 : Int32) (a2 : Int32) (a3 : Int32) (M : Mem) : Option (Int32 × Mem) := bd (f_X1_mostAmong F a2 M) (fun r1 M2 => if r1 = a3 then (some ((mI 1), M2)) else (LX1_firstSayer_14 F  F a1 a2 a3 (0 : Int32) M2))
set_option maxRecDepth 100000 in
set_option maxHeartbeats 4000000 in
theorem c_X1_firstSayer {G : KyG} {cy : Nat → ClassId} (hG : IsC G cy) (F : Nat)  (a1 : Int32) (a2 : Int32) (a3 : Int32) (M : Mem)  : Ct G yX1_firstSayer (wY yX1_firstSayer cX1_firstSayer 6 (some .int)) rmX1_firstSayer rI [.ref (gA G 3), .int a1, .int a2, .int a3] (f_X1_firstSayer F a1 a2 a3 M) M := by
  refine Ct_of cX1_firstSayer 6 (some .int) RX1 hG.2.2.2.1 (by decide) rfl rfl (Nat.le_of_ble_eq_true rfl) rfl (fun E C => ?_)
  unfold f_X1_firstSayer
  refine ky_aload_n C dX1_firstSayer_0 0 rfl ?_
  refine ky_iload_n C dX1_firstSayer_1 2 rfl ?_
  refine ky_callVi C (c_X1_mostAmong hG F a2 M ) (ltS hG) (ceS hG) rfl (wY_goodV tw_2_164 tw_2_166 tw_p4 tw_1_6 tw_2_167) hd_X1_mostAmong ⟨rfl, rfl, by decide, by decide⟩ rfl rfl (Nat.le_of_ble_eq_true rfl) dX1_firstSayer_2 (fun r1 M2 => ?_)
  refine ky_iload_n C dX1_firstSayer_5 3 rfl ?_
  refine ky_icmp_ne C 11 dX1_firstSayer_6 (by decide) ?_ ?_
  · refine ky_iconst C (mI 1) dX1_firstSayer_9 (by decide) ?_
    exact ky_iret C dX1_firstSayer_10
  · refine ky_iconst C (0 : Int32) dX1_firstSayer_11 (by decide) ?_
    refine ky_istore (lv' := [(4, .int (0 : Int32)), (0, .ref (gA G 3)), (1, .int a1), (2, .int a2), (3, .int a3)]) C dX1_firstSayer_12 (by decide) rfl ?_
    exact ky_sub [1, 2, 3, 4, 0] rfl (lX1_firstSayer_14 hG C F   F a1 a2 a3 (0 : Int32) M2 )
def rmX1_take : Room := { frames := 2, cells := 0, slots := 0, locals := 41 }
theorem hd_X1_take : yX1_take.cls = RX1 ∧ yX1_take.cls ≠ "java/lang/invoke/MethodHandle" ∧ yX1_take.cls ≠ "java/lang/invoke/VarHandle" ∧ (parseMethodDescriptor yX1_take.desc).map (fun d => d.parameters.length) = some 2 := ⟨rfl, by decide, by decide, by decide +kernel⟩
def LX1_take_10 (F : Nat)  : Nat → Nat → Int32 → Int32 → Mem → Option (Unit × Mem)
  | 0, _, _, _, _ => none
  | n + 1, kv1, xv2, xv3, M => if (M.1 3 2) ≤ xv3 then (some ((), M)) else (gi xv3 4 (bd (f_X0_needs F (kv1 + 6 + xv3.toNatClampNeg) M) (fun r4 M5 => gi xv3 4 (nm (u2 M5 4 xv3.toNatClampNeg r4) (fun M6 => if (M6.1 (kv1 + 6 + xv3.toNatClampNeg) 1) = xv2 then (bd (f_X2_leftTo F kv1 (kv1 + 6 + xv3.toNatClampNeg) M6) (fun r11 M12 => gi xv3 4 (nm (u2 M12 5 xv3.toNatClampNeg r11) (fun M13 => nm (xv3 + (1 : Int32)) (fun x15 => LX1_take_10 F n kv1 xv2 x15 M13))))) else (gi xv3 4 (nm (u2 M6 5 xv3.toNatClampNeg (0 : Int32)) (fun M8 => nm (xv3 + (1 : Int32)) (fun x10 => LX1_take_10 F n kv1 xv2 x10 M8)))))))))
theorem LX1_take_10_s (F : Nat)  (n : Nat) (kv1 : Nat) (xv2 : Int32) (xv3 : Int32) (M : Mem) : LX1_take_10 F (n + 1) kv1 xv2 xv3 M = (if (M.1 3 2) ≤ xv3 then (some ((), M)) else (gi xv3 4 (bd (f_X0_needs F (kv1 + 6 + xv3.toNatClampNeg) M) (fun r4 M5 => gi xv3 4 (nm (u2 M5 4 xv3.toNatClampNeg r4) (fun M6 => if (M6.1 (kv1 + 6 + xv3.toNatClampNeg) 1) = xv2 then (bd (f_X2_leftTo F kv1 (kv1 + 6 + xv3.toNatClampNeg) M6) (fun r11 M12 => gi xv3 4 (nm (u2 M12 5 xv3.toNatClampNeg r11) (fun M13 => nm (xv3 + (1 : Int32)) (fun x15 => LX1_take_10 F n kv1 xv2 x15 M13))))) else (gi xv3 4 (nm (u2 M6 5 xv3.toNatClampNeg (0 : Int32)) (fun M8 => nm (xv3 + (1 : Int32)) (fun x10 => LX1_take_10 F n kv1 xv2 x10 M8)))))))))) := rfl
set_option maxRecDepth 100000 in
set_option maxHeartbeats 4000000 in
theorem lX1_take_10 {G : KyG} {cy : Nat → ClassId} (hG : IsC G cy) {E : KyE} (C : Cx G E cX1_take 5 RX1 (wY yX1_take cX1_take 5 none) none rmX1_take) (F : Nat)   : ∀ (n : Nat) (kv1 : Nat) (xv2 : Int32) (xv3 : Int32) (M : Mem) (hkv1 : isTw kv1), Wo G E 5 rV (LX1_take_10 F n kv1 xv2 xv3 M) M 10 [(0, .ref (gA G 3)), (1, .ref (gA G kv1)), (2, .int xv2), (3, .int xv3)] [] := by
  intro n
  induction n with
  | zero => intro kv1 xv2 xv3 M hkv1; exact ky_none
  | succ n ih =>
    intro kv1 xv2 xv3 M hkv1
    rw [LX1_take_10_s]
    refine ky_iload_n C dX1_take_10 3 rfl ?_
    refine ky_aload_n C dX1_take_11 0 rfl ?_
    refine ky_get C (ltS hG) (ceS hG) rfl inWX1 2 (by decide) (wY_in tw_1_151) rfl rfl dX1_take_12 ?_
    refine ky_icmp_ge C 68 dX1_take_15 (by decide) ?_ ?_
    · exact ky_vret C dX1_take_68
    · refine ky_aload_n C dX1_take_18 1 rfl ?_
      refine ky_get C (ltT hG hkv1) (ceT hG hkv1) rfl inWX2 1 (by decide) (wY_in tw_1_97) rfl rfl dX1_take_19 ?_
      refine ky_iload_n C dX1_take_22 3 rfl ?_
      refine ky_aald C (ltCA hG hkv1) (ceCA hG hkv1) (tC3 hG) dX1_take_23 (fun hx3 => ?_)
      refine ky_astore (lv' := [(4, .ref (gA G (kv1 + 6 + xv3.toNatClampNeg))), (0, .ref (gA G 3)), (1, .ref (gA G kv1)), (2, .int xv2), (3, .int xv3)]) C dX1_take_24 (by decide) rfl ?_
      refine ky_aload_n C dX1_take_26 1 rfl ?_
      refine ky_get C (ltS hG) (ceS hG) rfl inWX1 0 (by decide) (wY_in tw_1_149) rfl rfl dX1_take_27 ?_
      refine ky_iload_n C dX1_take_30 4 rfl ?_
      refine ky_aload C dX1_take_31 0 rfl ?_
      refine ky_callVi C (c_X0_needs hG F (kv1 + 6 + xv3.toNatClampNeg) M (isCv_of hkv1 hx3)) (ltC hG (isCv_of hkv1 hx3)) (ceC hG (isCv_of hkv1 hx3)) rfl (wY_goodV tw_2_162 tw_2_100 tw_2_101 tw_1_4 tw_2_102) hd_X0_needs ⟨rfl, rfl, by decide, by decide⟩ rfl rfl (Nat.le_of_ble_eq_true rfl) dX1_take_33 (fun r4 M5 => ?_)
      refine ky_iast C (ltN hG) (ceN hG) (tC1 hG) dX1_take_36 (fun M6 hx7 => ?_)
      refine ky_aload_n C dX1_take_37 1 rfl ?_
      refine ky_get C (ltS hG) (ceS hG) rfl inWX1 1 (by decide) (wY_in tw_1_150) rfl rfl dX1_take_38 ?_
      refine ky_iload_n C dX1_take_41 4 rfl ?_
      refine ky_aload C dX1_take_42 0 rfl ?_
      refine ky_get C (ltC hG (isCv_of hkv1 hx3)) (ceC hG (isCv_of hkv1 hx3)) rfl inWX0 1 (by decide) (wY_in tw_1_65) rfl rfl dX1_take_44 ?_
      refine ky_iload_n C dX1_take_47 3 rfl ?_
      refine ky_icmp_ne C 60 dX1_take_48 (by decide) ?_ ?_
      · refine ky_aload_n C dX1_take_51 2 rfl ?_
        refine ky_aload C dX1_take_52 0 rfl ?_
        refine ky_callVi C (c_X2_leftTo hG F kv1 (kv1 + 6 + xv3.toNatClampNeg) M6 hkv1 (isCv_of hkv1 hx3)) (ltT hG hkv1) (ceT hG hkv1) rfl (wY_goodV tw_2_163 tw_2_84 tw_2_85 tw_1_2 tw_2_86) hd_X2_leftTo ⟨rfl, rfl, by decide, by decide⟩ rfl rfl (Nat.le_of_ble_eq_true rfl) dX1_take_54 (fun r11 M12 => ?_)
        refine ky_goto C 61 dX1_take_57 (by decide) ?_
        refine ky_iast C (ltF hG) (ceF hG) (tC1 hG) dX1_take_61 (fun M13 hx14 => ?_)
        refine ky_iinc (lv' := fun x15 => [(3, .int x15), (4, .ref (gA G (kv1 + 6 + xv3.toNatClampNeg))), (0, .ref (gA G 3)), (1, .ref (gA G kv1)), (2, .int xv2)]) C dX1_take_62 4 rfl (d1 := (1 : Int32)) rfl (by decide) (fun _ => rfl) (fun x15 => ?_)
        refine ky_goto C 10 dX1_take_65 (by decide) ?_
        exact ky_sub [2, 3, 4, 0] rfl (ih kv1 xv2 x15 M13 hkv1)
      · refine ky_iconst C (0 : Int32) dX1_take_60 (by decide) ?_
        refine ky_iast C (ltF hG) (ceF hG) (tC1 hG) dX1_take_61 (fun M8 hx9 => ?_)
        refine ky_iinc (lv' := fun x10 => [(3, .int x10), (4, .ref (gA G (kv1 + 6 + xv3.toNatClampNeg))), (0, .ref (gA G 3)), (1, .ref (gA G kv1)), (2, .int xv2)]) C dX1_take_62 4 rfl (d1 := (1 : Int32)) rfl (by decide) (fun _ => rfl) (fun x10 => ?_)
        refine ky_goto C 10 dX1_take_65 (by decide) ?_
        exact ky_sub [2, 3, 4, 0] rfl (ih kv1 xv2 x10 M8 hkv1)
def f_X1_take (F : Nat) (k1 : Nat) (a2 : Int32) (M : Mem) : Option (Unit × Mem) := nm (M.1 k1 2) (fun x1 => nm (u2 M 3 2 x1) (fun M2 => LX1_take_10 F  F k1 a2 (0 : Int32) M2))
set_option maxRecDepth 100000 in
set_option maxHeartbeats 4000000 in
theorem c_X1_take {G : KyG} {cy : Nat → ClassId} (hG : IsC G cy) (F : Nat)  (k1 : Nat) (a2 : Int32) (M : Mem) (hk1 : isTw k1) : Ct G yX1_take (wY yX1_take cX1_take 5 none) rmX1_take rV [.ref (gA G 3), .ref (gA G k1), .int a2] (f_X1_take F k1 a2 M) M := by
  refine Ct_of cX1_take 5 none RX1 hG.2.2.2.1 (by decide) rfl rfl (Nat.le_of_ble_eq_true rfl) rfl (fun E C => ?_)
  unfold f_X1_take
  refine ky_aload_n C dX1_take_0 0 rfl ?_
  refine ky_aload_n C dX1_take_1 1 rfl ?_
  refine ky_get C (ltT hG hk1) (ceT hG hk1) rfl inWX2 2 (by decide) (wY_in tw_1_101) rfl rfl dX1_take_2 ?_
  refine ky_nmi (fun x1 => ?_)
  refine ky_put C (ltS hG) (ceS hG) rfl inWX1 tyX1_ok nmX1 2 (by decide) (wY_in tw_1_151) ⟨rfl, rfl⟩ (tyX1_ok 2 (by decide)) rfl rfl (Nat.le_of_ble_eq_true rfl) rfl dX1_take_5 (fun M2 => ?_)
  refine ky_iconst C (0 : Int32) dX1_take_8 (by decide) ?_
  refine ky_istore_n (lv' := [(3, .int (0 : Int32)), (0, .ref (gA G 3)), (1, .ref (gA G k1)), (2, .int a2)]) C dX1_take_9 (by decide) rfl ?_
  exact ky_sub [1, 2, 3, 0] rfl (lX1_take_10 hG C F   F k1 a2 (0 : Int32) M2 hk1)
def rmX1_mostOfAll : Room := { frames := 3, cells := 0, slots := 0, locals := 65 }
theorem hd_X1_mostOfAll : yX1_mostOfAll.cls = RX1 ∧ yX1_mostOfAll.cls ≠ "java/lang/invoke/MethodHandle" ∧ yX1_mostOfAll.cls ≠ "java/lang/invoke/VarHandle" ∧ (parseMethodDescriptor yX1_mostOfAll.desc).map (fun d => d.parameters.length) = some 1 := ⟨rfl, by decide, by decide, by decide +kernel⟩
def LX1_mostOfAll_4 (F : Nat)  : Nat → Nat → Int32 → Int32 → Mem → Option (Int32 × Mem)
  | 0, _, _, _, _ => none
  | n + 1, kv1, xv2, xv3, M => if (3 : Int32) ≤ xv3 then (some (xv2, M)) else (bd (f_X1_take F kv1 xv3 M) (fun r1 M2 => bd (f_X1_mostAmong F (63 : Int32) M2) (fun r3 M4 => nm (xv2 + r3) (fun x5 => nm (xv3 + (1 : Int32)) (fun x6 => LX1_mostOfAll_4 F n kv1 x5 x6 M4)))))
theorem LX1_mostOfAll_4_s (F : Nat)  (n : Nat) (kv1 : Nat) (xv2 : Int32) (xv3 : Int32) (M : Mem) : LX1_mostOfAll_4 F (n + 1) kv1 xv2 xv3 M = (if (3 : Int32) ≤ xv3 then (some (xv2, M)) else (bd (f_X1_take F kv1 xv3 M) (fun r1 M2 => bd (f_X1_mostAmong F (63 : Int32) M2) (fun r3 M4 => nm (xv2 + r3) (fun x5 => nm (xv3 + (1 : Int32)) (fun x6 => LX1_mostOfAll_4 F n kv1 x5 x6 M4)))))) := rfl
set_option maxRecDepth 100000 in
set_option maxHeartbeats 4000000 in
theorem lX1_mostOfAll_4 {G : KyG} {cy : Nat → ClassId} (hG : IsC G cy) {E : KyE} (C : Cx G E cX1_mostOfAll 4 RX1 (wY yX1_mostOfAll cX1_mostOfAll 4 (some .int)) (some .int) rmX1_mostOfAll) (F : Nat)   : ∀ (n : Nat) (kv1 : Nat) (xv2 : Int32) (xv3 : Int32) (M : Mem) (hkv1 : isTw kv1), Wo G E 4 rI (LX1_mostOfAll_4 F n kv1 xv2 xv3 M) M 4 [(0, .ref (gA G 3)), (1, .ref (gA G kv1)), (2, .int xv2), (3, .int xv3)] [] := by
  intro n
  induction n with
  | zero => intro kv1 xv2 xv3 M hkv1; exact ky_none
  | succ n ih =>
    intro kv1 xv2 xv3 M hkv1
    rw [LX1_mostOfAll_4_s]
    refine ky_iload_n C dX1_mostOfAll_4 3 rfl ?_
    refine ky_iconst C (3 : Int32) dX1_mostOfAll_5 (by decide) ?_
    refine ky_icmp_ge C 30 dX1_mostOfAll_6 (by decide) ?_ ?_
    · refine ky_iload_n C dX1_mostOfAll_30 2 rfl ?_
      exact ky_iret C dX1_mostOfAll_31
    · refine ky_aload_n C dX1_mostOfAll_9 0 rfl ?_
      refine ky_aload_n C dX1_mostOfAll_10 1 rfl ?_
      refine ky_iload_n C dX1_mostOfAll_11 3 rfl ?_
      refine ky_callVv C (c_X1_take hG F kv1 xv3 M hkv1) (ltS hG) (ceS hG) rfl (wY_goodV tw_2_158 tw_2_160 tw_p3 tw_1_6 tw_2_161) hd_X1_take ⟨rfl, rfl, by decide, by decide⟩ rfl rfl (Nat.le_of_ble_eq_true rfl) dX1_mostOfAll_12 (fun r1 M2 => ?_)
      refine ky_iload_n C dX1_mostOfAll_15 2 rfl ?_
      refine ky_aload_n C dX1_mostOfAll_16 0 rfl ?_
      refine ky_bipush C (63 : Int32) dX1_mostOfAll_17 (by decide) ?_
      refine ky_callVi C (c_X1_mostAmong hG F (63 : Int32) M2 ) (ltS hG) (ceS hG) rfl (wY_goodV tw_2_164 tw_2_166 tw_p4 tw_1_6 tw_2_167) hd_X1_mostAmong ⟨rfl, rfl, by decide, by decide⟩ rfl rfl (Nat.le_of_ble_eq_true rfl) dX1_mostOfAll_19 (fun r3 M4 => ?_)
      refine ky_iadd C dX1_mostOfAll_22 ?_
      refine ky_nmi (fun x5 => ?_)
      refine ky_istore_n (lv' := [(2, .int x5), (0, .ref (gA G 3)), (1, .ref (gA G kv1)), (3, .int xv3)]) C dX1_mostOfAll_23 (by decide) rfl ?_
      refine ky_iinc (lv' := fun x6 => [(3, .int x6), (2, .int x5), (0, .ref (gA G 3)), (1, .ref (gA G kv1))]) C dX1_mostOfAll_24 3 rfl (d1 := (1 : Int32)) rfl (by decide) (fun _ => rfl) (fun x6 => ?_)
      refine ky_goto C 4 dX1_mostOfAll_27 (by decide) ?_
      exact ky_sub [2, 3, 1, 0] rfl (ih kv1 x5 x6 M4 hkv1)
def f_X1_mostOfAll (F : Nat) (k1 : Nat) (M : Mem) : Option (Int32 × Mem) := LX1_mostOfAll_4 F  F k1 (0 : Int32) (0 : Int32) M
set_option maxRecDepth 100000 in
set_option maxHeartbeats 4000000 in
theorem c_X1_mostOfAll {G : KyG} {cy : Nat → ClassId} (hG : IsC G cy) (F : Nat)  (k1 : Nat) (M : Mem) (hk1 : isTw k1) : Ct G yX1_mostOfAll (wY yX1_mostOfAll cX1_mostOfAll 4 (some .int)) rmX1_mostOfAll rI [.ref (gA G 3), .ref (gA G k1)] (f_X1_mostOfAll F k1 M) M := by
  refine Ct_of cX1_mostOfAll 4 (some .int) RX1 hG.2.2.2.1 (by decide) rfl rfl (Nat.le_of_ble_eq_true rfl) rfl (fun E C => ?_)
  unfold f_X1_mostOfAll
  refine ky_iconst C (0 : Int32) dX1_mostOfAll_0 (by decide) ?_
  refine ky_istore_n (lv' := [(2, .int (0 : Int32)), (0, .ref (gA G 3)), (1, .ref (gA G k1))]) C dX1_mostOfAll_1 (by decide) rfl ?_
  refine ky_iconst C (0 : Int32) dX1_mostOfAll_2 (by decide) ?_
  refine ky_istore_n (lv' := [(3, .int (0 : Int32)), (2, .int (0 : Int32)), (0, .ref (gA G 3)), (1, .ref (gA G k1))]) C dX1_mostOfAll_3 (by decide) rfl ?_
  exact ky_sub [2, 3, 1, 0] rfl (lX1_mostOfAll_4 hG C F   F k1 (0 : Int32) (0 : Int32) M hk1)
def rmX1_sayerOf : Room := { frames := 3, cells := 0, slots := 0, locals := 81 }
theorem hd_X1_sayerOf : yX1_sayerOf.cls = RX1 ∧ yX1_sayerOf.cls ≠ "java/lang/invoke/MethodHandle" ∧ yX1_sayerOf.cls ≠ "java/lang/invoke/VarHandle" ∧ (parseMethodDescriptor yX1_sayerOf.desc).map (fun d => d.parameters.length) = some 3 := ⟨rfl, by decide, by decide, by decide +kernel⟩
def LX1_sayerOf_16 (F : Nat)  : Nat → Int32 → Int32 → Int32 → Int32 → Mem → Option (Int32 × Mem)
  | 0, _, _, _, _, _ => none
  | n + 1, xv3, xv4, xv5, xv6, M => if xv3 < xv6 then (some (xv5, M)) else (bd (f_X1_mostAmong F xv4 M) (fun r3 M4 => nm (xv4 &&& (((1 : Int32) <<< (xv6 &&& 31)) ^^^ (mI 1))) (fun x5 => bd (f_X1_firstSayer F xv6 x5 r3 M4) (fun r6 M7 => if r6 = (mI 1) then (nm (xv6 + (1 : Int32)) (fun x8 => LX1_sayerOf_16 F n xv3 x5 r6 x8 M7)) else (gi r6 4 (nm ((M7.1 4 r6.toNatClampNeg) - (1 : Int32)) (fun x10 => gi r6 4 (nm (u2 M7 4 r6.toNatClampNeg x10) (fun M11 => nm (xv6 + (1 : Int32)) (fun x13 => LX1_sayerOf_16 F n xv3 x5 r6 x13 M11))))))))))
theorem LX1_sayerOf_16_s (F : Nat)  (n : Nat) (xv3 : Int32) (xv4 : Int32) (xv5 : Int32) (xv6 : Int32) (M : Mem) : LX1_sayerOf_16 F (n + 1) xv3 xv4 xv5 xv6 M = (if xv3 < xv6 then (some (xv5, M)) else (bd (f_X1_mostAmong F xv4 M) (fun r3 M4 => nm (xv4 &&& (((1 : Int32) <<< (xv6 &&& 31)) ^^^ (mI 1))) (fun x5 => bd (f_X1_firstSayer F xv6 x5 r3 M4) (fun r6 M7 => if r6 = (mI 1) then (nm (xv6 + (1 : Int32)) (fun x8 => LX1_sayerOf_16 F n xv3 x5 r6 x8 M7)) else (gi r6 4 (nm ((M7.1 4 r6.toNatClampNeg) - (1 : Int32)) (fun x10 => gi r6 4 (nm (u2 M7 4 r6.toNatClampNeg x10) (fun M11 => nm (xv6 + (1 : Int32)) (fun x13 => LX1_sayerOf_16 F n xv3 x5 r6 x13 M11))))))))))) := rfl
set_option maxRecDepth 100000 in
set_option maxHeartbeats 4000000 in
theorem lX1_sayerOf_16 {G : KyG} {cy : Nat → ClassId} (hG : IsC G cy) {E : KyE} (C : Cx G E cX1_sayerOf 8 RX1 (wY yX1_sayerOf cX1_sayerOf 8 (some .int)) (some .int) rmX1_sayerOf) (F : Nat)   : ∀ (n : Nat) (xv3 : Int32) (xv4 : Int32) (xv5 : Int32) (xv6 : Int32) (M : Mem) , Wo G E 8 rI (LX1_sayerOf_16 F n xv3 xv4 xv5 xv6 M) M 16 [(0, .ref (gA G 3)), (3, .int xv3), (4, .int xv4), (5, .int xv5), (6, .int xv6)] [] := by
  intro n
  induction n with
  | zero => intro xv3 xv4 xv5 xv6 M ; exact ky_none
  | succ n ih =>
    intro xv3 xv4 xv5 xv6 M 
    rw [LX1_sayerOf_16_s]
    refine ky_iload C dX1_sayerOf_16 4 rfl ?_
    refine ky_iload_n C dX1_sayerOf_18 1 rfl ?_
    refine ky_icmp_gt C 76 dX1_sayerOf_19 (by decide) ?_ ?_
    · refine ky_iload C dX1_sayerOf_76 3 rfl ?_
      exact ky_iret C dX1_sayerOf_78
    · refine ky_aload_n C dX1_sayerOf_22 0 rfl ?_
      refine ky_iload C dX1_sayerOf_23 2 rfl ?_
      refine ky_callVi C (c_X1_mostAmong hG F xv4 M ) (ltS hG) (ceS hG) rfl (wY_goodV tw_2_164 tw_2_166 tw_p4 tw_1_6 tw_2_167) hd_X1_mostAmong ⟨rfl, rfl, by decide, by decide⟩ rfl rfl (Nat.le_of_ble_eq_true rfl) dX1_sayerOf_25 (fun r3 M4 => ?_)
      refine ky_istore (lv' := [(7, .int r3), (0, .ref (gA G 3)), (3, .int xv3), (4, .int xv4), (5, .int xv5), (6, .int xv6)]) C dX1_sayerOf_28 (by decide) rfl ?_
      refine ky_iload C dX1_sayerOf_30 3 rfl ?_
      refine ky_iconst C (1 : Int32) dX1_sayerOf_32 (by decide) ?_
      refine ky_iload C dX1_sayerOf_33 5 rfl ?_
      refine ky_ishl C dX1_sayerOf_35 ?_
      refine ky_iconst C (mI 1) dX1_sayerOf_36 (by decide) ?_
      refine ky_ixor C dX1_sayerOf_37 ?_
      refine ky_iand C dX1_sayerOf_38 ?_
      refine ky_nmi (fun x5 => ?_)
      refine ky_istore (lv' := [(4, .int x5), (7, .int r3), (0, .ref (gA G 3)), (3, .int xv3), (5, .int xv5), (6, .int xv6)]) C dX1_sayerOf_39 (by decide) rfl ?_
      refine ky_aload_n C dX1_sayerOf_41 2 rfl ?_
      refine ky_iload C dX1_sayerOf_42 5 rfl ?_
      refine ky_iload C dX1_sayerOf_44 0 rfl ?_
      refine ky_iload C dX1_sayerOf_46 1 rfl ?_
      refine ky_callVi C (c_X1_firstSayer hG F xv6 x5 r3 M4 ) (ltS hG) (ceS hG) rfl (wY_goodV tw_2_184 tw_2_186 tw_p5 tw_1_6 tw_2_187) hd_X1_firstSayer ⟨rfl, rfl, by decide, by decide⟩ rfl rfl (Nat.le_of_ble_eq_true rfl) dX1_sayerOf_48 (fun r6 M7 => ?_)
      refine ky_istore (lv' := [(5, .int r6), (4, .int x5), (7, .int r3), (0, .ref (gA G 3)), (3, .int xv3), (6, .int xv6)]) C dX1_sayerOf_51 (by decide) rfl ?_
      refine ky_iload C dX1_sayerOf_53 0 rfl ?_
      refine ky_iconst C (mI 1) dX1_sayerOf_55 (by decide) ?_
      refine ky_icmp_eq C 70 dX1_sayerOf_56 (by decide) ?_ ?_
      · refine ky_iinc (lv' := fun x8 => [(6, .int x8), (5, .int r6), (4, .int x5), (7, .int r3), (0, .ref (gA G 3)), (3, .int xv3)]) C dX1_sayerOf_70 5 rfl (d1 := (1 : Int32)) rfl (by decide) (fun _ => rfl) (fun x8 => ?_)
        refine ky_goto C 16 dX1_sayerOf_73 (by decide) ?_
        exact ky_sub [4, 5, 2, 1, 0] rfl (ih xv3 x5 r6 x8 M7 )
      · refine ky_aload_n C dX1_sayerOf_59 3 rfl ?_
        refine ky_get C (ltS hG) (ceS hG) rfl inWX1 0 (by decide) (wY_in tw_1_149) rfl rfl dX1_sayerOf_60 ?_
        refine ky_iload C dX1_sayerOf_63 0 rfl ?_
        refine ky_dup2 C dX1_sayerOf_65 rfl rfl ?_
        refine ky_iald C (ltN hG) (ceN hG) (tC1 hG) dX1_sayerOf_66 (fun hx9 => ?_)
        refine ky_iconst C (1 : Int32) dX1_sayerOf_67 (by decide) ?_
        refine ky_isub C dX1_sayerOf_68 ?_
        refine ky_nmi (fun x10 => ?_)
        refine ky_iast C (ltN hG) (ceN hG) (tC1 hG) dX1_sayerOf_69 (fun M11 hx12 => ?_)
        refine ky_iinc (lv' := fun x13 => [(6, .int x13), (5, .int r6), (4, .int x5), (7, .int r3), (0, .ref (gA G 3)), (3, .int xv3)]) C dX1_sayerOf_70 5 rfl (d1 := (1 : Int32)) rfl (by decide) (fun _ => rfl) (fun x13 => ?_)
        refine ky_goto C 16 dX1_sayerOf_73 (by decide) ?_
        exact ky_sub [4, 5, 2, 1, 0] rfl (ih xv3 x5 r6 x13 M11 )
def f_X1_sayerOf (F : Nat) (k1 : Nat) (a2 : Int32) (a3 : Int32) (M : Mem) : Option (Int32 × Mem) := bd (f_X1_take F k1 a2 M) (fun r1 M2 => LX1_sayerOf_16 F  F a3 (63 : Int32) (mI 1) (0 : Int32) M2)
set_option maxRecDepth 100000 in
set_option maxHeartbeats 4000000 in
theorem c_X1_sayerOf {G : KyG} {cy : Nat → ClassId} (hG : IsC G cy) (F : Nat)  (k1 : Nat) (a2 : Int32) (a3 : Int32) (M : Mem) (hk1 : isTw k1) : Ct G yX1_sayerOf (wY yX1_sayerOf cX1_sayerOf 8 (some .int)) rmX1_sayerOf rI [.ref (gA G 3), .ref (gA G k1), .int a2, .int a3] (f_X1_sayerOf F k1 a2 a3 M) M := by
  refine Ct_of cX1_sayerOf 8 (some .int) RX1 hG.2.2.2.1 (by decide) rfl rfl (Nat.le_of_ble_eq_true rfl) rfl (fun E C => ?_)
  unfold f_X1_sayerOf
  refine ky_aload_n C dX1_sayerOf_0 0 rfl ?_
  refine ky_aload_n C dX1_sayerOf_1 1 rfl ?_
  refine ky_iload_n C dX1_sayerOf_2 2 rfl ?_
  refine ky_callVv C (c_X1_take hG F k1 a2 M hk1) (ltS hG) (ceS hG) rfl (wY_goodV tw_2_158 tw_2_160 tw_p3 tw_1_6 tw_2_161) hd_X1_take ⟨rfl, rfl, by decide, by decide⟩ rfl rfl (Nat.le_of_ble_eq_true rfl) dX1_sayerOf_3 (fun r1 M2 => ?_)
  refine ky_bipush C (63 : Int32) dX1_sayerOf_6 (by decide) ?_
  refine ky_istore (lv' := [(4, .int (63 : Int32)), (0, .ref (gA G 3)), (1, .ref (gA G k1)), (2, .int a2), (3, .int a3)]) C dX1_sayerOf_8 (by decide) rfl ?_
  refine ky_iconst C (mI 1) dX1_sayerOf_10 (by decide) ?_
  refine ky_istore (lv' := [(5, .int (mI 1)), (4, .int (63 : Int32)), (0, .ref (gA G 3)), (1, .ref (gA G k1)), (2, .int a2), (3, .int a3)]) C dX1_sayerOf_11 (by decide) rfl ?_
  refine ky_iconst C (0 : Int32) dX1_sayerOf_13 (by decide) ?_
  refine ky_istore (lv' := [(6, .int (0 : Int32)), (5, .int (mI 1)), (4, .int (63 : Int32)), (0, .ref (gA G 3)), (1, .ref (gA G k1)), (2, .int a2), (3, .int a3)]) C dX1_sayerOf_14 (by decide) rfl ?_
  exact ky_sub [3, 6, 2, 1, 0] rfl (lX1_sayerOf_16 hG C F   F a3 (63 : Int32) (mI 1) (0 : Int32) M2 )
def rmX4_draw : Room := { frames := 0, cells := 0, slots := 0, locals := 0 }
theorem hd_X4_draw : yX4_draw.cls = RX4 ∧ yX4_draw.cls ≠ "java/lang/invoke/MethodHandle" ∧ yX4_draw.cls ≠ "java/lang/invoke/VarHandle" ∧ (parseMethodDescriptor yX4_draw.desc).map (fun d => d.parameters.length) = some 0 := ⟨rfl, by decide, by decide, by decide +kernel⟩
def f_X4_draw (F : Nat)  (M : Mem) : Option (Int32 × Mem) := nm (((((1103515245 : Int64) * ((M.1 2 1).toInt64)) + (12345 : Int64)) &&& (2147483647 : Int64)).toInt32) (fun x1 => nm (u2 M 2 1 x1) (fun M2 => some (((M2.1 2 1) / (65536 : Int32)) - ((M2.1 2 1) / (65536 : Int32)) / (6 : Int32) * (6 : Int32), M2)))
set_option maxRecDepth 100000 in
set_option maxHeartbeats 4000000 in
theorem c_X4_draw {G : KyG} {cy : Nat → ClassId} (hG : IsC G cy) (F : Nat)   (M : Mem)  : Ct G yX4_draw (wY yX4_draw cX4_draw 1 (some .int)) rmX4_draw rI [.ref (gA G 2)] (f_X4_draw F  M) M := by
  refine Ct_of cX4_draw 1 (some .int) RX4 hG.2.2.2.1 (by decide) rfl rfl (Nat.le_of_ble_eq_true rfl) rfl (fun E C => ?_)
  unfold f_X4_draw
  refine ky_aload_n C dX4_draw_0 0 rfl ?_
  refine ky_ldc2 C (1103515245 : Int64) (wY_in tw_3_12) dX4_draw_1 ?_
  refine ky_aload_n C dX4_draw_4 0 rfl ?_
  refine ky_get C (ltW hG) (ceW hG) rfl inWX4 1 (by decide) (wY_in tw_1_132) rfl rfl dX4_draw_5 ?_
  refine ky_i2l C dX4_draw_8 ?_
  refine ky_lmul C dX4_draw_9 ?_
  refine ky_ldc2 C (12345 : Int64) (wY_in tw_3_13) dX4_draw_10 ?_
  refine ky_ladd C dX4_draw_13 ?_
  refine ky_ldc2 C (2147483647 : Int64) (wY_in tw_3_14) dX4_draw_14 ?_
  refine ky_land C dX4_draw_17 ?_
  refine ky_l2i C dX4_draw_18 ?_
  refine ky_nmi (fun x1 => ?_)
  refine ky_put C (ltW hG) (ceW hG) rfl inWX4 tyX4_ok nmX4 1 (by decide) (wY_in tw_1_132) ⟨rfl, rfl⟩ (tyX4_ok 1 (by decide)) rfl rfl (Nat.le_of_ble_eq_true rfl) rfl dX4_draw_19 (fun M2 => ?_)
  refine ky_aload_n C dX4_draw_22 0 rfl ?_
  refine ky_get C (ltW hG) (ceW hG) rfl inWX4 1 (by decide) (wY_in tw_1_132) rfl rfl dX4_draw_23 ?_
  refine ky_ldc C (65536 : Int32) (wY_in tw_3_15) dX4_draw_26 ?_
  refine ky_idiv C dX4_draw_28 (by decide) ?_
  refine ky_bipush C (6 : Int32) dX4_draw_29 (by decide) ?_
  refine ky_irem C dX4_draw_31 (by decide) ?_
  exact ky_iret C dX4_draw_32
def rmX4_talk : Room := { frames := 2, cells := 0, slots := 0, locals := 44 }
theorem hd_X4_talk : yX4_talk.cls = RX4 ∧ yX4_talk.cls ≠ "java/lang/invoke/MethodHandle" ∧ yX4_talk.cls ≠ "java/lang/invoke/VarHandle" ∧ (parseMethodDescriptor yX4_talk.desc).map (fun d => d.parameters.length) = some 1 := ⟨rfl, by decide, by decide, by decide +kernel⟩
def LX4_talk_5 (F : Nat)  : Nat → Nat → Int32 → Mem → Option (Unit × Mem)
  | 0, _, _, _ => none
  | n + 1, kv1, xv2, M => if xv2 ≤ 0 then (some ((), M)) else (bd (f_X0_hasPaid F kv1 M) (fun r2 M3 => if r2 = 0 then (bd (f_X4_draw F M3) (fun r4 M5 => bd (f_X0_knowsOf F kv1 r4 M5) (fun r6 M7 => if r6 = 0 then (nm (xv2 + (mI 1)) (fun x8 => LX4_talk_5 F n kv1 x8 M7)) else (bd (f_X2_hear F 26 kv1 r4 M7) (fun r9 M10 => if r9 = 0 then (nm (xv2 + (mI 1)) (fun x11 => LX4_talk_5 F n kv1 x11 M10)) else (nm ((M10.1 2 2) + (1 : Int32)) (fun x12 => nm (u2 M10 2 2 x12) (fun M13 => nm (xv2 + (mI 1)) (fun x14 => LX4_talk_5 F n kv1 x14 M13))))))))) else (some ((), M3))))
theorem LX4_talk_5_s (F : Nat)  (n : Nat) (kv1 : Nat) (xv2 : Int32) (M : Mem) : LX4_talk_5 F (n + 1) kv1 xv2 M = (if xv2 ≤ 0 then (some ((), M)) else (bd (f_X0_hasPaid F kv1 M) (fun r2 M3 => if r2 = 0 then (bd (f_X4_draw F M3) (fun r4 M5 => bd (f_X0_knowsOf F kv1 r4 M5) (fun r6 M7 => if r6 = 0 then (nm (xv2 + (mI 1)) (fun x8 => LX4_talk_5 F n kv1 x8 M7)) else (bd (f_X2_hear F 26 kv1 r4 M7) (fun r9 M10 => if r9 = 0 then (nm (xv2 + (mI 1)) (fun x11 => LX4_talk_5 F n kv1 x11 M10)) else (nm ((M10.1 2 2) + (1 : Int32)) (fun x12 => nm (u2 M10 2 2 x12) (fun M13 => nm (xv2 + (mI 1)) (fun x14 => LX4_talk_5 F n kv1 x14 M13))))))))) else (some ((), M3))))) := rfl
set_option maxRecDepth 100000 in
set_option maxHeartbeats 4000000 in
theorem lX4_talk_5 {G : KyG} {cy : Nat → ClassId} (hG : IsC G cy) {E : KyE} (C : Cx G E cX4_talk 4 RX4 (wY yX4_talk cX4_talk 4 none) none rmX4_talk) (F : Nat)   : ∀ (n : Nat) (kv1 : Nat) (xv2 : Int32) (M : Mem) (hkv1 : isCv kv1), Wo G E 4 rV (LX4_talk_5 F n kv1 xv2 M) M 5 [(0, .ref (gA G 2)), (1, .ref (gA G kv1)), (2, .int xv2)] [] := by
  intro n
  induction n with
  | zero => intro kv1 xv2 M hkv1; exact ky_none
  | succ n ih =>
    intro kv1 xv2 M hkv1
    rw [LX4_talk_5_s]
    refine ky_iload_n C dX4_talk_5 2 rfl ?_
    refine ky_if_le C 57 dX4_talk_6 (by decide) ?_ ?_
    · exact ky_vret C dX4_talk_57
    · refine ky_aload_n C dX4_talk_9 1 rfl ?_
      refine ky_callVi C (c_X0_hasPaid hG F kv1 M hkv1) (ltC hG hkv1) (ceC hG hkv1) rfl (wY_goodV tw_3_7 tw_2_96 tw_2_97 tw_1_4 tw_2_98) hd_X0_hasPaid ⟨rfl, rfl, by decide, by decide⟩ rfl rfl (Nat.le_of_ble_eq_true rfl) dX4_talk_10 (fun r2 M3 => ?_)
      refine ky_if_ne C 57 dX4_talk_13 (by decide) ?_ ?_
      · refine ky_aload_n C dX4_talk_16 0 rfl ?_
        refine ky_callVi C (c_X4_draw hG F M3 ) (ltW hG) (ceW hG) rfl (wY_goodV tw_3_8 tw_3_10 tw_p7 tw_1_5 tw_3_11) hd_X4_draw ⟨rfl, rfl, by decide, by decide⟩ rfl rfl (Nat.le_of_ble_eq_true rfl) dX4_talk_17 (fun r4 M5 => ?_)
        refine ky_istore_n (lv' := [(3, .int r4), (0, .ref (gA G 2)), (1, .ref (gA G kv1)), (2, .int xv2)]) C dX4_talk_20 (by decide) rfl ?_
        refine ky_aload_n C dX4_talk_21 2 rfl ?_
        refine ky_iload_n C dX4_talk_22 0 rfl ?_
        refine ky_callVi C (c_X0_knowsOf hG F kv1 r4 M5 hkv1) (ltC hG hkv1) (ceC hG hkv1) rfl (wY_goodV tw_3_16 tw_2_127 tw_2_128 tw_1_4 tw_2_129) hd_X0_knowsOf ⟨rfl, rfl, by decide, by decide⟩ rfl rfl (Nat.le_of_ble_eq_true rfl) dX4_talk_23 (fun r6 M7 => ?_)
        refine ky_if_eq C 51 dX4_talk_26 (by decide) ?_ ?_
        · refine ky_iinc (lv' := fun x8 => [(2, .int x8), (3, .int r4), (0, .ref (gA G 2)), (1, .ref (gA G kv1))]) C dX4_talk_51 3 rfl (d1 := (mI 1)) (by decide) (by decide) (fun _ => rfl) (fun x8 => ?_)
          refine ky_goto C 5 dX4_talk_54 (by decide) ?_
          exact ky_sub [2, 3, 0] rfl (ih kv1 x8 M7 hkv1)
        · refine ky_aload_n C dX4_talk_29 1 rfl ?_
          refine ky_get C (ltW hG) (ceW hG) rfl inWX4 0 (by decide) (wY_in tw_1_130) rfl rfl dX4_talk_30 ?_
          refine ky_aload_n C dX4_talk_33 2 rfl ?_
          refine ky_iload_n C dX4_talk_34 0 rfl ?_
          refine ky_callVi C (c_X2_hear hG F 26 kv1 r4 M7 tw26 hkv1) (ltT hG tw26) (ceT hG tw26) rfl (wY_goodV tw_3_17 tw_2_131 tw_2_132 tw_1_2 tw_2_133) hd_X2_hear ⟨rfl, rfl, by decide, by decide⟩ rfl rfl (Nat.le_of_ble_eq_true rfl) dX4_talk_35 (fun r9 M10 => ?_)
          refine ky_if_eq C 51 dX4_talk_38 (by decide) ?_ ?_
          · refine ky_iinc (lv' := fun x11 => [(2, .int x11), (3, .int r4), (0, .ref (gA G 2)), (1, .ref (gA G kv1))]) C dX4_talk_51 3 rfl (d1 := (mI 1)) (by decide) (by decide) (fun _ => rfl) (fun x11 => ?_)
            refine ky_goto C 5 dX4_talk_54 (by decide) ?_
            exact ky_sub [2, 3, 0] rfl (ih kv1 x11 M10 hkv1)
          · refine ky_aload_n C dX4_talk_41 1 rfl ?_
            refine ky_dup C dX4_talk_42 rfl ?_
            refine ky_get C (ltW hG) (ceW hG) rfl inWX4 2 (by decide) (wY_in tw_1_134) rfl rfl dX4_talk_43 ?_
            refine ky_iconst C (1 : Int32) dX4_talk_46 (by decide) ?_
            refine ky_iadd C dX4_talk_47 ?_
            refine ky_nmi (fun x12 => ?_)
            refine ky_put C (ltW hG) (ceW hG) rfl inWX4 tyX4_ok nmX4 2 (by decide) (wY_in tw_1_134) ⟨rfl, rfl⟩ (tyX4_ok 2 (by decide)) rfl rfl (Nat.le_of_ble_eq_true rfl) rfl dX4_talk_48 (fun M13 => ?_)
            refine ky_iinc (lv' := fun x14 => [(2, .int x14), (3, .int r4), (0, .ref (gA G 2)), (1, .ref (gA G kv1))]) C dX4_talk_51 3 rfl (d1 := (mI 1)) (by decide) (by decide) (fun _ => rfl) (fun x14 => ?_)
            refine ky_goto C 5 dX4_talk_54 (by decide) ?_
            exact ky_sub [2, 3, 0] rfl (ih kv1 x14 M13 hkv1)
      · exact ky_vret C dX4_talk_57
def f_X4_talk (F : Nat) (k1 : Nat) (M : Mem) : Option (Unit × Mem) := nm (M.1 k1 4) (fun x1 => LX4_talk_5 F  F k1 x1 M)
set_option maxRecDepth 100000 in
set_option maxHeartbeats 4000000 in
theorem c_X4_talk {G : KyG} {cy : Nat → ClassId} (hG : IsC G cy) (F : Nat)  (k1 : Nat) (M : Mem) (hk1 : isCv k1) : Ct G yX4_talk (wY yX4_talk cX4_talk 4 none) rmX4_talk rV [.ref (gA G 2), .ref (gA G k1)] (f_X4_talk F k1 M) M := by
  refine Ct_of cX4_talk 4 none RX4 hG.2.2.2.1 (by decide) rfl rfl (Nat.le_of_ble_eq_true rfl) rfl (fun E C => ?_)
  unfold f_X4_talk
  refine ky_aload_n C dX4_talk_0 1 rfl ?_
  refine ky_get C (ltC hG hk1) (ceC hG hk1) rfl inWX0 4 (by decide) (wY_in tw_1_75) rfl rfl dX4_talk_1 ?_
  refine ky_nmi (fun x1 => ?_)
  refine ky_istore_n (lv' := [(2, .int x1), (0, .ref (gA G 2)), (1, .ref (gA G k1))]) C dX4_talk_4 (by decide) rfl ?_
  exact ky_sub [1, 2, 0] rfl (lX4_talk_5 hG C F   F k1 x1 M hk1)
def rmX4_run : Room := { frames := 3, cells := 0, slots := 0, locals := 67 }
theorem hd_X4_run : yX4_run.cls = RX4 ∧ yX4_run.cls ≠ "java/lang/invoke/MethodHandle" ∧ yX4_run.cls ≠ "java/lang/invoke/VarHandle" ∧ (parseMethodDescriptor yX4_run.desc).map (fun d => d.parameters.length) = some 3 := ⟨rfl, by decide, by decide, by decide +kernel⟩
def LX4_run_30 (F : Nat) (q62 : Int32 → Int32 → Mem → Option (Unit × Mem)) : Nat → Int32 → Int32 → Int32 → Mem → Option (Unit × Mem)
  | 0, _, _, _, _ => none
  | n + 1, xv2, xv4, xv5, M => if (M.1 26 2) ≤ xv5 then (q62 xv2 xv4 M) else (gi xv5 4 (bd (f_X4_talk F (26 + 6 + xv5.toNatClampNeg) M) (fun r6 M7 => nm (xv5 + (1 : Int32)) (fun x8 => LX4_run_30 F q62 n xv2 xv4 x8 M7))))
theorem LX4_run_30_s (F : Nat) (q62 : Int32 → Int32 → Mem → Option (Unit × Mem)) (n : Nat) (xv2 : Int32) (xv4 : Int32) (xv5 : Int32) (M : Mem) : LX4_run_30 F q62 (n + 1) xv2 xv4 xv5 M = (if (M.1 26 2) ≤ xv5 then (q62 xv2 xv4 M) else (gi xv5 4 (bd (f_X4_talk F (26 + 6 + xv5.toNatClampNeg) M) (fun r6 M7 => nm (xv5 + (1 : Int32)) (fun x8 => LX4_run_30 F q62 n xv2 xv4 x8 M7))))) := rfl
set_option maxRecDepth 100000 in
set_option maxHeartbeats 4000000 in
theorem lX4_run_30 {G : KyG} {cy : Nat → ClassId} (hG : IsC G cy) {E : KyE} (C : Cx G E cX4_run 6 RX4 (wY yX4_run cX4_run 6 none) none rmX4_run) (F : Nat) (q62 : Int32 → Int32 → Mem → Option (Unit × Mem)) (hq62 : ∀ (xv2 : Int32) (xv4 : Int32) (M : Mem) , Wo G E 6 rV (q62 xv2 xv4 M) M 62 [(0, .ref (gA G 2)), (2, .int xv2), (4, .int xv4)] []) : ∀ (n : Nat) (xv2 : Int32) (xv4 : Int32) (xv5 : Int32) (M : Mem) , Wo G E 6 rV (LX4_run_30 F q62 n xv2 xv4 xv5 M) M 30 [(0, .ref (gA G 2)), (2, .int xv2), (4, .int xv4), (5, .int xv5)] [] := by
  intro n
  induction n with
  | zero => intro xv2 xv4 xv5 M ; exact ky_none
  | succ n ih =>
    intro xv2 xv4 xv5 M 
    rw [LX4_run_30_s]
    refine ky_iload C dX4_run_30 3 rfl ?_
    refine ky_aload_n C dX4_run_32 0 rfl ?_
    refine ky_get C (ltW hG) (ceW hG) rfl inWX4 0 (by decide) (wY_in tw_1_130) rfl rfl dX4_run_33 ?_
    refine ky_get C (ltT hG tw26) (ceT hG tw26) rfl inWX2 2 (by decide) (wY_in tw_1_100) rfl rfl dX4_run_36 ?_
    refine ky_icmp_ge C 62 dX4_run_39 (by decide) ?_ ?_
    · exact ky_sub [0, 1, 2] rfl (hq62 xv2 xv4 M )
    · refine ky_aload_n C dX4_run_42 0 rfl ?_
      refine ky_aload_n C dX4_run_43 0 rfl ?_
      refine ky_get C (ltW hG) (ceW hG) rfl inWX4 0 (by decide) (wY_in tw_1_130) rfl rfl dX4_run_44 ?_
      refine ky_get C (ltT hG tw26) (ceT hG tw26) rfl inWX2 1 (by decide) (wY_in tw_1_96) rfl rfl dX4_run_47 ?_
      refine ky_iload C dX4_run_50 3 rfl ?_
      refine ky_aald C (ltCA hG tw26) (ceCA hG tw26) (tC3 hG) dX4_run_52 (fun hx5 => ?_)
      refine ky_callVv C (c_X4_talk hG F (26 + 6 + xv5.toNatClampNeg) M (isCv_of tw26 hx5)) (ltW hG) (ceW hG) rfl (wY_goodV tw_3_3 tw_3_5 tw_p6 tw_1_5 tw_3_6) hd_X4_talk ⟨rfl, rfl, by decide, by decide⟩ rfl rfl (Nat.le_of_ble_eq_true rfl) dX4_run_53 (fun r6 M7 => ?_)
      refine ky_iinc (lv' := fun x8 => [(5, .int x8), (0, .ref (gA G 2)), (2, .int xv2), (4, .int xv4)]) C dX4_run_56 3 rfl (d1 := (1 : Int32)) rfl (by decide) (fun _ => rfl) (fun x8 => ?_)
      refine ky_goto C 30 dX4_run_59 (by decide) ?_
      exact ky_sub [1, 2, 3, 0] rfl (ih xv2 xv4 x8 M7 )
def LX4_run_21 (F : Nat)  : Nat → Int32 → Int32 → Mem → Option (Unit × Mem)
  | 0, _, _, _ => none
  | n + 1, xv2, xv4, M => if xv2 ≤ xv4 then (some ((), M)) else (LX4_run_30 F (fun y10 y11 M9 => bd (f_X2_beginNextDay F 26 M9) (fun r12 M13 => nm (y11 + (1 : Int32)) (fun x14 => LX4_run_21 F n y10 x14 M13))) F xv2 xv4 (0 : Int32) M)
theorem LX4_run_21_s (F : Nat)  (n : Nat) (xv2 : Int32) (xv4 : Int32) (M : Mem) : LX4_run_21 F (n + 1) xv2 xv4 M = (if xv2 ≤ xv4 then (some ((), M)) else (LX4_run_30 F (fun y10 y11 M9 => bd (f_X2_beginNextDay F 26 M9) (fun r12 M13 => nm (y11 + (1 : Int32)) (fun x14 => LX4_run_21 F n y10 x14 M13))) F xv2 xv4 (0 : Int32) M)) := rfl
set_option maxRecDepth 100000 in
set_option maxHeartbeats 4000000 in
theorem lX4_run_21 {G : KyG} {cy : Nat → ClassId} (hG : IsC G cy) {E : KyE} (C : Cx G E cX4_run 6 RX4 (wY yX4_run cX4_run 6 none) none rmX4_run) (F : Nat)   : ∀ (n : Nat) (xv2 : Int32) (xv4 : Int32) (M : Mem) , Wo G E 6 rV (LX4_run_21 F n xv2 xv4 M) M 21 [(0, .ref (gA G 2)), (2, .int xv2), (4, .int xv4)] [] := by
  intro n
  induction n with
  | zero => intro xv2 xv4 M ; exact ky_none
  | succ n ih =>
    intro xv2 xv4 M 
    rw [LX4_run_21_s]
    refine ky_iload C dX4_run_21 2 rfl ?_
    refine ky_iload_n C dX4_run_23 1 rfl ?_
    refine ky_icmp_ge C 75 dX4_run_24 (by decide) ?_ ?_
    · exact ky_vret C dX4_run_75
    · refine ky_iconst C (0 : Int32) dX4_run_27 (by decide) ?_
      refine ky_istore (lv' := [(5, .int (0 : Int32)), (0, .ref (gA G 2)), (2, .int xv2), (4, .int xv4)]) C dX4_run_28 (by decide) rfl ?_
      refine ky_sub [1, 2, 3, 0] rfl (lX4_run_30 hG C F _ ?_ F xv2 xv4 (0 : Int32) M )
      · intro y10 y11 M9 
        refine ky_aload_n C dX4_run_62 0 rfl ?_
        refine ky_get C (ltW hG) (ceW hG) rfl inWX4 0 (by decide) (wY_in tw_1_130) rfl rfl dX4_run_63 ?_
        refine ky_callVv C (c_X2_beginNextDay hG F 26 M9 tw26) (ltT hG tw26) (ceT hG tw26) rfl (wY_goodV tw_3_18 tw_2_147 tw_2_148 tw_1_2 tw_2_149) hd_X2_beginNextDay ⟨rfl, rfl, by decide, by decide⟩ rfl rfl (Nat.le_of_ble_eq_true rfl) dX4_run_66 (fun r12 M13 => ?_)
        refine ky_iinc (lv' := fun x14 => [(4, .int x14), (0, .ref (gA G 2)), (2, .int y10)]) C dX4_run_69 2 rfl (d1 := (1 : Int32)) rfl (by decide) (fun _ => rfl) (fun x14 => ?_)
        refine ky_goto C 21 dX4_run_72 (by decide) ?_
        exact ky_sub [1, 2, 0] rfl (ih y10 x14 M13 )
def f_X4_run (F : Nat) (k1 : Nat) (a2 : Int32) (a3 : Int32) (M : Mem) : Option (Unit × Mem) := bd (f_X2_copy F 26 k1 M) (fun r1 M2 => nm (u2 M2 2 1 a3) (fun M3 => nm (u2 M3 2 2 (0 : Int32)) (fun M4 => LX4_run_21 F  F a2 (0 : Int32) M4)))
set_option maxRecDepth 100000 in
set_option maxHeartbeats 4000000 in
theorem c_X4_run {G : KyG} {cy : Nat → ClassId} (hG : IsC G cy) (F : Nat)  (k1 : Nat) (a2 : Int32) (a3 : Int32) (M : Mem) (hk1 : isTw k1) : Ct G yX4_run (wY yX4_run cX4_run 6 none) rmX4_run rV [.ref (gA G 2), .ref (gA G k1), .int a2, .int a3] (f_X4_run F k1 a2 a3 M) M := by
  refine Ct_of cX4_run 6 none RX4 hG.2.2.2.1 (by decide) rfl rfl (Nat.le_of_ble_eq_true rfl) rfl (fun E C => ?_)
  unfold f_X4_run
  refine ky_aload_n C dX4_run_0 0 rfl ?_
  refine ky_get C (ltW hG) (ceW hG) rfl inWX4 0 (by decide) (wY_in tw_1_130) rfl rfl dX4_run_1 ?_
  refine ky_aload_n C dX4_run_4 1 rfl ?_
  refine ky_callVv C (c_X2_copy hG F 26 k1 M tw26 hk1) (ltT hG tw26) (ceT hG tw26) rfl (wY_goodV tw_2_231 tw_2_232 tw_2_233 tw_1_2 tw_2_234) hd_X2_copy ⟨rfl, rfl, by decide, by decide⟩ rfl rfl (Nat.le_of_ble_eq_true rfl) dX4_run_5 (fun r1 M2 => ?_)
  refine ky_aload_n C dX4_run_8 0 rfl ?_
  refine ky_iload_n C dX4_run_9 3 rfl ?_
  refine ky_put C (ltW hG) (ceW hG) rfl inWX4 tyX4_ok nmX4 1 (by decide) (wY_in tw_1_132) ⟨rfl, rfl⟩ (tyX4_ok 1 (by decide)) rfl rfl (Nat.le_of_ble_eq_true rfl) rfl dX4_run_10 (fun M3 => ?_)
  refine ky_aload_n C dX4_run_13 0 rfl ?_
  refine ky_iconst C (0 : Int32) dX4_run_14 (by decide) ?_
  refine ky_put C (ltW hG) (ceW hG) rfl inWX4 tyX4_ok nmX4 2 (by decide) (wY_in tw_1_134) ⟨rfl, rfl⟩ (tyX4_ok 2 (by decide)) rfl rfl (Nat.le_of_ble_eq_true rfl) rfl dX4_run_15 (fun M4 => ?_)
  refine ky_iconst C (0 : Int32) dX4_run_18 (by decide) ?_
  refine ky_istore (lv' := [(4, .int (0 : Int32)), (0, .ref (gA G 2)), (1, .ref (gA G k1)), (2, .int a2), (3, .int a3)]) C dX4_run_19 (by decide) rfl ?_
  exact ky_sub [1, 3, 0] rfl (lX4_run_21 hG C F   F a2 (0 : Int32) M4 )
