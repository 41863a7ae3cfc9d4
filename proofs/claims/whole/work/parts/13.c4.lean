def rmX5_isConvict : Room := { frames := 0, cells := 0, slots := 0, locals := 0 }
theorem hd_X5_isConvict : yX5_isConvict.cls = RX5 ∧ yX5_isConvict.cls ≠ "java/lang/invoke/MethodHandle" ∧ yX5_isConvict.cls ≠ "java/lang/invoke/VarHandle" ∧ (parseMethodDescriptor yX5_isConvict.desc).map (fun d => d.parameters.length) = some 1 := ⟨rfl, by decide, by decide, by decide +kernel⟩
def f_X5_isConvict (F : Nat) (a1 : Int32) (M : Mem) : Option (Int32 × Mem) := if a1 < 0 then (some ((0 : Int32), M)) else (if (M.1 6 2) ≤ a1 then (some ((0 : Int32), M)) else (some ((1 : Int32), M)))
set_option maxRecDepth 100000 in
set_option maxHeartbeats 4000000 in
theorem c_X5_isConvict {G : KyG} {cy : Nat → ClassId} (hG : IsC G cy) (F : Nat)  (a1 : Int32) (M : Mem)  : Ct G yX5_isConvict (wY yX5_isConvict cX5_isConvict 2 (some .boolean)) rmX5_isConvict rI [.ref (gA G 0), .int a1] (f_X5_isConvict F a1 M) M := by
  refine Ct_of cX5_isConvict 2 (some .boolean) RX5 hG.2.2.2.1 (by decide) rfl rfl (Nat.le_of_ble_eq_true rfl) rfl (fun E C => ?_)
  unfold f_X5_isConvict
  refine ky_iload_n C dX5_isConvict_0 1 rfl ?_
  refine ky_if_lt C 19 dX5_isConvict_1 (by decide) ?_ ?_
  · refine ky_iconst C (0 : Int32) dX5_isConvict_19 (by decide) ?_
    exact ky_zret C (by decide) dX5_isConvict_20
  · refine ky_iload_n C dX5_isConvict_4 1 rfl ?_
    refine ky_aload_n C dX5_isConvict_5 0 rfl ?_
    refine ky_get C (ltK hG) (ceK hG) rfl inWX5 2 (by decide) (wY_in tw_1_162) rfl rfl dX5_isConvict_6 ?_
    refine ky_get C (ltT hG tw6) (ceT hG tw6) rfl inWX2 2 (by decide) (wY_in tw_1_102) rfl rfl dX5_isConvict_9 ?_
    refine ky_icmp_ge C 19 dX5_isConvict_12 (by decide) ?_ ?_
    · refine ky_iconst C (0 : Int32) dX5_isConvict_19 (by decide) ?_
      exact ky_zret C (by decide) dX5_isConvict_20
    · refine ky_iconst C (1 : Int32) dX5_isConvict_15 (by decide) ?_
      refine ky_goto C 20 dX5_isConvict_16 (by decide) ?_
      exact ky_zret C (by decide) dX5_isConvict_20
def rmX5_about : Room := { frames := 3, cells := 0, slots := 0, locals := 65 }
theorem hd_X5_about : yX5_about.cls = RX5 ∧ yX5_about.cls ≠ "java/lang/invoke/MethodHandle" ∧ yX5_about.cls ≠ "java/lang/invoke/VarHandle" ∧ (parseMethodDescriptor yX5_about.desc).map (fun d => d.parameters.length) = some 2 := ⟨rfl, by decide, by decide, by decide +kernel⟩
def f_X5_about (F : Nat) (a1 : Int32) (a2 : Int32) (M : Mem) : Option (Int32 × Mem) := bd (f_X5_isConvict F a1 M) (fun r1 M2 => if r1 = 0 then (some ((mI 101), M2)) else (if a2 < 0 then (some ((mI 102), M2)) else (if a2 ≤ (8 : Int32) then (gi a1 4 (if a2 = (0 : Int32) then (some (M2.1 (6 + 6 + a1.toNatClampNeg) 0, M2)) else (if a2 = (1 : Int32) then (some (M2.1 (6 + 6 + a1.toNatClampNeg) 1, M2)) else (if a2 = (2 : Int32) then (some (M2.1 (6 + 6 + a1.toNatClampNeg) 2, M2)) else (if a2 = (3 : Int32) then (some (M2.1 (6 + 6 + a1.toNatClampNeg) 3, M2)) else (if a2 = (4 : Int32) then (bd (f_X2_leftTo F 6 (6 + 6 + a1.toNatClampNeg) M2) (fun r12 M13 => some (r12, M13))) else (if a2 = (5 : Int32) then (some (M2.1 (6 + 6 + a1.toNatClampNeg) 4, M2)) else (if a2 = (6 : Int32) then (some (M2.1 (6 + 6 + a1.toNatClampNeg) 5, M2)) else (if a2 = (7 : Int32) then (bd (f_X2_daysFor F 6 (6 + 6 + a1.toNatClampNeg) M2) (fun r14 M15 => some (r14, M15))) else (bd (f_X2_findFor F 6 (6 + 6 + a1.toNatClampNeg) M2) (fun r16 M17 => some (r16, M17)))))))))))) else (some ((mI 102), M2)))))
set_option maxRecDepth 100000 in
set_option maxHeartbeats 4000000 in
theorem c_X5_about {G : KyG} {cy : Nat → ClassId} (hG : IsC G cy) (F : Nat)  (a1 : Int32) (a2 : Int32) (M : Mem)  : Ct G yX5_about (wY yX5_about cX5_about 4 (some .int)) rmX5_about rI [.ref (gA G 0), .int a1, .int a2] (f_X5_about F a1 a2 M) M := by
  refine Ct_of cX5_about 4 (some .int) RX5 hG.2.2.2.1 (by decide) rfl rfl (Nat.le_of_ble_eq_true rfl) rfl (fun E C => ?_)
  unfold f_X5_about
  refine ky_aload_n C dX5_about_0 0 rfl ?_
  refine ky_iload_n C dX5_about_1 1 rfl ?_
  refine ky_callVi C (c_X5_isConvict hG F a1 M ) (ltK hG) (ceK hG) rfl (wY_goodV tw_2_79 tw_2_81 tw_p2 tw_1_1 tw_2_82) hd_X5_isConvict ⟨rfl, rfl, by decide, by decide⟩ rfl rfl (Nat.le_of_ble_eq_true rfl) dX5_about_2 (fun r1 M2 => ?_)
  refine ky_if_ne C 11 dX5_about_5 (by decide) ?_ ?_
  · refine ky_bipush C (mI 101) dX5_about_8 (by decide) ?_
    exact ky_iret C dX5_about_10
  · refine ky_iload_n C dX5_about_11 2 rfl ?_
    refine ky_if_lt C 21 dX5_about_12 (by decide) ?_ ?_
    · refine ky_bipush C (mI 102) dX5_about_21 (by decide) ?_
      exact ky_iret C dX5_about_23
    · refine ky_iload_n C dX5_about_15 2 rfl ?_
      refine ky_bipush C (8 : Int32) dX5_about_16 (by decide) ?_
      refine ky_icmp_le C 24 dX5_about_18 (by decide) ?_ ?_
      · refine ky_aload_n C dX5_about_24 0 rfl ?_
        refine ky_get C (ltK hG) (ceK hG) rfl inWX5 2 (by decide) (wY_in tw_1_162) rfl rfl dX5_about_25 ?_
        refine ky_get C (ltT hG tw6) (ceT hG tw6) rfl inWX2 1 (by decide) (wY_in tw_1_98) rfl rfl dX5_about_28 ?_
        refine ky_iload_n C dX5_about_31 1 rfl ?_
        refine ky_aald C (ltCA hG tw6) (ceCA hG tw6) (tC3 hG) dX5_about_32 (fun hx3 => ?_)
        refine ky_astore_n (lv' := [(3, .ref (gA G (6 + 6 + a1.toNatClampNeg))), (0, .ref (gA G 0)), (1, .int a1), (2, .int a2)]) C dX5_about_33 (by decide) rfl ?_
        refine ky_iload_n C dX5_about_34 3 rfl ?_
        refine ky_swIn C (0 : Int32) 80 dX5_about_35 (by decide) (by decide) rfl (by decide) ?_ (fun hs4 => ?_)
        · refine ky_aload_n C dX5_about_80 0 rfl ?_
          refine ky_get C (ltC hG (isCv_of tw6 hx3)) (ceC hG (isCv_of tw6 hx3)) rfl inWX0 0 (by decide) (wY_in tw_1_63) rfl rfl dX5_about_81 ?_
          exact ky_iret C dX5_about_84
        refine ky_swIn C (1 : Int32) 85 dX5_about_35 (by decide) (by decide) rfl (by decide) ?_ (fun hs5 => ?_)
        · refine ky_aload_n C dX5_about_85 0 rfl ?_
          refine ky_get C (ltC hG (isCv_of tw6 hx3)) (ceC hG (isCv_of tw6 hx3)) rfl inWX0 1 (by decide) (wY_in tw_1_67) rfl rfl dX5_about_86 ?_
          exact ky_iret C dX5_about_89
        refine ky_swIn C (2 : Int32) 90 dX5_about_35 (by decide) (by decide) rfl (by decide) ?_ (fun hs6 => ?_)
        · refine ky_aload_n C dX5_about_90 0 rfl ?_
          refine ky_get C (ltC hG (isCv_of tw6 hx3)) (ceC hG (isCv_of tw6 hx3)) rfl inWX0 2 (by decide) (wY_in tw_1_69) rfl rfl dX5_about_91 ?_
          exact ky_iret C dX5_about_94
        refine ky_swIn C (3 : Int32) 95 dX5_about_35 (by decide) (by decide) rfl (by decide) ?_ (fun hs7 => ?_)
        · refine ky_aload_n C dX5_about_95 0 rfl ?_
          refine ky_get C (ltC hG (isCv_of tw6 hx3)) (ceC hG (isCv_of tw6 hx3)) rfl inWX0 3 (by decide) (wY_in tw_1_73) rfl rfl dX5_about_96 ?_
          exact ky_iret C dX5_about_99
        refine ky_swIn C (4 : Int32) 100 dX5_about_35 (by decide) (by decide) rfl (by decide) ?_ (fun hs8 => ?_)
        · refine ky_aload_n C dX5_about_100 1 rfl ?_
          refine ky_get C (ltK hG) (ceK hG) rfl inWX5 2 (by decide) (wY_in tw_1_162) rfl rfl dX5_about_101 ?_
          refine ky_aload_n C dX5_about_104 0 rfl ?_
          refine ky_callVi C (c_X2_leftTo hG F 6 (6 + 6 + a1.toNatClampNeg) M2 tw6 (isCv_of tw6 hx3)) (ltT hG tw6) (ceT hG tw6) rfl (wY_goodV tw_2_83 tw_2_84 tw_2_85 tw_1_2 tw_2_86) hd_X2_leftTo ⟨rfl, rfl, by decide, by decide⟩ rfl rfl (Nat.le_of_ble_eq_true rfl) dX5_about_105 (fun r12 M13 => ?_)
          exact ky_iret C dX5_about_108
        refine ky_swIn C (5 : Int32) 109 dX5_about_35 (by decide) (by decide) rfl (by decide) ?_ (fun hs9 => ?_)
        · refine ky_aload_n C dX5_about_109 0 rfl ?_
          refine ky_get C (ltC hG (isCv_of tw6 hx3)) (ceC hG (isCv_of tw6 hx3)) rfl inWX0 4 (by decide) (wY_in tw_1_77) rfl rfl dX5_about_110 ?_
          exact ky_iret C dX5_about_113
        refine ky_swIn C (6 : Int32) 114 dX5_about_35 (by decide) (by decide) rfl (by decide) ?_ (fun hs10 => ?_)
        · refine ky_aload_n C dX5_about_114 0 rfl ?_
          refine ky_get C (ltC hG (isCv_of tw6 hx3)) (ceC hG (isCv_of tw6 hx3)) rfl inWX0 5 (by decide) (wY_in tw_1_79) rfl rfl dX5_about_115 ?_
          exact ky_iret C dX5_about_118
        refine ky_swIn C (7 : Int32) 119 dX5_about_35 (by decide) (by decide) rfl (by decide) ?_ (fun hs11 => ?_)
        · refine ky_aload_n C dX5_about_119 1 rfl ?_
          refine ky_get C (ltK hG) (ceK hG) rfl inWX5 2 (by decide) (wY_in tw_1_162) rfl rfl dX5_about_120 ?_
          refine ky_aload_n C dX5_about_123 0 rfl ?_
          refine ky_callVi C (c_X2_daysFor hG F 6 (6 + 6 + a1.toNatClampNeg) M2 tw6 (isCv_of tw6 hx3)) (ltT hG tw6) (ceT hG tw6) rfl (wY_goodV tw_2_91 tw_2_92 tw_2_93 tw_1_2 tw_2_94) hd_X2_daysFor ⟨rfl, rfl, by decide, by decide⟩ rfl rfl (Nat.le_of_ble_eq_true rfl) dX5_about_124 (fun r14 M15 => ?_)
          exact ky_iret C dX5_about_127
        refine ky_swOut C 128 dX5_about_35 (sw_all 8 7 (by decide) (by decide) (fun j hj => by match j, hj with | 0, _ => exact hs4 | 1, _ => exact hs5 | 2, _ => exact hs6 | 3, _ => exact hs7 | 4, _ => exact hs8 | 5, _ => exact hs9 | 6, _ => exact hs10 | 7, _ => exact hs11 | j + 8, hj => exact absurd hj (by omega))) (by decide) ?_
        refine ky_aload_n C dX5_about_128 1 rfl ?_
        refine ky_get C (ltK hG) (ceK hG) rfl inWX5 2 (by decide) (wY_in tw_1_162) rfl rfl dX5_about_129 ?_
        refine ky_aload_n C dX5_about_132 0 rfl ?_
        refine ky_callVi C (c_X2_findFor hG F 6 (6 + 6 + a1.toNatClampNeg) M2 tw6 (isCv_of tw6 hx3)) (ltT hG tw6) (ceT hG tw6) rfl (wY_goodV tw_2_106 tw_2_107 tw_2_108 tw_1_2 tw_2_109) hd_X2_findFor ⟨rfl, rfl, by decide, by decide⟩ rfl rfl (Nat.le_of_ble_eq_true rfl) dX5_about_133 (fun r16 M17 => ?_)
        exact ky_iret C dX5_about_136
      · refine ky_bipush C (mI 102) dX5_about_21 (by decide) ?_
        exact ky_iret C dX5_about_23
def rmX5_isKind : Room := { frames := 0, cells := 0, slots := 0, locals := 0 }
theorem hd_X5_isKind : yX5_isKind.cls ≠ "java/lang/invoke/MethodHandle" ∧ yX5_isKind.cls ≠ "java/lang/invoke/VarHandle" ∧ (parseMethodDescriptor yX5_isKind.desc).map (fun d => d.parameters.length) = some 1 := ⟨by decide, by decide, by decide +kernel⟩
def f_X5_isKind (F : Nat) (a0 : Int32) (M : Mem) : Option (Int32 × Mem) := if a0 < 0 then (some ((0 : Int32), M)) else (if (4 : Int32) < a0 then (some ((0 : Int32), M)) else (some ((1 : Int32), M)))
set_option maxRecDepth 100000 in
set_option maxHeartbeats 4000000 in
theorem c_X5_isKind {G : KyG} {cy : Nat → ClassId} (hG : IsC G cy) (F : Nat)  (a0 : Int32) (M : Mem)  : Ct G yX5_isKind (wY yX5_isKind cX5_isKind 1 (some .boolean)) rmX5_isKind rI [.int a0] (f_X5_isKind F a0 M) M := by
  refine Ct_of cX5_isKind 1 (some .boolean) RX5 hG.2.2.2.1 (by decide) rfl rfl (Nat.le_of_ble_eq_true rfl) rfl (fun E C => ?_)
  unfold f_X5_isKind
  refine ky_iload_n C dX5_isKind_0 0 rfl ?_
  refine ky_if_lt C 13 dX5_isKind_1 (by decide) ?_ ?_
  · refine ky_iconst C (0 : Int32) dX5_isKind_13 (by decide) ?_
    exact ky_zret C (by decide) dX5_isKind_14
  · refine ky_iload_n C dX5_isKind_4 0 rfl ?_
    refine ky_iconst C (4 : Int32) dX5_isKind_5 (by decide) ?_
    refine ky_icmp_gt C 13 dX5_isKind_6 (by decide) ?_ ?_
    · refine ky_iconst C (0 : Int32) dX5_isKind_13 (by decide) ?_
      exact ky_zret C (by decide) dX5_isKind_14
    · refine ky_iconst C (1 : Int32) dX5_isKind_9 (by decide) ?_
      refine ky_goto C 14 dX5_isKind_10 (by decide) ?_
      exact ky_zret C (by decide) dX5_isKind_14
def rmX5_as : Room := { frames := 1, cells := 0, slots := 0, locals := 21 }
theorem hd_X5_as : yX5_as.cls = RX5 ∧ yX5_as.cls ≠ "java/lang/invoke/MethodHandle" ∧ yX5_as.cls ≠ "java/lang/invoke/VarHandle" ∧ (parseMethodDescriptor yX5_as.desc).map (fun d => d.parameters.length) = some 2 := ⟨rfl, by decide, by decide, by decide +kernel⟩
def f_X5_as (F : Nat) (a1 : Int32) (a2 : Int32) (M : Mem) : Option (Int32 × Mem) := bd (f_X5_isConvict F a1 M) (fun r1 M2 => if r1 = 0 then (some ((mI 101), M2)) else (bd (f_X5_isKind F a2 M2) (fun r3 M4 => if r3 = 0 then (some ((mI 102), M4)) else (gi a1 4 (bd (f_X0_isA F (6 + 6 + a1.toNatClampNeg) a2 M4) (fun r6 M7 => if r6 = 0 then (some ((mI 1), M7)) else (some (a1, M7))))))))
set_option maxRecDepth 100000 in
set_option maxHeartbeats 4000000 in
theorem c_X5_as {G : KyG} {cy : Nat → ClassId} (hG : IsC G cy) (F : Nat)  (a1 : Int32) (a2 : Int32) (M : Mem)  : Ct G yX5_as (wY yX5_as cX5_as 3 (some .int)) rmX5_as rI [.ref (gA G 0), .int a1, .int a2] (f_X5_as F a1 a2 M) M := by
  refine Ct_of cX5_as 3 (some .int) RX5 hG.2.2.2.1 (by decide) rfl rfl (Nat.le_of_ble_eq_true rfl) rfl (fun E C => ?_)
  unfold f_X5_as
  refine ky_aload_n C dX5_as_0 0 rfl ?_
  refine ky_iload_n C dX5_as_1 1 rfl ?_
  refine ky_callVi C (c_X5_isConvict hG F a1 M ) (ltK hG) (ceK hG) rfl (wY_goodV tw_2_79 tw_2_81 tw_p2 tw_1_1 tw_2_82) hd_X5_isConvict ⟨rfl, rfl, by decide, by decide⟩ rfl rfl (Nat.le_of_ble_eq_true rfl) dX5_as_2 (fun r1 M2 => ?_)
  refine ky_if_ne C 11 dX5_as_5 (by decide) ?_ ?_
  · refine ky_bipush C (mI 101) dX5_as_8 (by decide) ?_
    exact ky_iret C dX5_as_10
  · refine ky_iload_n C dX5_as_11 2 rfl ?_
    refine ky_callSi C (c_X5_isKind hG F a2 M2 ) (wY_goodS tw_2_64 tw_2_65 tw_1_1 tw_2_66) hd_X5_isKind ⟨rfl, rfl, by decide, by decide⟩ rfl rfl (Nat.le_of_ble_eq_true rfl) dX5_as_12 (fun r3 M4 => ?_)
    refine ky_if_ne C 21 dX5_as_15 (by decide) ?_ ?_
    · refine ky_bipush C (mI 102) dX5_as_18 (by decide) ?_
      exact ky_iret C dX5_as_20
    · refine ky_aload_n C dX5_as_21 0 rfl ?_
      refine ky_get C (ltK hG) (ceK hG) rfl inWX5 2 (by decide) (wY_in tw_1_162) rfl rfl dX5_as_22 ?_
      refine ky_get C (ltT hG tw6) (ceT hG tw6) rfl inWX2 1 (by decide) (wY_in tw_1_98) rfl rfl dX5_as_25 ?_
      refine ky_iload_n C dX5_as_28 1 rfl ?_
      refine ky_aald C (ltCA hG tw6) (ceCA hG tw6) (tC3 hG) dX5_as_29 (fun hx5 => ?_)
      refine ky_iload_n C dX5_as_30 2 rfl ?_
      refine ky_callVi C (c_X0_isA hG F (6 + 6 + a1.toNatClampNeg) a2 M4 (isCv_of tw6 hx5)) (ltC hG (isCv_of tw6 hx5)) (ceC hG (isCv_of tw6 hx5)) rfl (wY_goodV tw_2_114 tw_2_115 tw_2_116 tw_1_4 tw_2_117) hd_X0_isA ⟨rfl, rfl, by decide, by decide⟩ rfl rfl (Nat.le_of_ble_eq_true rfl) dX5_as_31 (fun r6 M7 => ?_)
      refine ky_if_eq C 41 dX5_as_34 (by decide) ?_ ?_
      · refine ky_iconst C (mI 1) dX5_as_41 (by decide) ?_
        exact ky_iret C dX5_as_42
      · refine ky_iload_n C dX5_as_37 1 rfl ?_
        refine ky_goto C 42 dX5_as_38 (by decide) ?_
        exact ky_iret C dX5_as_42
def rmX5_isVictim : Room := { frames := 0, cells := 0, slots := 0, locals := 0 }
theorem hd_X5_isVictim : yX5_isVictim.cls = RX5 ∧ yX5_isVictim.cls ≠ "java/lang/invoke/MethodHandle" ∧ yX5_isVictim.cls ≠ "java/lang/invoke/VarHandle" ∧ (parseMethodDescriptor yX5_isVictim.desc).map (fun d => d.parameters.length) = some 1 := ⟨rfl, by decide, by decide, by decide +kernel⟩
def f_X5_isVictim (F : Nat) (a1 : Int32) (M : Mem) : Option (Int32 × Mem) := if (M.1 0 6) = 0 then (some ((0 : Int32), M)) else (if a1 < 0 then (some ((0 : Int32), M)) else (if (3 : Int32) ≤ a1 then (some ((0 : Int32), M)) else (some ((1 : Int32), M))))
set_option maxRecDepth 100000 in
set_option maxHeartbeats 4000000 in
theorem c_X5_isVictim {G : KyG} {cy : Nat → ClassId} (hG : IsC G cy) (F : Nat)  (a1 : Int32) (M : Mem)  : Ct G yX5_isVictim (wY yX5_isVictim cX5_isVictim 2 (some .boolean)) rmX5_isVictim rI [.ref (gA G 0), .int a1] (f_X5_isVictim F a1 M) M := by
  refine Ct_of cX5_isVictim 2 (some .boolean) RX5 hG.2.2.2.1 (by decide) rfl rfl (Nat.le_of_ble_eq_true rfl) rfl (fun E C => ?_)
  unfold f_X5_isVictim
  refine ky_aload_n C dX5_isVictim_0 0 rfl ?_
  refine ky_get C (ltK hG) (ceK hG) rfl inWX5 6 (by decide) (wY_in tw_1_166) rfl rfl dX5_isVictim_1 ?_
  refine ky_if_eq C 20 dX5_isVictim_4 (by decide) ?_ ?_
  · refine ky_iconst C (0 : Int32) dX5_isVictim_20 (by decide) ?_
    exact ky_zret C (by decide) dX5_isVictim_21
  · refine ky_iload_n C dX5_isVictim_7 1 rfl ?_
    refine ky_if_lt C 20 dX5_isVictim_8 (by decide) ?_ ?_
    · refine ky_iconst C (0 : Int32) dX5_isVictim_20 (by decide) ?_
      exact ky_zret C (by decide) dX5_isVictim_21
    · refine ky_iload_n C dX5_isVictim_11 1 rfl ?_
      refine ky_iconst C (3 : Int32) dX5_isVictim_12 (by decide) ?_
      refine ky_icmp_ge C 20 dX5_isVictim_13 (by decide) ?_ ?_
      · refine ky_iconst C (0 : Int32) dX5_isVictim_20 (by decide) ?_
        exact ky_zret C (by decide) dX5_isVictim_21
      · refine ky_iconst C (1 : Int32) dX5_isVictim_16 (by decide) ?_
        refine ky_goto C 21 dX5_isVictim_17 (by decide) ?_
        exact ky_zret C (by decide) dX5_isVictim_21
def rmX5_attempt : Room := { frames := 3, cells := 0, slots := 0, locals := 62 }
theorem hd_X5_attempt : yX5_attempt.cls = RX5 ∧ yX5_attempt.cls ≠ "java/lang/invoke/MethodHandle" ∧ yX5_attempt.cls ≠ "java/lang/invoke/VarHandle" ∧ (parseMethodDescriptor yX5_attempt.desc).map (fun d => d.parameters.length) = some 1 := ⟨rfl, by decide, by decide, by decide +kernel⟩
def f_X5_attempt (F : Nat) (a1 : Int32) (M : Mem) : Option (Int32 × Mem) := bd (f_X5_isVictim F a1 M) (fun r1 M2 => if r1 = 0 then (some ((mI 101), M2)) else (gi a1 3 (bd (f_X3_sayingToTry F (6 + 3 + a1.toNatClampNeg) M2) (fun r4 M5 => some (r4, M5)))))
set_option maxRecDepth 100000 in
set_option maxHeartbeats 4000000 in
theorem c_X5_attempt {G : KyG} {cy : Nat → ClassId} (hG : IsC G cy) (F : Nat)  (a1 : Int32) (M : Mem)  : Ct G yX5_attempt (wY yX5_attempt cX5_attempt 2 (some .int)) rmX5_attempt rI [.ref (gA G 0), .int a1] (f_X5_attempt F a1 M) M := by
  refine Ct_of cX5_attempt 2 (some .int) RX5 hG.2.2.2.1 (by decide) rfl rfl (Nat.le_of_ble_eq_true rfl) rfl (fun E C => ?_)
  unfold f_X5_attempt
  refine ky_aload_n C dX5_attempt_0 0 rfl ?_
  refine ky_iload_n C dX5_attempt_1 1 rfl ?_
  refine ky_callVi C (c_X5_isVictim hG F a1 M ) (ltK hG) (ceK hG) rfl (wY_goodV tw_2_48 tw_2_50 tw_p1 tw_1_1 tw_2_51) hd_X5_isVictim ⟨rfl, rfl, by decide, by decide⟩ rfl rfl (Nat.le_of_ble_eq_true rfl) dX5_attempt_2 (fun r1 M2 => ?_)
  refine ky_if_ne C 11 dX5_attempt_5 (by decide) ?_ ?_
  · refine ky_bipush C (mI 101) dX5_attempt_8 (by decide) ?_
    exact ky_iret C dX5_attempt_10
  · refine ky_aload_n C dX5_attempt_11 0 rfl ?_
    refine ky_get C (ltK hG) (ceK hG) rfl inWX5 2 (by decide) (wY_in tw_1_162) rfl rfl dX5_attempt_12 ?_
    refine ky_get C (ltT hG tw6) (ceT hG tw6) rfl inWX2 0 (by decide) (wY_in tw_1_94) rfl rfl dX5_attempt_15 ?_
    refine ky_iload_n C dX5_attempt_18 1 rfl ?_
    refine ky_aald C (ltVA hG tw6) (ceVA hG tw6) (tC2 hG) dX5_attempt_19 (fun hx3 => ?_)
    refine ky_callVi C (c_X3_sayingToTry hG F (6 + 3 + a1.toNatClampNeg) M2 (isVi_of tw6 hx3)) (ltV hG (isVi_of tw6 hx3)) (ceV hG (isVi_of tw6 hx3)) rfl (wY_goodV tw_2_218 tw_2_219 tw_2_220 tw_1_3 tw_2_221) hd_X3_sayingToTry ⟨rfl, rfl, by decide, by decide⟩ rfl rfl (Nat.le_of_ble_eq_true rfl) dX5_attempt_20 (fun r4 M5 => ?_)
    exact ky_iret C dX5_attempt_23
def rmX5_blank : Room := { frames := 0, cells := 0, slots := 0, locals := 0 }
theorem hd_X5_blank : yX5_blank.cls = RX5 ∧ yX5_blank.cls ≠ "java/lang/invoke/MethodHandle" ∧ yX5_blank.cls ≠ "java/lang/invoke/VarHandle" ∧ (parseMethodDescriptor yX5_blank.desc).map (fun d => d.parameters.length) = some 0 := ⟨rfl, by decide, by decide, by decide +kernel⟩
def f_X5_blank (F : Nat)  (M : Mem) : Option (Int32 × Mem) := nm (M.1 0 1) (fun x1 => nm (u2 M 0 1 (0 : Int32)) (fun M2 => some (x1, M2)))
set_option maxRecDepth 100000 in
set_option maxHeartbeats 4000000 in
theorem c_X5_blank {G : KyG} {cy : Nat → ClassId} (hG : IsC G cy) (F : Nat)   (M : Mem)  : Ct G yX5_blank (wY yX5_blank cX5_blank 2 (some .int)) rmX5_blank rI [.ref (gA G 0)] (f_X5_blank F  M) M := by
  refine Ct_of cX5_blank 2 (some .int) RX5 hG.2.2.2.1 (by decide) rfl rfl (Nat.le_of_ble_eq_true rfl) rfl (fun E C => ?_)
  unfold f_X5_blank
  refine ky_aload_n C dX5_blank_0 0 rfl ?_
  refine ky_get C (ltK hG) (ceK hG) rfl inWX5 1 (by decide) (wY_in tw_1_161) rfl rfl dX5_blank_1 ?_
  refine ky_nmi (fun x1 => ?_)
  refine ky_istore_n (lv' := [(1, .int x1), (0, .ref (gA G 0))]) C dX5_blank_4 (by decide) rfl ?_
  refine ky_aload_n C dX5_blank_5 1 rfl ?_
  refine ky_iconst C (0 : Int32) dX5_blank_6 (by decide) ?_
  refine ky_put C (ltK hG) (ceK hG) rfl inWX5 tyX5_ok nmX5 1 (by decide) (wY_in tw_1_161) ⟨rfl, rfl⟩ (tyX5_ok 1 (by decide)) rfl rfl (Nat.le_of_ble_eq_true rfl) rfl dX5_blank_7 (fun M2 => ?_)
  refine ky_iload_n C dX5_blank_10 0 rfl ?_
  exact ky_iret C dX5_blank_11
def rmX5_convict : Room := { frames := 2, cells := 0, slots := 0, locals := 44 }
theorem hd_X5_convict : yX5_convict.cls = RX5 ∧ yX5_convict.cls ≠ "java/lang/invoke/MethodHandle" ∧ yX5_convict.cls ≠ "java/lang/invoke/VarHandle" ∧ (parseMethodDescriptor yX5_convict.desc).map (fun d => d.parameters.length) = some 4 := ⟨rfl, by decide, by decide, by decide +kernel⟩
def f_X5_convict (F : Nat) (a1 : Int32) (a2 : Int32) (a3 : Int32) (a4 : Int32) (M : Mem) : Option (Int32 × Mem) := bd (f_X5_isKind F a1 M) (fun r1 M2 => if r1 = 0 then (some ((mI 102), M2)) else (if a3 < (1 : Int32) then (some ((mI 102), M2)) else (if (9 : Int32) < a3 then (some ((mI 102), M2)) else (if a4 < 0 then (some ((mI 102), M2)) else (if a4 ≤ (63 : Int32) then (bd (f_X5_isVictim F a2 M2) (fun r3 M4 => if r3 = 0 then (some ((mI 101), M4)) else (if (M4.1 6 2) < (4 : Int32) then (nm (M4.1 6 2) (fun x5 => gi x5 4 (bd (f_X0_begin F (6 + 6 + x5.toNatClampNeg) a1 a2 a3 a4 M4) (fun r7 M8 => nm ((M8.1 6 2) + (1 : Int32)) (fun x9 => nm (u2 M8 6 2 x9) (fun M10 => some (x5, M10))))))) else (some ((mI 104), M4))))) else (some ((mI 102), M2)))))))
set_option maxRecDepth 100000 in
set_option maxHeartbeats 4000000 in
theorem c_X5_convict {G : KyG} {cy : Nat → ClassId} (hG : IsC G cy) (F : Nat)  (a1 : Int32) (a2 : Int32) (a3 : Int32) (a4 : Int32) (M : Mem)  : Ct G yX5_convict (wY yX5_convict cX5_convict 6 (some .int)) rmX5_convict rI [.ref (gA G 0), .int a1, .int a2, .int a3, .int a4] (f_X5_convict F a1 a2 a3 a4 M) M := by
  refine Ct_of cX5_convict 6 (some .int) RX5 hG.2.2.2.1 (by decide) rfl rfl (Nat.le_of_ble_eq_true rfl) rfl (fun E C => ?_)
  unfold f_X5_convict
  refine ky_iload_n C dX5_convict_0 1 rfl ?_
  refine ky_callSi C (c_X5_isKind hG F a1 M ) (wY_goodS tw_2_64 tw_2_65 tw_1_1 tw_2_66) hd_X5_isKind ⟨rfl, rfl, by decide, by decide⟩ rfl rfl (Nat.le_of_ble_eq_true rfl) dX5_convict_1 (fun r1 M2 => ?_)
  refine ky_if_eq C 30 dX5_convict_4 (by decide) ?_ ?_
  · refine ky_bipush C (mI 102) dX5_convict_30 (by decide) ?_
    exact ky_iret C dX5_convict_32
  · refine ky_iload_n C dX5_convict_7 3 rfl ?_
    refine ky_iconst C (1 : Int32) dX5_convict_8 (by decide) ?_
    refine ky_icmp_lt C 30 dX5_convict_9 (by decide) ?_ ?_
    · refine ky_bipush C (mI 102) dX5_convict_30 (by decide) ?_
      exact ky_iret C dX5_convict_32
    · refine ky_iload_n C dX5_convict_12 3 rfl ?_
      refine ky_bipush C (9 : Int32) dX5_convict_13 (by decide) ?_
      refine ky_icmp_gt C 30 dX5_convict_15 (by decide) ?_ ?_
      · refine ky_bipush C (mI 102) dX5_convict_30 (by decide) ?_
        exact ky_iret C dX5_convict_32
      · refine ky_iload C dX5_convict_18 4 rfl ?_
        refine ky_if_lt C 30 dX5_convict_20 (by decide) ?_ ?_
        · refine ky_bipush C (mI 102) dX5_convict_30 (by decide) ?_
          exact ky_iret C dX5_convict_32
        · refine ky_iload C dX5_convict_23 4 rfl ?_
          refine ky_bipush C (63 : Int32) dX5_convict_25 (by decide) ?_
          refine ky_icmp_le C 33 dX5_convict_27 (by decide) ?_ ?_
          · refine ky_aload_n C dX5_convict_33 0 rfl ?_
            refine ky_iload_n C dX5_convict_34 2 rfl ?_
            refine ky_callVi C (c_X5_isVictim hG F a2 M2 ) (ltK hG) (ceK hG) rfl (wY_goodV tw_2_48 tw_2_50 tw_p1 tw_1_1 tw_2_51) hd_X5_isVictim ⟨rfl, rfl, by decide, by decide⟩ rfl rfl (Nat.le_of_ble_eq_true rfl) dX5_convict_35 (fun r3 M4 => ?_)
            refine ky_if_ne C 44 dX5_convict_38 (by decide) ?_ ?_
            · refine ky_bipush C (mI 101) dX5_convict_41 (by decide) ?_
              exact ky_iret C dX5_convict_43
            · refine ky_aload_n C dX5_convict_44 0 rfl ?_
              refine ky_get C (ltK hG) (ceK hG) rfl inWX5 2 (by decide) (wY_in tw_1_162) rfl rfl dX5_convict_45 ?_
              refine ky_get C (ltT hG tw6) (ceT hG tw6) rfl inWX2 2 (by decide) (wY_in tw_1_102) rfl rfl dX5_convict_48 ?_
              refine ky_iconst C (4 : Int32) dX5_convict_51 (by decide) ?_
              refine ky_icmp_lt C 58 dX5_convict_52 (by decide) ?_ ?_
              · refine ky_aload_n C dX5_convict_58 0 rfl ?_
                refine ky_get C (ltK hG) (ceK hG) rfl inWX5 2 (by decide) (wY_in tw_1_162) rfl rfl dX5_convict_59 ?_
                refine ky_get C (ltT hG tw6) (ceT hG tw6) rfl inWX2 2 (by decide) (wY_in tw_1_102) rfl rfl dX5_convict_62 ?_
                refine ky_nmi (fun x5 => ?_)
                refine ky_istore (lv' := [(5, .int x5), (0, .ref (gA G 0)), (1, .int a1), (2, .int a2), (3, .int a3), (4, .int a4)]) C dX5_convict_65 (by decide) rfl ?_
                refine ky_aload_n C dX5_convict_67 1 rfl ?_
                refine ky_get C (ltK hG) (ceK hG) rfl inWX5 2 (by decide) (wY_in tw_1_162) rfl rfl dX5_convict_68 ?_
                refine ky_get C (ltT hG tw6) (ceT hG tw6) rfl inWX2 1 (by decide) (wY_in tw_1_98) rfl rfl dX5_convict_71 ?_
                refine ky_iload C dX5_convict_74 0 rfl ?_
                refine ky_aald C (ltCA hG tw6) (ceCA hG tw6) (tC3 hG) dX5_convict_76 (fun hx6 => ?_)
                refine ky_iload_n C dX5_convict_77 2 rfl ?_
                refine ky_iload_n C dX5_convict_78 3 rfl ?_
                refine ky_iload_n C dX5_convict_79 4 rfl ?_
                refine ky_iload C dX5_convict_80 5 rfl ?_
                refine ky_callVv C (c_X0_begin hG F (6 + 6 + x5.toNatClampNeg) a1 a2 a3 a4 M4 (isCv_of tw6 hx6)) (ltC hG (isCv_of tw6 hx6)) (ceC hG (isCv_of tw6 hx6)) rfl (wY_goodV tw_2_67 tw_2_68 tw_2_69 tw_1_4 tw_2_70) hd_X0_begin ⟨rfl, rfl, by decide, by decide⟩ rfl rfl (Nat.le_of_ble_eq_true rfl) dX5_convict_82 (fun r7 M8 => ?_)
                refine ky_aload_n C dX5_convict_85 1 rfl ?_
                refine ky_get C (ltK hG) (ceK hG) rfl inWX5 2 (by decide) (wY_in tw_1_162) rfl rfl dX5_convict_86 ?_
                refine ky_dup C dX5_convict_89 rfl ?_
                refine ky_get C (ltT hG tw6) (ceT hG tw6) rfl inWX2 2 (by decide) (wY_in tw_1_102) rfl rfl dX5_convict_90 ?_
                refine ky_iconst C (1 : Int32) dX5_convict_93 (by decide) ?_
                refine ky_iadd C dX5_convict_94 ?_
                refine ky_nmi (fun x9 => ?_)
                refine ky_put C (ltT hG tw6) (ceT hG tw6) rfl inWX2 tyX2_ok nmX2 2 (by decide) (wY_in tw_1_102) ⟨rfl, rfl⟩ (tyX2_ok 2 (by decide)) rfl rfl (Nat.le_of_ble_eq_true rfl) rfl dX5_convict_95 (fun M10 => ?_)
                refine ky_iload C dX5_convict_98 0 rfl ?_
                exact ky_iret C dX5_convict_100
              · refine ky_bipush C (mI 104) dX5_convict_55 (by decide) ?_
                exact ky_iret C dX5_convict_57
          · refine ky_bipush C (mI 102) dX5_convict_30 (by decide) ?_
            exact ky_iret C dX5_convict_32
def rmX5_count : Room := { frames := 2, cells := 0, slots := 0, locals := 42 }
theorem hd_X5_count : yX5_count.cls = RX5 ∧ yX5_count.cls ≠ "java/lang/invoke/MethodHandle" ∧ yX5_count.cls ≠ "java/lang/invoke/VarHandle" ∧ (parseMethodDescriptor yX5_count.desc).map (fun d => d.parameters.length) = some 1 := ⟨rfl, by decide, by decide, by decide +kernel⟩
def f_X5_count (F : Nat) (a1 : Int32) (M : Mem) : Option (Int32 × Mem) := if a1 < 0 then (some ((mI 102), M)) else (if a1 ≤ (9 : Int32) then (if a1 = (0 : Int32) then (bd (f_X2_truthsOfAll F 6 M) (fun r10 M11 => some (r10, M11))) else (if a1 = (1 : Int32) then (some (M.1 6 3, M)) else (if a1 = (2 : Int32) then (some (M.1 6 2, M)) else (if a1 = (3 : Int32) then (bd (f_X2_paidCount F 6 M) (fun r12 M13 => some (r12, M13))) else (if a1 = (4 : Int32) then (bd (f_X2_allConvicts F 6 M) (fun r14 M15 => bd (f_X2_finesOf F 6 r14 M15) (fun r16 M17 => some (r16, M17)))) else (if a1 = (5 : Int32) then (bd (f_X2_usedOfAll F 6 M) (fun r18 M19 => some (r18, M19))) else (if a1 = (6 : Int32) then (some (M.1 6 4, M)) else (if a1 = (7 : Int32) then (some (M.1 6 5, M)) else (if a1 = (8 : Int32) then (some (M.1 0 1, M)) else (some (M.1 0 8, M))))))))))) else (some ((mI 102), M)))
set_option maxRecDepth 100000 in
set_option maxHeartbeats 4000000 in
theorem c_X5_count {G : KyG} {cy : Nat → ClassId} (hG : IsC G cy) (F : Nat)  (a1 : Int32) (M : Mem)  : Ct G yX5_count (wY yX5_count cX5_count 2 (some .int)) rmX5_count rI [.ref (gA G 0), .int a1] (f_X5_count F a1 M) M := by
  refine Ct_of cX5_count 2 (some .int) RX5 hG.2.2.2.1 (by decide) rfl rfl (Nat.le_of_ble_eq_true rfl) rfl (fun E C => ?_)
  unfold f_X5_count
  refine ky_iload_n C dX5_count_0 1 rfl ?_
  refine ky_if_lt C 10 dX5_count_1 (by decide) ?_ ?_
  · refine ky_bipush C (mI 102) dX5_count_10 (by decide) ?_
    exact ky_iret C dX5_count_12
  · refine ky_iload_n C dX5_count_4 1 rfl ?_
    refine ky_bipush C (9 : Int32) dX5_count_5 (by decide) ?_
    refine ky_icmp_le C 13 dX5_count_7 (by decide) ?_ ?_
    · refine ky_iload_n C dX5_count_13 1 rfl ?_
      refine ky_swIn C (0 : Int32) 64 dX5_count_14 (by decide) (by decide) rfl (by decide) ?_ (fun hs1 => ?_)
      · refine ky_aload_n C dX5_count_64 0 rfl ?_
        refine ky_get C (ltK hG) (ceK hG) rfl inWX5 2 (by decide) (wY_in tw_1_162) rfl rfl dX5_count_65 ?_
        refine ky_callVi C (c_X2_truthsOfAll hG F 6 M tw6) (ltT hG tw6) (ceT hG tw6) rfl (wY_goodV tw_2_34 tw_2_35 tw_2_36 tw_1_2 tw_2_37) hd_X2_truthsOfAll ⟨rfl, rfl, by decide, by decide⟩ rfl rfl (Nat.le_of_ble_eq_true rfl) dX5_count_68 (fun r10 M11 => ?_)
        exact ky_iret C dX5_count_71
      refine ky_swIn C (1 : Int32) 72 dX5_count_14 (by decide) (by decide) rfl (by decide) ?_ (fun hs2 => ?_)
      · refine ky_aload_n C dX5_count_72 0 rfl ?_
        refine ky_get C (ltK hG) (ceK hG) rfl inWX5 2 (by decide) (wY_in tw_1_162) rfl rfl dX5_count_73 ?_
        refine ky_get C (ltT hG tw6) (ceT hG tw6) rfl inWX2 3 (by decide) (wY_in tw_1_104) rfl rfl dX5_count_76 ?_
        exact ky_iret C dX5_count_79
      refine ky_swIn C (2 : Int32) 80 dX5_count_14 (by decide) (by decide) rfl (by decide) ?_ (fun hs3 => ?_)
      · refine ky_aload_n C dX5_count_80 0 rfl ?_
        refine ky_get C (ltK hG) (ceK hG) rfl inWX5 2 (by decide) (wY_in tw_1_162) rfl rfl dX5_count_81 ?_
        refine ky_get C (ltT hG tw6) (ceT hG tw6) rfl inWX2 2 (by decide) (wY_in tw_1_102) rfl rfl dX5_count_84 ?_
        exact ky_iret C dX5_count_87
      refine ky_swIn C (3 : Int32) 88 dX5_count_14 (by decide) (by decide) rfl (by decide) ?_ (fun hs4 => ?_)
      · refine ky_aload_n C dX5_count_88 0 rfl ?_
        refine ky_get C (ltK hG) (ceK hG) rfl inWX5 2 (by decide) (wY_in tw_1_162) rfl rfl dX5_count_89 ?_
        refine ky_callVi C (c_X2_paidCount hG F 6 M tw6) (ltT hG tw6) (ceT hG tw6) rfl (wY_goodV tw_3_19 tw_3_20 tw_3_21 tw_1_2 tw_3_22) hd_X2_paidCount ⟨rfl, rfl, by decide, by decide⟩ rfl rfl (Nat.le_of_ble_eq_true rfl) dX5_count_92 (fun r12 M13 => ?_)
        exact ky_iret C dX5_count_95
      refine ky_swIn C (4 : Int32) 96 dX5_count_14 (by decide) (by decide) rfl (by decide) ?_ (fun hs5 => ?_)
      · refine ky_aload_n C dX5_count_96 0 rfl ?_
        refine ky_get C (ltK hG) (ceK hG) rfl inWX5 2 (by decide) (wY_in tw_1_162) rfl rfl dX5_count_97 ?_
        refine ky_aload_n C dX5_count_100 0 rfl ?_
        refine ky_get C (ltK hG) (ceK hG) rfl inWX5 2 (by decide) (wY_in tw_1_162) rfl rfl dX5_count_101 ?_
        refine ky_callVi C (c_X2_allConvicts hG F 6 M tw6) (ltT hG tw6) (ceT hG tw6) rfl (wY_goodV tw_3_36 tw_3_37 tw_3_38 tw_1_2 tw_3_39) hd_X2_allConvicts ⟨rfl, rfl, by decide, by decide⟩ rfl rfl (Nat.le_of_ble_eq_true rfl) dX5_count_104 (fun r14 M15 => ?_)
        refine ky_callVi C (c_X2_finesOf hG F 6 r14 M15 tw6) (ltT hG tw6) (ceT hG tw6) rfl (wY_goodV tw_2_56 tw_2_57 tw_2_58 tw_1_2 tw_2_59) hd_X2_finesOf ⟨rfl, rfl, by decide, by decide⟩ rfl rfl (Nat.le_of_ble_eq_true rfl) dX5_count_107 (fun r16 M17 => ?_)
        exact ky_iret C dX5_count_110
      refine ky_swIn C (5 : Int32) 111 dX5_count_14 (by decide) (by decide) rfl (by decide) ?_ (fun hs6 => ?_)
      · refine ky_aload_n C dX5_count_111 0 rfl ?_
        refine ky_get C (ltK hG) (ceK hG) rfl inWX5 2 (by decide) (wY_in tw_1_162) rfl rfl dX5_count_112 ?_
        refine ky_callVi C (c_X2_usedOfAll hG F 6 M tw6) (ltT hG tw6) (ceT hG tw6) rfl (wY_goodV tw_3_40 tw_3_41 tw_3_42 tw_1_2 tw_3_43) hd_X2_usedOfAll ⟨rfl, rfl, by decide, by decide⟩ rfl rfl (Nat.le_of_ble_eq_true rfl) dX5_count_115 (fun r18 M19 => ?_)
        exact ky_iret C dX5_count_118
      refine ky_swIn C (6 : Int32) 119 dX5_count_14 (by decide) (by decide) rfl (by decide) ?_ (fun hs7 => ?_)
      · refine ky_aload_n C dX5_count_119 0 rfl ?_
        refine ky_get C (ltK hG) (ceK hG) rfl inWX5 2 (by decide) (wY_in tw_1_162) rfl rfl dX5_count_120 ?_
        refine ky_get C (ltT hG tw6) (ceT hG tw6) rfl inWX2 4 (by decide) (wY_in tw_1_106) rfl rfl dX5_count_123 ?_
        exact ky_iret C dX5_count_126
      refine ky_swIn C (7 : Int32) 127 dX5_count_14 (by decide) (by decide) rfl (by decide) ?_ (fun hs8 => ?_)
      · refine ky_aload_n C dX5_count_127 0 rfl ?_
        refine ky_get C (ltK hG) (ceK hG) rfl inWX5 2 (by decide) (wY_in tw_1_162) rfl rfl dX5_count_128 ?_
        refine ky_get C (ltT hG tw6) (ceT hG tw6) rfl inWX2 5 (by decide) (wY_in tw_1_108) rfl rfl dX5_count_131 ?_
        exact ky_iret C dX5_count_134
      refine ky_swIn C (8 : Int32) 135 dX5_count_14 (by decide) (by decide) rfl (by decide) ?_ (fun hs9 => ?_)
      · refine ky_aload_n C dX5_count_135 0 rfl ?_
        refine ky_get C (ltK hG) (ceK hG) rfl inWX5 1 (by decide) (wY_in tw_1_161) rfl rfl dX5_count_136 ?_
        exact ky_iret C dX5_count_139
      refine ky_swOut C 140 dX5_count_14 (sw_all 9 8 (by decide) (by decide) (fun j hj => by match j, hj with | 0, _ => exact hs1 | 1, _ => exact hs2 | 2, _ => exact hs3 | 3, _ => exact hs4 | 4, _ => exact hs5 | 5, _ => exact hs6 | 6, _ => exact hs7 | 7, _ => exact hs8 | 8, _ => exact hs9 | j + 9, hj => exact absurd hj (by omega))) (by decide) ?_
      refine ky_aload_n C dX5_count_140 0 rfl ?_
      refine ky_get C (ltK hG) (ceK hG) rfl inWX5 8 (by decide) (wY_in tw_1_168) rfl rfl dX5_count_141 ?_
      exact ky_iret C dX5_count_144
    · refine ky_bipush C (mI 102) dX5_count_10 (by decide) ?_
      exact ky_iret C dX5_count_12
def rmX5_with : Room := { frames := 0, cells := 0, slots := 0, locals := 0 }
theorem hd_X5_with : yX5_with.cls ≠ "java/lang/invoke/MethodHandle" ∧ yX5_with.cls ≠ "java/lang/invoke/VarHandle" ∧ (parseMethodDescriptor yX5_with.desc).map (fun d => d.parameters.length) = some 2 := ⟨by decide, by decide, by decide +kernel⟩
def f_X5_with (F : Nat) (a0 : Int64) (a2 : Int32) (M : Mem) : Option (Int64 × Mem) := some (((31 : Int64) * a0) + a2.toInt64, M)
set_option maxRecDepth 100000 in
set_option maxHeartbeats 4000000 in
theorem c_X5_with {G : KyG} {cy : Nat → ClassId} (hG : IsC G cy) (F : Nat)  (a0 : Int64) (a2 : Int32) (M : Mem)  : Ct G yX5_with (wY yX5_with cX5_with 3 (some .long)) rmX5_with rL [.long a0, .int a2] (f_X5_with F a0 a2 M) M := by
  refine Ct_of cX5_with 3 (some .long) RX5 hG.2.2.2.1 (by decide) rfl rfl (Nat.le_of_ble_eq_true rfl) rfl (fun E C => ?_)
  unfold f_X5_with
  refine ky_ldc2 C (31 : Int64) (wY_in tw_3_57) dX5_with_0 ?_
  refine ky_lload_n C dX5_with_3 0 rfl ?_
  refine ky_lmul C dX5_with_4 ?_
  refine ky_iload_n C dX5_with_5 1 rfl ?_
  refine ky_i2l C dX5_with_6 ?_
  refine ky_ladd C dX5_with_7 ?_
  exact ky_lret C dX5_with_8
def rmX5_most : Room := { frames := 4, cells := 0, slots := 0, locals := 88 }
theorem hd_X5_most : yX5_most.cls = RX5 ∧ yX5_most.cls ≠ "java/lang/invoke/MethodHandle" ∧ yX5_most.cls ≠ "java/lang/invoke/VarHandle" ∧ (parseMethodDescriptor yX5_most.desc).map (fun d => d.parameters.length) = some 1 := ⟨rfl, by decide, by decide, by decide +kernel⟩
def f_X5_most (F : Nat) (a1 : Int32) (M : Mem) : Option (Int32 × Mem) := if a1 < 0 then (some ((mI 102), M)) else (if a1 ≤ (1 : Int32) then (if (M.1 0 6) = 0 then (some ((mI 103), M)) else (bd (f_X1_mostOfAll F 6 M) (fun r1 M2 => if a1 = 0 then (some (r1, M2)) else (bd (f_X2_needsOfAll F 6 M2) (fun r3 M4 => if r1 = r3 then (some ((1 : Int32), M4)) else (some ((0 : Int32), M4))))))) else (some ((mI 102), M)))
set_option maxRecDepth 100000 in
set_option maxHeartbeats 4000000 in
theorem c_X5_most {G : KyG} {cy : Nat → ClassId} (hG : IsC G cy) (F : Nat)  (a1 : Int32) (M : Mem)  : Ct G yX5_most (wY yX5_most cX5_most 3 (some .int)) rmX5_most rI [.ref (gA G 0), .int a1] (f_X5_most F a1 M) M := by
  refine Ct_of cX5_most 3 (some .int) RX5 hG.2.2.2.1 (by decide) rfl rfl (Nat.le_of_ble_eq_true rfl) rfl (fun E C => ?_)
  unfold f_X5_most
  refine ky_iload_n C dX5_most_0 1 rfl ?_
  refine ky_if_lt C 9 dX5_most_1 (by decide) ?_ ?_
  · refine ky_bipush C (mI 102) dX5_most_9 (by decide) ?_
    exact ky_iret C dX5_most_11
  · refine ky_iload_n C dX5_most_4 1 rfl ?_
    refine ky_iconst C (1 : Int32) dX5_most_5 (by decide) ?_
    refine ky_icmp_le C 12 dX5_most_6 (by decide) ?_ ?_
    · refine ky_aload_n C dX5_most_12 0 rfl ?_
      refine ky_get C (ltK hG) (ceK hG) rfl inWX5 6 (by decide) (wY_in tw_1_166) rfl rfl dX5_most_13 ?_
      refine ky_if_ne C 22 dX5_most_16 (by decide) ?_ ?_
      · refine ky_bipush C (mI 103) dX5_most_19 (by decide) ?_
        exact ky_iret C dX5_most_21
      · refine ky_aload_n C dX5_most_22 0 rfl ?_
        refine ky_get C (ltK hG) (ceK hG) rfl inWX5 5 (by decide) (wY_in tw_1_165) rfl rfl dX5_most_23 ?_
        refine ky_aload_n C dX5_most_26 0 rfl ?_
        refine ky_get C (ltK hG) (ceK hG) rfl inWX5 2 (by decide) (wY_in tw_1_162) rfl rfl dX5_most_27 ?_
        refine ky_callVi C (c_X1_mostOfAll hG F 6 M tw6) (ltS hG) (ceS hG) rfl (wY_goodV tw_2_154 tw_2_155 tw_2_156 tw_1_6 tw_2_157) hd_X1_mostOfAll ⟨rfl, rfl, by decide, by decide⟩ rfl rfl (Nat.le_of_ble_eq_true rfl) dX5_most_30 (fun r1 M2 => ?_)
        refine ky_istore_n (lv' := [(2, .int r1), (0, .ref (gA G 0)), (1, .int a1)]) C dX5_most_33 (by decide) rfl ?_
        refine ky_iload_n C dX5_most_34 2 rfl ?_
        refine ky_if_ne C 40 dX5_most_35 (by decide) ?_ ?_
        · refine ky_iload_n C dX5_most_38 0 rfl ?_
          exact ky_iret C dX5_most_39
        · refine ky_iload_n C dX5_most_40 0 rfl ?_
          refine ky_aload_n C dX5_most_41 1 rfl ?_
          refine ky_get C (ltK hG) (ceK hG) rfl inWX5 2 (by decide) (wY_in tw_1_162) rfl rfl dX5_most_42 ?_
          refine ky_callVi C (c_X2_needsOfAll hG F 6 M2 tw6) (ltT hG tw6) (ceT hG tw6) rfl (wY_goodV tw_2_172 tw_2_173 tw_2_174 tw_1_2 tw_2_175) hd_X2_needsOfAll ⟨rfl, rfl, by decide, by decide⟩ rfl rfl (Nat.le_of_ble_eq_true rfl) dX5_most_45 (fun r3 M4 => ?_)
          refine ky_icmp_ne C 55 dX5_most_48 (by decide) ?_ ?_
          · refine ky_iconst C (1 : Int32) dX5_most_51 (by decide) ?_
            refine ky_goto C 56 dX5_most_52 (by decide) ?_
            exact ky_iret C dX5_most_56
          · refine ky_iconst C (0 : Int32) dX5_most_55 (by decide) ?_
            exact ky_iret C dX5_most_56
    · refine ky_bipush C (mI 102) dX5_most_9 (by decide) ?_
      exact ky_iret C dX5_most_11
def rmX5_truths : Room := { frames := 2, cells := 0, slots := 0, locals := 40 }
theorem hd_X5_truths : yX5_truths.cls = RX5 ∧ yX5_truths.cls ≠ "java/lang/invoke/MethodHandle" ∧ yX5_truths.cls ≠ "java/lang/invoke/VarHandle" ∧ (parseMethodDescriptor yX5_truths.desc).map (fun d => d.parameters.length) = some 2 := ⟨rfl, by decide, by decide, by decide +kernel⟩
def f_X5_truths (F : Nat) (a1 : Int32) (a2 : Int32) (M : Mem) : Option (Int32 × Mem) := bd (f_X5_isVictim F a1 M) (fun r1 M2 => if r1 = 0 then (some ((mI 101), M2)) else (if a2 < 0 then (some ((mI 102), M2)) else (if a2 ≤ (2 : Int32) then (gi a1 3 (if a2 = 0 then (bd (f_X3_possibleSets F (6 + 3 + a1.toNatClampNeg) M2) (fun r6 M7 => some (r6, M7))) else (bd (f_X3_possibleSets F (6 + 3 + a1.toNatClampNeg) M2) (fun r4 M5 => if r4 = 0 then (some ((mI 1), M5)) else (some (M5.1 (6 + 3 + a1.toNatClampNeg) 2, M5)))))) else (some ((mI 102), M2)))))
set_option maxRecDepth 100000 in
set_option maxHeartbeats 4000000 in
theorem c_X5_truths {G : KyG} {cy : Nat → ClassId} (hG : IsC G cy) (F : Nat)  (a1 : Int32) (a2 : Int32) (M : Mem)  : Ct G yX5_truths (wY yX5_truths cX5_truths 4 (some .int)) rmX5_truths rI [.ref (gA G 0), .int a1, .int a2] (f_X5_truths F a1 a2 M) M := by
  refine Ct_of cX5_truths 4 (some .int) RX5 hG.2.2.2.1 (by decide) rfl rfl (Nat.le_of_ble_eq_true rfl) rfl (fun E C => ?_)
  unfold f_X5_truths
  refine ky_aload_n C dX5_truths_0 0 rfl ?_
  refine ky_iload_n C dX5_truths_1 1 rfl ?_
  refine ky_callVi C (c_X5_isVictim hG F a1 M ) (ltK hG) (ceK hG) rfl (wY_goodV tw_2_48 tw_2_50 tw_p1 tw_1_1 tw_2_51) hd_X5_isVictim ⟨rfl, rfl, by decide, by decide⟩ rfl rfl (Nat.le_of_ble_eq_true rfl) dX5_truths_2 (fun r1 M2 => ?_)
  refine ky_if_ne C 11 dX5_truths_5 (by decide) ?_ ?_
  · refine ky_bipush C (mI 101) dX5_truths_8 (by decide) ?_
    exact ky_iret C dX5_truths_10
  · refine ky_iload_n C dX5_truths_11 2 rfl ?_
    refine ky_if_lt C 20 dX5_truths_12 (by decide) ?_ ?_
    · refine ky_bipush C (mI 102) dX5_truths_20 (by decide) ?_
      exact ky_iret C dX5_truths_22
    · refine ky_iload_n C dX5_truths_15 2 rfl ?_
      refine ky_iconst C (2 : Int32) dX5_truths_16 (by decide) ?_
      refine ky_icmp_le C 23 dX5_truths_17 (by decide) ?_ ?_
      · refine ky_aload_n C dX5_truths_23 0 rfl ?_
        refine ky_get C (ltK hG) (ceK hG) rfl inWX5 2 (by decide) (wY_in tw_1_162) rfl rfl dX5_truths_24 ?_
        refine ky_get C (ltT hG tw6) (ceT hG tw6) rfl inWX2 0 (by decide) (wY_in tw_1_94) rfl rfl dX5_truths_27 ?_
        refine ky_iload_n C dX5_truths_30 1 rfl ?_
        refine ky_aald C (ltVA hG tw6) (ceVA hG tw6) (tC2 hG) dX5_truths_31 (fun hx3 => ?_)
        refine ky_astore_n (lv' := [(3, .ref (gA G (6 + 3 + a1.toNatClampNeg))), (0, .ref (gA G 0)), (1, .int a1), (2, .int a2)]) C dX5_truths_32 (by decide) rfl ?_
        refine ky_iload_n C dX5_truths_33 3 rfl ?_
        refine ky_if_ne C 42 dX5_truths_34 (by decide) ?_ ?_
        · refine ky_aload_n C dX5_truths_37 0 rfl ?_
          refine ky_callVi C (c_X3_possibleSets hG F (6 + 3 + a1.toNatClampNeg) M2 (isVi_of tw6 hx3)) (ltV hG (isVi_of tw6 hx3)) (ceV hG (isVi_of tw6 hx3)) rfl (wY_goodV tw_2_209 tw_2_210 tw_2_211 tw_1_3 tw_2_212) hd_X3_possibleSets ⟨rfl, rfl, by decide, by decide⟩ rfl rfl (Nat.le_of_ble_eq_true rfl) dX5_truths_38 (fun r6 M7 => ?_)
          exact ky_iret C dX5_truths_41
        · refine ky_aload_n C dX5_truths_42 0 rfl ?_
          refine ky_callVi C (c_X3_possibleSets hG F (6 + 3 + a1.toNatClampNeg) M2 (isVi_of tw6 hx3)) (ltV hG (isVi_of tw6 hx3)) (ceV hG (isVi_of tw6 hx3)) rfl (wY_goodV tw_2_209 tw_2_210 tw_2_211 tw_1_3 tw_2_212) hd_X3_possibleSets ⟨rfl, rfl, by decide, by decide⟩ rfl rfl (Nat.le_of_ble_eq_true rfl) dX5_truths_43 (fun r4 M5 => ?_)
          refine ky_if_ne C 53 dX5_truths_46 (by decide) ?_ ?_
          · refine ky_iconst C (mI 1) dX5_truths_49 (by decide) ?_
            refine ky_goto C 57 dX5_truths_50 (by decide) ?_
            exact ky_iret C dX5_truths_57
          · refine ky_aload_n C dX5_truths_53 0 rfl ?_
            refine ky_get C (ltV hG (isVi_of tw6 hx3)) (ceV hG (isVi_of tw6 hx3)) rfl inWX3 2 (by decide) (wY_in tw_1_44) rfl rfl dX5_truths_54 ?_
            exact ky_iret C dX5_truths_57
      · refine ky_bipush C (mI 102) dX5_truths_20 (by decide) ?_
        exact ky_iret C dX5_truths_22
def rmX5_isSaying : Room := { frames := 0, cells := 0, slots := 0, locals := 0 }
theorem hd_X5_isSaying : yX5_isSaying.cls ≠ "java/lang/invoke/MethodHandle" ∧ yX5_isSaying.cls ≠ "java/lang/invoke/VarHandle" ∧ (parseMethodDescriptor yX5_isSaying.desc).map (fun d => d.parameters.length) = some 1 := ⟨by decide, by decide, by decide +kernel⟩
def f_X5_isSaying (F : Nat) (a0 : Int32) (M : Mem) : Option (Int32 × Mem) := if a0 < 0 then (some ((0 : Int32), M)) else (if (6 : Int32) ≤ a0 then (some ((0 : Int32), M)) else (some ((1 : Int32), M)))
set_option maxRecDepth 100000 in
set_option maxHeartbeats 4000000 in
theorem c_X5_isSaying {G : KyG} {cy : Nat → ClassId} (hG : IsC G cy) (F : Nat)  (a0 : Int32) (M : Mem)  : Ct G yX5_isSaying (wY yX5_isSaying cX5_isSaying 1 (some .boolean)) rmX5_isSaying rI [.int a0] (f_X5_isSaying F a0 M) M := by
  refine Ct_of cX5_isSaying 1 (some .boolean) RX5 hG.2.2.2.1 (by decide) rfl rfl (Nat.le_of_ble_eq_true rfl) rfl (fun E C => ?_)
  unfold f_X5_isSaying
  refine ky_iload_n C dX5_isSaying_0 0 rfl ?_
  refine ky_if_lt C 14 dX5_isSaying_1 (by decide) ?_ ?_
  · refine ky_iconst C (0 : Int32) dX5_isSaying_14 (by decide) ?_
    exact ky_zret C (by decide) dX5_isSaying_15
  · refine ky_iload_n C dX5_isSaying_4 0 rfl ?_
    refine ky_bipush C (6 : Int32) dX5_isSaying_5 (by decide) ?_
    refine ky_icmp_ge C 14 dX5_isSaying_7 (by decide) ?_ ?_
    · refine ky_iconst C (0 : Int32) dX5_isSaying_14 (by decide) ?_
      exact ky_zret C (by decide) dX5_isSaying_15
    · refine ky_iconst C (1 : Int32) dX5_isSaying_10 (by decide) ?_
      refine ky_goto C 15 dX5_isSaying_11 (by decide) ?_
      exact ky_zret C (by decide) dX5_isSaying_15
def rmX5_who : Room := { frames := 4, cells := 0, slots := 0, locals := 108 }
theorem hd_X5_who : yX5_who.cls = RX5 ∧ yX5_who.cls ≠ "java/lang/invoke/MethodHandle" ∧ yX5_who.cls ≠ "java/lang/invoke/VarHandle" ∧ (parseMethodDescriptor yX5_who.desc).map (fun d => d.parameters.length) = some 2 := ⟨rfl, by decide, by decide, by decide +kernel⟩
def f_X5_who (F : Nat) (a1 : Int32) (a2 : Int32) (M : Mem) : Option (Int32 × Mem) := bd (f_X5_isVictim F a1 M) (fun r1 M2 => if r1 = 0 then (some ((mI 101), M2)) else (bd (f_X5_isSaying F a2 M2) (fun r3 M4 => if r3 = 0 then (some ((mI 101), M4)) else (bd (f_X1_sayerOf F 6 a1 a2 M4) (fun r5 M6 => some (r5, M6))))))
set_option maxRecDepth 100000 in
set_option maxHeartbeats 4000000 in
theorem c_X5_who {G : KyG} {cy : Nat → ClassId} (hG : IsC G cy) (F : Nat)  (a1 : Int32) (a2 : Int32) (M : Mem)  : Ct G yX5_who (wY yX5_who cX5_who 3 (some .int)) rmX5_who rI [.ref (gA G 0), .int a1, .int a2] (f_X5_who F a1 a2 M) M := by
  refine Ct_of cX5_who 3 (some .int) RX5 hG.2.2.2.1 (by decide) rfl rfl (Nat.le_of_ble_eq_true rfl) rfl (fun E C => ?_)
  unfold f_X5_who
  refine ky_aload_n C dX5_who_0 0 rfl ?_
  refine ky_iload_n C dX5_who_1 1 rfl ?_
  refine ky_callVi C (c_X5_isVictim hG F a1 M ) (ltK hG) (ceK hG) rfl (wY_goodV tw_2_48 tw_2_50 tw_p1 tw_1_1 tw_2_51) hd_X5_isVictim ⟨rfl, rfl, by decide, by decide⟩ rfl rfl (Nat.le_of_ble_eq_true rfl) dX5_who_2 (fun r1 M2 => ?_)
  refine ky_if_eq C 15 dX5_who_5 (by decide) ?_ ?_
  · refine ky_bipush C (mI 101) dX5_who_15 (by decide) ?_
    exact ky_iret C dX5_who_17
  · refine ky_iload_n C dX5_who_8 2 rfl ?_
    refine ky_callSi C (c_X5_isSaying hG F a2 M2 ) (wY_goodS tw_2_122 tw_2_123 tw_1_1 tw_2_124) hd_X5_isSaying ⟨rfl, rfl, by decide, by decide⟩ rfl rfl (Nat.le_of_ble_eq_true rfl) dX5_who_9 (fun r3 M4 => ?_)
    refine ky_if_ne C 18 dX5_who_12 (by decide) ?_ ?_
    · refine ky_bipush C (mI 101) dX5_who_15 (by decide) ?_
      exact ky_iret C dX5_who_17
    · refine ky_aload_n C dX5_who_18 0 rfl ?_
      refine ky_get C (ltK hG) (ceK hG) rfl inWX5 5 (by decide) (wY_in tw_1_165) rfl rfl dX5_who_19 ?_
      refine ky_aload_n C dX5_who_22 0 rfl ?_
      refine ky_get C (ltK hG) (ceK hG) rfl inWX5 2 (by decide) (wY_in tw_1_162) rfl rfl dX5_who_23 ?_
      refine ky_iload_n C dX5_who_26 1 rfl ?_
      refine ky_iload_n C dX5_who_27 2 rfl ?_
      refine ky_callVi C (c_X1_sayerOf hG F 6 a1 a2 M4 tw6) (ltS hG) (ceS hG) rfl (wY_goodV tw_2_180 tw_2_181 tw_2_182 tw_1_6 tw_2_183) hd_X1_sayerOf ⟨rfl, rfl, by decide, by decide⟩ rfl rfl (Nat.le_of_ble_eq_true rfl) dX5_who_28 (fun r5 M6 => ?_)
      exact ky_iret C dX5_who_31
def rmX5_victim : Room := { frames := 1, cells := 0, slots := 0, locals := 23 }
theorem hd_X5_victim : yX5_victim.cls = RX5 ∧ yX5_victim.cls ≠ "java/lang/invoke/MethodHandle" ∧ yX5_victim.cls ≠ "java/lang/invoke/VarHandle" ∧ (parseMethodDescriptor yX5_victim.desc).map (fun d => d.parameters.length) = some 2 := ⟨rfl, by decide, by decide, by decide +kernel⟩
def f_X5_victim (F : Nat) (a1 : Int32) (a2 : Int32) (M : Mem) : Option (Int32 × Mem) := bd (f_X5_isVictim F a1 M) (fun r1 M2 => if r1 = 0 then (some ((mI 101), M2)) else (if a2 < 0 then (some ((mI 102), M2)) else (if a2 ≤ (3 : Int32) then (if a2 = (0 : Int32) then (gi a1 3 (some (M2.1 (6 + 3 + a1.toNatClampNeg) 0, M2))) else (if a2 = (1 : Int32) then (gi a1 3 (some (M2.1 (6 + 3 + a1.toNatClampNeg) 1, M2))) else (if a2 = (2 : Int32) then (bd (f_X2_convictsOf F 6 a1 M2) (fun r8 M9 => some (r8, M9))) else (bd (f_X2_convictsOf F 6 a1 M2) (fun r10 M11 => bd (f_X2_finesOf F 6 r10 M11) (fun r12 M13 => some (r12, M13))))))) else (some ((mI 102), M2)))))
set_option maxRecDepth 100000 in
set_option maxHeartbeats 4000000 in
theorem c_X5_victim {G : KyG} {cy : Nat → ClassId} (hG : IsC G cy) (F : Nat)  (a1 : Int32) (a2 : Int32) (M : Mem)  : Ct G yX5_victim (wY yX5_victim cX5_victim 3 (some .int)) rmX5_victim rI [.ref (gA G 0), .int a1, .int a2] (f_X5_victim F a1 a2 M) M := by
  refine Ct_of cX5_victim 3 (some .int) RX5 hG.2.2.2.1 (by decide) rfl rfl (Nat.le_of_ble_eq_true rfl) rfl (fun E C => ?_)
  unfold f_X5_victim
  refine ky_aload_n C dX5_victim_0 0 rfl ?_
  refine ky_iload_n C dX5_victim_1 1 rfl ?_
  refine ky_callVi C (c_X5_isVictim hG F a1 M ) (ltK hG) (ceK hG) rfl (wY_goodV tw_2_48 tw_2_50 tw_p1 tw_1_1 tw_2_51) hd_X5_isVictim ⟨rfl, rfl, by decide, by decide⟩ rfl rfl (Nat.le_of_ble_eq_true rfl) dX5_victim_2 (fun r1 M2 => ?_)
  refine ky_if_ne C 11 dX5_victim_5 (by decide) ?_ ?_
  · refine ky_bipush C (mI 101) dX5_victim_8 (by decide) ?_
    exact ky_iret C dX5_victim_10
  · refine ky_iload_n C dX5_victim_11 2 rfl ?_
    refine ky_if_lt C 20 dX5_victim_12 (by decide) ?_ ?_
    · refine ky_bipush C (mI 102) dX5_victim_20 (by decide) ?_
      exact ky_iret C dX5_victim_22
    · refine ky_iload_n C dX5_victim_15 2 rfl ?_
      refine ky_iconst C (3 : Int32) dX5_victim_16 (by decide) ?_
      refine ky_icmp_le C 23 dX5_victim_17 (by decide) ?_ ?_
      · refine ky_iload_n C dX5_victim_23 2 rfl ?_
        refine ky_swIn C (0 : Int32) 52 dX5_victim_24 (by decide) (by decide) rfl (by decide) ?_ (fun hs3 => ?_)
        · refine ky_aload_n C dX5_victim_52 0 rfl ?_
          refine ky_get C (ltK hG) (ceK hG) rfl inWX5 2 (by decide) (wY_in tw_1_162) rfl rfl dX5_victim_53 ?_
          refine ky_get C (ltT hG tw6) (ceT hG tw6) rfl inWX2 0 (by decide) (wY_in tw_1_94) rfl rfl dX5_victim_56 ?_
          refine ky_iload_n C dX5_victim_59 1 rfl ?_
          refine ky_aald C (ltVA hG tw6) (ceVA hG tw6) (tC2 hG) dX5_victim_60 (fun hx6 => ?_)
          refine ky_get C (ltV hG (isVi_of tw6 hx6)) (ceV hG (isVi_of tw6 hx6)) rfl inWX3 0 (by decide) (wY_in tw_1_38) rfl rfl dX5_victim_61 ?_
          exact ky_iret C dX5_victim_64
        refine ky_swIn C (1 : Int32) 65 dX5_victim_24 (by decide) (by decide) rfl (by decide) ?_ (fun hs4 => ?_)
        · refine ky_aload_n C dX5_victim_65 0 rfl ?_
          refine ky_get C (ltK hG) (ceK hG) rfl inWX5 2 (by decide) (wY_in tw_1_162) rfl rfl dX5_victim_66 ?_
          refine ky_get C (ltT hG tw6) (ceT hG tw6) rfl inWX2 0 (by decide) (wY_in tw_1_94) rfl rfl dX5_victim_69 ?_
          refine ky_iload_n C dX5_victim_72 1 rfl ?_
          refine ky_aald C (ltVA hG tw6) (ceVA hG tw6) (tC2 hG) dX5_victim_73 (fun hx7 => ?_)
          refine ky_get C (ltV hG (isVi_of tw6 hx7)) (ceV hG (isVi_of tw6 hx7)) rfl inWX3 1 (by decide) (wY_in tw_1_42) rfl rfl dX5_victim_74 ?_
          exact ky_iret C dX5_victim_77
        refine ky_swIn C (2 : Int32) 78 dX5_victim_24 (by decide) (by decide) rfl (by decide) ?_ (fun hs5 => ?_)
        · refine ky_aload_n C dX5_victim_78 0 rfl ?_
          refine ky_get C (ltK hG) (ceK hG) rfl inWX5 2 (by decide) (wY_in tw_1_162) rfl rfl dX5_victim_79 ?_
          refine ky_iload_n C dX5_victim_82 1 rfl ?_
          refine ky_callVi C (c_X2_convictsOf hG F 6 a1 M2 tw6) (ltT hG tw6) (ceT hG tw6) rfl (wY_goodV tw_2_52 tw_2_53 tw_2_54 tw_1_2 tw_2_55) hd_X2_convictsOf ⟨rfl, rfl, by decide, by decide⟩ rfl rfl (Nat.le_of_ble_eq_true rfl) dX5_victim_83 (fun r8 M9 => ?_)
          exact ky_iret C dX5_victim_86
        refine ky_swOut C 87 dX5_victim_24 (sw_all 3 2 (by decide) (by decide) (fun j hj => by match j, hj with | 0, _ => exact hs3 | 1, _ => exact hs4 | 2, _ => exact hs5 | j + 3, hj => exact absurd hj (by omega))) (by decide) ?_
        refine ky_aload_n C dX5_victim_87 0 rfl ?_
        refine ky_get C (ltK hG) (ceK hG) rfl inWX5 2 (by decide) (wY_in tw_1_162) rfl rfl dX5_victim_88 ?_
        refine ky_aload_n C dX5_victim_91 0 rfl ?_
        refine ky_get C (ltK hG) (ceK hG) rfl inWX5 2 (by decide) (wY_in tw_1_162) rfl rfl dX5_victim_92 ?_
        refine ky_iload_n C dX5_victim_95 1 rfl ?_
        refine ky_callVi C (c_X2_convictsOf hG F 6 a1 M2 tw6) (ltT hG tw6) (ceT hG tw6) rfl (wY_goodV tw_2_52 tw_2_53 tw_2_54 tw_1_2 tw_2_55) hd_X2_convictsOf ⟨rfl, rfl, by decide, by decide⟩ rfl rfl (Nat.le_of_ble_eq_true rfl) dX5_victim_96 (fun r10 M11 => ?_)
        refine ky_callVi C (c_X2_finesOf hG F 6 r10 M11 tw6) (ltT hG tw6) (ceT hG tw6) rfl (wY_goodV tw_2_56 tw_2_57 tw_2_58 tw_1_2 tw_2_59) hd_X2_finesOf ⟨rfl, rfl, by decide, by decide⟩ rfl rfl (Nat.le_of_ble_eq_true rfl) dX5_victim_99 (fun r12 M13 => ?_)
        exact ky_iret C dX5_victim_102
      · refine ky_bipush C (mI 102) dX5_victim_20 (by decide) ?_
        exact ky_iret C dX5_victim_22
def rmX5_withVictim : Room := { frames := 5, cells := 0, slots := 0, locals := 130 }
theorem hd_X5_withVictim : yX5_withVictim.cls = RX5 ∧ yX5_withVictim.cls ≠ "java/lang/invoke/MethodHandle" ∧ yX5_withVictim.cls ≠ "java/lang/invoke/VarHandle" ∧ (parseMethodDescriptor yX5_withVictim.desc).map (fun d => d.parameters.length) = some 2 := ⟨rfl, by decide, by decide, by decide +kernel⟩
def LX5_withVictim_65 (F : Nat)  : Nat → Int32 → Int64 → Int32 → Mem → Option (Int64 × Mem)
  | 0, _, _, _, _ => none
  | n + 1, xv3, xv4, xv6, M => if (2 : Int32) < xv6 then (bd (f_X5_attempt F xv3 M) (fun r1 M2 => bd (f_X5_with F xv4 r1 M2) (fun r3 M4 => some (r3, M4)))) else (bd (f_X5_truths F xv3 xv6 M) (fun r5 M6 => bd (f_X5_with F xv4 r5 M6) (fun r7 M8 => nm (xv6 + (1 : Int32)) (fun x9 => LX5_withVictim_65 F n xv3 r7 x9 M8))))
theorem LX5_withVictim_65_s (F : Nat)  (n : Nat) (xv3 : Int32) (xv4 : Int64) (xv6 : Int32) (M : Mem) : LX5_withVictim_65 F (n + 1) xv3 xv4 xv6 M = (if (2 : Int32) < xv6 then (bd (f_X5_attempt F xv3 M) (fun r1 M2 => bd (f_X5_with F xv4 r1 M2) (fun r3 M4 => some (r3, M4)))) else (bd (f_X5_truths F xv3 xv6 M) (fun r5 M6 => bd (f_X5_with F xv4 r5 M6) (fun r7 M8 => nm (xv6 + (1 : Int32)) (fun x9 => LX5_withVictim_65 F n xv3 r7 x9 M8))))) := rfl
set_option maxRecDepth 100000 in
set_option maxHeartbeats 4000000 in
theorem lX5_withVictim_65 {G : KyG} {cy : Nat → ClassId} (hG : IsC G cy) {E : KyE} (C : Cx G E cX5_withVictim 7 RX5 (wY yX5_withVictim cX5_withVictim 7 (some .long)) (some .long) rmX5_withVictim) (F : Nat)   : ∀ (n : Nat) (xv3 : Int32) (xv4 : Int64) (xv6 : Int32) (M : Mem) , Wo G E 7 rL (LX5_withVictim_65 F n xv3 xv4 xv6 M) M 65 [(0, .ref (gA G 0)), (3, .int xv3), (4, .long xv4), (6, .int xv6)] [] := by
  intro n
  induction n with
  | zero => intro xv3 xv4 xv6 M ; exact ky_none
  | succ n ih =>
    intro xv3 xv4 xv6 M 
    rw [LX5_withVictim_65_s]
    refine ky_iload C dX5_withVictim_65 3 rfl ?_
    refine ky_iconst C (2 : Int32) dX5_withVictim_67 (by decide) ?_
    refine ky_icmp_gt C 91 dX5_withVictim_68 (by decide) ?_ ?_
    · refine ky_lload C dX5_withVictim_91 2 rfl ?_
      refine ky_aload_n C dX5_withVictim_93 0 rfl ?_
      refine ky_iload_n C dX5_withVictim_94 1 rfl ?_
      refine ky_callVi C (c_X5_attempt hG F xv3 M ) (ltK hG) (ceK hG) rfl (wY_goodV tw_3_60 tw_2_215 tw_2_216 tw_1_1 tw_2_217) hd_X5_attempt ⟨rfl, rfl, by decide, by decide⟩ rfl rfl (Nat.le_of_ble_eq_true rfl) dX5_withVictim_95 (fun r1 M2 => ?_)
      refine ky_callSl C (c_X5_with hG F xv4 r1 M2 ) (wY_goodS tw_3_54 tw_3_55 tw_1_1 tw_3_56) hd_X5_with ⟨rfl, rfl, by decide, by decide⟩ rfl rfl (Nat.le_of_ble_eq_true rfl) dX5_withVictim_98 (fun r3 M4 => ?_)
      exact ky_lret C dX5_withVictim_101
    · refine ky_lload C dX5_withVictim_71 2 rfl ?_
      refine ky_aload_n C dX5_withVictim_73 0 rfl ?_
      refine ky_iload_n C dX5_withVictim_74 1 rfl ?_
      refine ky_iload C dX5_withVictim_75 3 rfl ?_
      refine ky_callVi C (c_X5_truths hG F xv3 xv6 M ) (ltK hG) (ceK hG) rfl (wY_goodV tw_3_59 tw_2_206 tw_2_207 tw_1_1 tw_2_208) hd_X5_truths ⟨rfl, rfl, by decide, by decide⟩ rfl rfl (Nat.le_of_ble_eq_true rfl) dX5_withVictim_77 (fun r5 M6 => ?_)
      refine ky_callSl C (c_X5_with hG F xv4 r5 M6 ) (wY_goodS tw_3_54 tw_3_55 tw_1_1 tw_3_56) hd_X5_with ⟨rfl, rfl, by decide, by decide⟩ rfl rfl (Nat.le_of_ble_eq_true rfl) dX5_withVictim_80 (fun r7 M8 => ?_)
      refine ky_lstore (lv' := [(4, .long r7), (0, .ref (gA G 0)), (3, .int xv3), (6, .int xv6)]) C dX5_withVictim_83 (by decide) rfl ?_
      refine ky_iinc (lv' := fun x9 => [(6, .int x9), (4, .long r7), (0, .ref (gA G 0)), (3, .int xv3)]) C dX5_withVictim_85 3 rfl (d1 := (1 : Int32)) rfl (by decide) (fun _ => rfl) (fun x9 => ?_)
      refine ky_goto C 65 dX5_withVictim_88 (by decide) ?_
      exact ky_sub [2, 3, 1, 0] rfl (ih xv3 r7 x9 M8 )
def LX5_withVictim_35 (F : Nat)  : Nat → Int32 → Int64 → Int32 → Mem → Option (Int64 × Mem)
  | 0, _, _, _, _ => none
  | n + 1, xv3, xv4, xv6, M => if (6 : Int32) ≤ xv6 then (LX5_withVictim_65 F  F xv3 xv4 (0 : Int32) M) else (bd (f_X5_who F xv3 xv6 M) (fun r10 M11 => bd (f_X5_with F xv4 r10 M11) (fun r12 M13 => nm (xv6 + (1 : Int32)) (fun x14 => LX5_withVictim_35 F n xv3 r12 x14 M13))))
theorem LX5_withVictim_35_s (F : Nat)  (n : Nat) (xv3 : Int32) (xv4 : Int64) (xv6 : Int32) (M : Mem) : LX5_withVictim_35 F (n + 1) xv3 xv4 xv6 M = (if (6 : Int32) ≤ xv6 then (LX5_withVictim_65 F  F xv3 xv4 (0 : Int32) M) else (bd (f_X5_who F xv3 xv6 M) (fun r10 M11 => bd (f_X5_with F xv4 r10 M11) (fun r12 M13 => nm (xv6 + (1 : Int32)) (fun x14 => LX5_withVictim_35 F n xv3 r12 x14 M13))))) := rfl
set_option maxRecDepth 100000 in
set_option maxHeartbeats 4000000 in
theorem lX5_withVictim_35 {G : KyG} {cy : Nat → ClassId} (hG : IsC G cy) {E : KyE} (C : Cx G E cX5_withVictim 7 RX5 (wY yX5_withVictim cX5_withVictim 7 (some .long)) (some .long) rmX5_withVictim) (F : Nat)   : ∀ (n : Nat) (xv3 : Int32) (xv4 : Int64) (xv6 : Int32) (M : Mem) , Wo G E 7 rL (LX5_withVictim_35 F n xv3 xv4 xv6 M) M 35 [(0, .ref (gA G 0)), (3, .int xv3), (4, .long xv4), (6, .int xv6)] [] := by
  intro n
  induction n with
  | zero => intro xv3 xv4 xv6 M ; exact ky_none
  | succ n ih =>
    intro xv3 xv4 xv6 M 
    rw [LX5_withVictim_35_s]
    refine ky_iload C dX5_withVictim_35 3 rfl ?_
    refine ky_bipush C (6 : Int32) dX5_withVictim_37 (by decide) ?_
    refine ky_icmp_ge C 62 dX5_withVictim_39 (by decide) ?_ ?_
    · refine ky_iconst C (0 : Int32) dX5_withVictim_62 (by decide) ?_
      refine ky_istore (lv' := [(6, .int (0 : Int32)), (0, .ref (gA G 0)), (3, .int xv3), (4, .long xv4)]) C dX5_withVictim_63 (by decide) rfl ?_
      exact ky_sub [1, 2, 3, 0] rfl (lX5_withVictim_65 hG C F   F xv3 xv4 (0 : Int32) M )
    · refine ky_lload C dX5_withVictim_42 2 rfl ?_
      refine ky_aload_n C dX5_withVictim_44 0 rfl ?_
      refine ky_iload_n C dX5_withVictim_45 1 rfl ?_
      refine ky_iload C dX5_withVictim_46 3 rfl ?_
      refine ky_callVi C (c_X5_who hG F xv3 xv6 M ) (ltK hG) (ceK hG) rfl (wY_goodV tw_3_58 tw_2_177 tw_2_178 tw_1_1 tw_2_179) hd_X5_who ⟨rfl, rfl, by decide, by decide⟩ rfl rfl (Nat.le_of_ble_eq_true rfl) dX5_withVictim_48 (fun r10 M11 => ?_)
      refine ky_callSl C (c_X5_with hG F xv4 r10 M11 ) (wY_goodS tw_3_54 tw_3_55 tw_1_1 tw_3_56) hd_X5_with ⟨rfl, rfl, by decide, by decide⟩ rfl rfl (Nat.le_of_ble_eq_true rfl) dX5_withVictim_51 (fun r12 M13 => ?_)
      refine ky_lstore (lv' := [(4, .long r12), (0, .ref (gA G 0)), (3, .int xv3), (6, .int xv6)]) C dX5_withVictim_54 (by decide) rfl ?_
      refine ky_iinc (lv' := fun x14 => [(6, .int x14), (4, .long r12), (0, .ref (gA G 0)), (3, .int xv3)]) C dX5_withVictim_56 3 rfl (d1 := (1 : Int32)) rfl (by decide) (fun _ => rfl) (fun x14 => ?_)
      refine ky_goto C 35 dX5_withVictim_59 (by decide) ?_
      exact ky_sub [2, 3, 1, 0] rfl (ih xv3 r12 x14 M13 )
def LX5_withVictim_6 (F : Nat)  : Nat → Int32 → Int64 → Int32 → Mem → Option (Int64 × Mem)
  | 0, _, _, _, _ => none
  | n + 1, xv3, xv4, xv6, M => if (3 : Int32) < xv6 then (LX5_withVictim_35 F  F xv3 xv4 (0 : Int32) M) else (bd (f_X5_victim F xv3 xv6 M) (fun r15 M16 => bd (f_X5_with F xv4 r15 M16) (fun r17 M18 => nm (xv6 + (1 : Int32)) (fun x19 => LX5_withVictim_6 F n xv3 r17 x19 M18))))
theorem LX5_withVictim_6_s (F : Nat)  (n : Nat) (xv3 : Int32) (xv4 : Int64) (xv6 : Int32) (M : Mem) : LX5_withVictim_6 F (n + 1) xv3 xv4 xv6 M = (if (3 : Int32) < xv6 then (LX5_withVictim_35 F  F xv3 xv4 (0 : Int32) M) else (bd (f_X5_victim F xv3 xv6 M) (fun r15 M16 => bd (f_X5_with F xv4 r15 M16) (fun r17 M18 => nm (xv6 + (1 : Int32)) (fun x19 => LX5_withVictim_6 F n xv3 r17 x19 M18))))) := rfl
set_option maxRecDepth 100000 in
set_option maxHeartbeats 4000000 in
theorem lX5_withVictim_6 {G : KyG} {cy : Nat → ClassId} (hG : IsC G cy) {E : KyE} (C : Cx G E cX5_withVictim 7 RX5 (wY yX5_withVictim cX5_withVictim 7 (some .long)) (some .long) rmX5_withVictim) (F : Nat)   : ∀ (n : Nat) (xv3 : Int32) (xv4 : Int64) (xv6 : Int32) (M : Mem) , Wo G E 7 rL (LX5_withVictim_6 F n xv3 xv4 xv6 M) M 6 [(0, .ref (gA G 0)), (3, .int xv3), (4, .long xv4), (6, .int xv6)] [] := by
  intro n
  induction n with
  | zero => intro xv3 xv4 xv6 M ; exact ky_none
  | succ n ih =>
    intro xv3 xv4 xv6 M 
    rw [LX5_withVictim_6_s]
    refine ky_iload C dX5_withVictim_6 3 rfl ?_
    refine ky_iconst C (3 : Int32) dX5_withVictim_8 (by decide) ?_
    refine ky_icmp_gt C 32 dX5_withVictim_9 (by decide) ?_ ?_
    · refine ky_iconst C (0 : Int32) dX5_withVictim_32 (by decide) ?_
      refine ky_istore (lv' := [(6, .int (0 : Int32)), (0, .ref (gA G 0)), (3, .int xv3), (4, .long xv4)]) C dX5_withVictim_33 (by decide) rfl ?_
      exact ky_sub [1, 2, 3, 0] rfl (lX5_withVictim_35 hG C F   F xv3 xv4 (0 : Int32) M )
    · refine ky_lload C dX5_withVictim_12 2 rfl ?_
      refine ky_aload_n C dX5_withVictim_14 0 rfl ?_
      refine ky_iload_n C dX5_withVictim_15 1 rfl ?_
      refine ky_iload C dX5_withVictim_16 3 rfl ?_
      refine ky_callVi C (c_X5_victim hG F xv3 xv6 M ) (ltK hG) (ceK hG) rfl (wY_goodV tw_3_53 tw_2_45 tw_2_46 tw_1_1 tw_2_47) hd_X5_victim ⟨rfl, rfl, by decide, by decide⟩ rfl rfl (Nat.le_of_ble_eq_true rfl) dX5_withVictim_18 (fun r15 M16 => ?_)
      refine ky_callSl C (c_X5_with hG F xv4 r15 M16 ) (wY_goodS tw_3_54 tw_3_55 tw_1_1 tw_3_56) hd_X5_with ⟨rfl, rfl, by decide, by decide⟩ rfl rfl (Nat.le_of_ble_eq_true rfl) dX5_withVictim_21 (fun r17 M18 => ?_)
      refine ky_lstore (lv' := [(4, .long r17), (0, .ref (gA G 0)), (3, .int xv3), (6, .int xv6)]) C dX5_withVictim_24 (by decide) rfl ?_
      refine ky_iinc (lv' := fun x19 => [(6, .int x19), (4, .long r17), (0, .ref (gA G 0)), (3, .int xv3)]) C dX5_withVictim_26 3 rfl (d1 := (1 : Int32)) rfl (by decide) (fun _ => rfl) (fun x19 => ?_)
      refine ky_goto C 6 dX5_withVictim_29 (by decide) ?_
      exact ky_sub [2, 3, 1, 0] rfl (ih xv3 r17 x19 M18 )
def f_X5_withVictim (F : Nat) (a1 : Int64) (a3 : Int32) (M : Mem) : Option (Int64 × Mem) := LX5_withVictim_6 F  F a3 a1 (0 : Int32) M
set_option maxRecDepth 100000 in
set_option maxHeartbeats 4000000 in
theorem c_X5_withVictim {G : KyG} {cy : Nat → ClassId} (hG : IsC G cy) (F : Nat)  (a1 : Int64) (a3 : Int32) (M : Mem)  : Ct G yX5_withVictim (wY yX5_withVictim cX5_withVictim 7 (some .long)) rmX5_withVictim rL [.ref (gA G 0), .long a1, .int a3] (f_X5_withVictim F a1 a3 M) M := by
  refine Ct_of cX5_withVictim 7 (some .long) RX5 hG.2.2.2.1 (by decide) rfl rfl (Nat.le_of_ble_eq_true rfl) rfl (fun E C => ?_)
  unfold f_X5_withVictim
  refine ky_lload_n C dX5_withVictim_0 1 rfl ?_
  refine ky_lstore (lv' := [(4, .long a1), (0, .ref (gA G 0)), (1, .long a1), (3, .int a3)]) C dX5_withVictim_1 (by decide) rfl ?_
  refine ky_iconst C (0 : Int32) dX5_withVictim_3 (by decide) ?_
  refine ky_istore (lv' := [(6, .int (0 : Int32)), (4, .long a1), (0, .ref (gA G 0)), (1, .long a1), (3, .int a3)]) C dX5_withVictim_4 (by decide) rfl ?_
  exact ky_sub [2, 4, 1, 0] rfl (lX5_withVictim_6 hG C F   F a3 a1 (0 : Int32) M )
def rmX5_digest : Room := { frames := 6, cells := 0, slots := 0, locals := 156 }
theorem hd_X5_digest : yX5_digest.cls = RX5 ∧ yX5_digest.cls ≠ "java/lang/invoke/MethodHandle" ∧ yX5_digest.cls ≠ "java/lang/invoke/VarHandle" ∧ (parseMethodDescriptor yX5_digest.desc).map (fun d => d.parameters.length) = some 0 := ⟨rfl, by decide, by decide, by decide +kernel⟩
def LX5_digest_130 (F : Nat)  : Nat → Int64 → Int32 → Mem → Option (Int64 × Mem)
  | 0, _, _, _ => none
  | n + 1, xv1, xv3, M => if (9 : Int32) < xv3 then (some (xv1, M)) else (bd (f_X5_count F xv3 M) (fun r1 M2 => bd (f_X5_with F xv1 r1 M2) (fun r3 M4 => nm (xv3 + (1 : Int32)) (fun x5 => LX5_digest_130 F n r3 x5 M4))))
theorem LX5_digest_130_s (F : Nat)  (n : Nat) (xv1 : Int64) (xv3 : Int32) (M : Mem) : LX5_digest_130 F (n + 1) xv1 xv3 M = (if (9 : Int32) < xv3 then (some (xv1, M)) else (bd (f_X5_count F xv3 M) (fun r1 M2 => bd (f_X5_with F xv1 r1 M2) (fun r3 M4 => nm (xv3 + (1 : Int32)) (fun x5 => LX5_digest_130 F n r3 x5 M4))))) := rfl
set_option maxRecDepth 100000 in
set_option maxHeartbeats 4000000 in
theorem lX5_digest_130 {G : KyG} {cy : Nat → ClassId} (hG : IsC G cy) {E : KyE} (C : Cx G E cX5_digest 5 RX5 (wY yX5_digest cX5_digest 5 (some .long)) (some .long) rmX5_digest) (F : Nat)   : ∀ (n : Nat) (xv1 : Int64) (xv3 : Int32) (M : Mem) , Wo G E 5 rL (LX5_digest_130 F n xv1 xv3 M) M 130 [(0, .ref (gA G 0)), (1, .long xv1), (3, .int xv3)] [] := by
  intro n
  induction n with
  | zero => intro xv1 xv3 M ; exact ky_none
  | succ n ih =>
    intro xv1 xv3 M 
    rw [LX5_digest_130_s]
    refine ky_iload_n C dX5_digest_130 2 rfl ?_
    refine ky_bipush C (9 : Int32) dX5_digest_131 (by decide) ?_
    refine ky_icmp_gt C 152 dX5_digest_133 (by decide) ?_ ?_
    · refine ky_lload_n C dX5_digest_152 1 rfl ?_
      exact ky_lret C dX5_digest_153
    · refine ky_lload_n C dX5_digest_136 1 rfl ?_
      refine ky_aload_n C dX5_digest_137 0 rfl ?_
      refine ky_iload_n C dX5_digest_138 2 rfl ?_
      refine ky_callVi C (c_X5_count hG F xv3 M ) (ltK hG) (ceK hG) rfl (wY_goodV tw_3_63 tw_3_33 tw_3_34 tw_1_1 tw_3_35) hd_X5_count ⟨rfl, rfl, by decide, by decide⟩ rfl rfl (Nat.le_of_ble_eq_true rfl) dX5_digest_139 (fun r1 M2 => ?_)
      refine ky_callSl C (c_X5_with hG F xv1 r1 M2 ) (wY_goodS tw_3_54 tw_3_55 tw_1_1 tw_3_56) hd_X5_with ⟨rfl, rfl, by decide, by decide⟩ rfl rfl (Nat.le_of_ble_eq_true rfl) dX5_digest_142 (fun r3 M4 => ?_)
      refine ky_lstore_n (lv' := [(1, .long r3), (0, .ref (gA G 0)), (3, .int xv3)]) C dX5_digest_145 (by decide) rfl ?_
      refine ky_iinc (lv' := fun x5 => [(3, .int x5), (1, .long r3), (0, .ref (gA G 0))]) C dX5_digest_146 2 rfl (d1 := (1 : Int32)) rfl (by decide) (fun _ => rfl) (fun x5 => ?_)
      refine ky_goto C 130 dX5_digest_149 (by decide) ?_
      exact ky_sub [2, 1, 0] rfl (ih r3 x5 M4 )
def LX5_digest_103 (F : Nat)  : Nat → Int64 → Int32 → Mem → Option (Int64 × Mem)
  | 0, _, _, _ => none
  | n + 1, xv1, xv3, M => if (M.1 0 1) ≤ xv3 then (LX5_digest_130 F  F xv1 (0 : Int32) M) else (gi xv3 12 (bd (f_X5_with F xv1 (M.1 1 xv3.toNatClampNeg) M) (fun r7 M8 => nm (xv3 + (1 : Int32)) (fun x9 => LX5_digest_103 F n r7 x9 M8))))
theorem LX5_digest_103_s (F : Nat)  (n : Nat) (xv1 : Int64) (xv3 : Int32) (M : Mem) : LX5_digest_103 F (n + 1) xv1 xv3 M = (if (M.1 0 1) ≤ xv3 then (LX5_digest_130 F  F xv1 (0 : Int32) M) else (gi xv3 12 (bd (f_X5_with F xv1 (M.1 1 xv3.toNatClampNeg) M) (fun r7 M8 => nm (xv3 + (1 : Int32)) (fun x9 => LX5_digest_103 F n r7 x9 M8))))) := rfl
set_option maxRecDepth 100000 in
set_option maxHeartbeats 4000000 in
theorem lX5_digest_103 {G : KyG} {cy : Nat → ClassId} (hG : IsC G cy) {E : KyE} (C : Cx G E cX5_digest 5 RX5 (wY yX5_digest cX5_digest 5 (some .long)) (some .long) rmX5_digest) (F : Nat)   : ∀ (n : Nat) (xv1 : Int64) (xv3 : Int32) (M : Mem) , Wo G E 5 rL (LX5_digest_103 F n xv1 xv3 M) M 103 [(0, .ref (gA G 0)), (1, .long xv1), (3, .int xv3)] [] := by
  intro n
  induction n with
  | zero => intro xv1 xv3 M ; exact ky_none
  | succ n ih =>
    intro xv1 xv3 M 
    rw [LX5_digest_103_s]
    refine ky_iload_n C dX5_digest_103 2 rfl ?_
    refine ky_aload_n C dX5_digest_104 0 rfl ?_
    refine ky_get C (ltK hG) (ceK hG) rfl inWX5 1 (by decide) (wY_in tw_1_161) rfl rfl dX5_digest_105 ?_
    refine ky_icmp_ge C 128 dX5_digest_108 (by decide) ?_ ?_
    · refine ky_iconst C (0 : Int32) dX5_digest_128 (by decide) ?_
      refine ky_istore_n (lv' := [(3, .int (0 : Int32)), (0, .ref (gA G 0)), (1, .long xv1)]) C dX5_digest_129 (by decide) rfl ?_
      exact ky_sub [1, 2, 0] rfl (lX5_digest_130 hG C F   F xv1 (0 : Int32) M )
    · refine ky_lload_n C dX5_digest_111 1 rfl ?_
      refine ky_aload_n C dX5_digest_112 0 rfl ?_
      refine ky_get C (ltK hG) (ceK hG) rfl inWX5 0 (by decide) (wY_in tw_1_160) rfl rfl dX5_digest_113 ?_
      refine ky_iload_n C dX5_digest_116 2 rfl ?_
      refine ky_cald C (ltPG hG) (cePG hG) (tC0 hG) dX5_digest_117 (fun hx6 => ?_)
      refine ky_callSl C (c_X5_with hG F xv1 (M.1 1 xv3.toNatClampNeg) M ) (wY_goodS tw_3_54 tw_3_55 tw_1_1 tw_3_56) hd_X5_with ⟨rfl, rfl, by decide, by decide⟩ rfl rfl (Nat.le_of_ble_eq_true rfl) dX5_digest_118 (fun r7 M8 => ?_)
      refine ky_lstore_n (lv' := [(1, .long r7), (0, .ref (gA G 0)), (3, .int xv3)]) C dX5_digest_121 (by decide) rfl ?_
      refine ky_iinc (lv' := fun x9 => [(3, .int x9), (1, .long r7), (0, .ref (gA G 0))]) C dX5_digest_122 2 rfl (d1 := (1 : Int32)) rfl (by decide) (fun _ => rfl) (fun x9 => ?_)
      refine ky_goto C 103 dX5_digest_125 (by decide) ?_
      exact ky_sub [2, 1, 0] rfl (ih r7 x9 M8 )
def LX5_digest_70 (F : Nat) (q95 : Int64 → Int32 → Mem → Option (Int64 × Mem)) : Nat → Int64 → Int32 → Int32 → Mem → Option (Int64 × Mem)
  | 0, _, _, _, _ => none
  | n + 1, xv1, xv3, xv4, M => if (8 : Int32) < xv4 then (q95 xv1 xv3 M) else (bd (f_X5_about F xv3 xv4 M) (fun r10 M11 => bd (f_X5_with F xv1 r10 M11) (fun r12 M13 => nm (xv4 + (1 : Int32)) (fun x14 => LX5_digest_70 F q95 n r12 xv3 x14 M13))))
theorem LX5_digest_70_s (F : Nat) (q95 : Int64 → Int32 → Mem → Option (Int64 × Mem)) (n : Nat) (xv1 : Int64) (xv3 : Int32) (xv4 : Int32) (M : Mem) : LX5_digest_70 F q95 (n + 1) xv1 xv3 xv4 M = (if (8 : Int32) < xv4 then (q95 xv1 xv3 M) else (bd (f_X5_about F xv3 xv4 M) (fun r10 M11 => bd (f_X5_with F xv1 r10 M11) (fun r12 M13 => nm (xv4 + (1 : Int32)) (fun x14 => LX5_digest_70 F q95 n r12 xv3 x14 M13))))) := rfl
set_option maxRecDepth 100000 in
set_option maxHeartbeats 4000000 in
theorem lX5_digest_70 {G : KyG} {cy : Nat → ClassId} (hG : IsC G cy) {E : KyE} (C : Cx G E cX5_digest 5 RX5 (wY yX5_digest cX5_digest 5 (some .long)) (some .long) rmX5_digest) (F : Nat) (q95 : Int64 → Int32 → Mem → Option (Int64 × Mem)) (hq95 : ∀ (xv1 : Int64) (xv3 : Int32) (M : Mem) , Wo G E 5 rL (q95 xv1 xv3 M) M 95 [(0, .ref (gA G 0)), (1, .long xv1), (3, .int xv3)] []) : ∀ (n : Nat) (xv1 : Int64) (xv3 : Int32) (xv4 : Int32) (M : Mem) , Wo G E 5 rL (LX5_digest_70 F q95 n xv1 xv3 xv4 M) M 70 [(0, .ref (gA G 0)), (1, .long xv1), (3, .int xv3), (4, .int xv4)] [] := by
  intro n
  induction n with
  | zero => intro xv1 xv3 xv4 M ; exact ky_none
  | succ n ih =>
    intro xv1 xv3 xv4 M 
    rw [LX5_digest_70_s]
    refine ky_iload C dX5_digest_70 3 rfl ?_
    refine ky_bipush C (8 : Int32) dX5_digest_72 (by decide) ?_
    refine ky_icmp_gt C 95 dX5_digest_74 (by decide) ?_ ?_
    · exact ky_sub [0, 1, 2] rfl (hq95 xv1 xv3 M )
    · refine ky_lload_n C dX5_digest_77 1 rfl ?_
      refine ky_aload_n C dX5_digest_78 0 rfl ?_
      refine ky_iload_n C dX5_digest_79 2 rfl ?_
      refine ky_iload C dX5_digest_80 3 rfl ?_
      refine ky_callVi C (c_X5_about hG F xv3 xv4 M ) (ltK hG) (ceK hG) rfl (wY_goodV tw_3_62 tw_2_76 tw_2_77 tw_1_1 tw_2_78) hd_X5_about ⟨rfl, rfl, by decide, by decide⟩ rfl rfl (Nat.le_of_ble_eq_true rfl) dX5_digest_82 (fun r10 M11 => ?_)
      refine ky_callSl C (c_X5_with hG F xv1 r10 M11 ) (wY_goodS tw_3_54 tw_3_55 tw_1_1 tw_3_56) hd_X5_with ⟨rfl, rfl, by decide, by decide⟩ rfl rfl (Nat.le_of_ble_eq_true rfl) dX5_digest_85 (fun r12 M13 => ?_)
      refine ky_lstore_n (lv' := [(1, .long r12), (0, .ref (gA G 0)), (3, .int xv3), (4, .int xv4)]) C dX5_digest_88 (by decide) rfl ?_
      refine ky_iinc (lv' := fun x14 => [(4, .int x14), (1, .long r12), (0, .ref (gA G 0)), (3, .int xv3)]) C dX5_digest_89 3 rfl (d1 := (1 : Int32)) rfl (by decide) (fun _ => rfl) (fun x14 => ?_)
      refine ky_goto C 70 dX5_digest_92 (by decide) ?_
      exact ky_sub [2, 1, 3, 0] rfl (ih r12 xv3 x14 M13 )
def LX5_digest_56 (F : Nat)  : Nat → Int64 → Int32 → Mem → Option (Int64 × Mem)
  | 0, _, _, _ => none
  | n + 1, xv1, xv3, M => if (M.1 6 2) ≤ xv3 then (LX5_digest_103 F  F xv1 (0 : Int32) M) else (LX5_digest_70 F (fun y16 y17 M15 => nm (y17 + (1 : Int32)) (fun x18 => LX5_digest_56 F n y16 x18 M15)) F xv1 xv3 (0 : Int32) M)
theorem LX5_digest_56_s (F : Nat)  (n : Nat) (xv1 : Int64) (xv3 : Int32) (M : Mem) : LX5_digest_56 F (n + 1) xv1 xv3 M = (if (M.1 6 2) ≤ xv3 then (LX5_digest_103 F  F xv1 (0 : Int32) M) else (LX5_digest_70 F (fun y16 y17 M15 => nm (y17 + (1 : Int32)) (fun x18 => LX5_digest_56 F n y16 x18 M15)) F xv1 xv3 (0 : Int32) M)) := rfl
set_option maxRecDepth 100000 in
set_option maxHeartbeats 4000000 in
theorem lX5_digest_56 {G : KyG} {cy : Nat → ClassId} (hG : IsC G cy) {E : KyE} (C : Cx G E cX5_digest 5 RX5 (wY yX5_digest cX5_digest 5 (some .long)) (some .long) rmX5_digest) (F : Nat)   : ∀ (n : Nat) (xv1 : Int64) (xv3 : Int32) (M : Mem) , Wo G E 5 rL (LX5_digest_56 F n xv1 xv3 M) M 56 [(0, .ref (gA G 0)), (1, .long xv1), (3, .int xv3)] [] := by
  intro n
  induction n with
  | zero => intro xv1 xv3 M ; exact ky_none
  | succ n ih =>
    intro xv1 xv3 M 
    rw [LX5_digest_56_s]
    refine ky_iload_n C dX5_digest_56 2 rfl ?_
    refine ky_aload_n C dX5_digest_57 0 rfl ?_
    refine ky_get C (ltK hG) (ceK hG) rfl inWX5 2 (by decide) (wY_in tw_1_162) rfl rfl dX5_digest_58 ?_
    refine ky_get C (ltT hG tw6) (ceT hG tw6) rfl inWX2 2 (by decide) (wY_in tw_1_102) rfl rfl dX5_digest_61 ?_
    refine ky_icmp_ge C 101 dX5_digest_64 (by decide) ?_ ?_
    · refine ky_iconst C (0 : Int32) dX5_digest_101 (by decide) ?_
      refine ky_istore_n (lv' := [(3, .int (0 : Int32)), (0, .ref (gA G 0)), (1, .long xv1)]) C dX5_digest_102 (by decide) rfl ?_
      exact ky_sub [1, 2, 0] rfl (lX5_digest_103 hG C F   F xv1 (0 : Int32) M )
    · refine ky_iconst C (0 : Int32) dX5_digest_67 (by decide) ?_
      refine ky_istore (lv' := [(4, .int (0 : Int32)), (0, .ref (gA G 0)), (1, .long xv1), (3, .int xv3)]) C dX5_digest_68 (by decide) rfl ?_
      refine ky_sub [1, 2, 3, 0] rfl (lX5_digest_70 hG C F _ ?_ F xv1 xv3 (0 : Int32) M )
      · intro y16 y17 M15 
        refine ky_iinc (lv' := fun x18 => [(3, .int x18), (0, .ref (gA G 0)), (1, .long y16)]) C dX5_digest_95 2 rfl (d1 := (1 : Int32)) rfl (by decide) (fun _ => rfl) (fun x18 => ?_)
        refine ky_goto C 56 dX5_digest_98 (by decide) ?_
        exact ky_sub [1, 2, 0] rfl (ih y16 x18 M15 )
def JX5_digest_54 (F : Nat) (xv1 : Int64) (M : Mem) : Option (Int64 × Mem) := LX5_digest_56 F  F xv1 (0 : Int32) M
set_option maxRecDepth 100000 in
set_option maxHeartbeats 4000000 in
theorem jX5_digest_54 {G : KyG} {cy : Nat → ClassId} (hG : IsC G cy) {E : KyE} (C : Cx G E cX5_digest 5 RX5 (wY yX5_digest cX5_digest 5 (some .long)) (some .long) rmX5_digest) (F : Nat) (xv1 : Int64) (M : Mem)  : Wo G E 5 rL (JX5_digest_54 F xv1 M) M 54 [(0, .ref (gA G 0)), (1, .long xv1)] [] := by
  unfold JX5_digest_54
  refine ky_iconst C (0 : Int32) dX5_digest_54 (by decide) ?_
  refine ky_istore_n (lv' := [(3, .int (0 : Int32)), (0, .ref (gA G 0)), (1, .long xv1)]) C dX5_digest_55 (by decide) rfl ?_
  exact ky_sub [1, 2, 0] rfl (lX5_digest_56 hG C F   F xv1 (0 : Int32) M )
def LX5_digest_33 (F : Nat)  : Nat → Int64 → Int32 → Mem → Option (Int64 × Mem)
  | 0, _, _, _ => none
  | n + 1, xv1, xv3, M => if (1 : Int32) < xv3 then (JX5_digest_54 F xv1 M) else (bd (f_X5_most F xv3 M) (fun r19 M20 => bd (f_X5_with F xv1 r19 M20) (fun r21 M22 => nm (xv3 + (1 : Int32)) (fun x23 => LX5_digest_33 F n r21 x23 M22))))
theorem LX5_digest_33_s (F : Nat)  (n : Nat) (xv1 : Int64) (xv3 : Int32) (M : Mem) : LX5_digest_33 F (n + 1) xv1 xv3 M = (if (1 : Int32) < xv3 then (JX5_digest_54 F xv1 M) else (bd (f_X5_most F xv3 M) (fun r19 M20 => bd (f_X5_with F xv1 r19 M20) (fun r21 M22 => nm (xv3 + (1 : Int32)) (fun x23 => LX5_digest_33 F n r21 x23 M22))))) := rfl
set_option maxRecDepth 100000 in
set_option maxHeartbeats 4000000 in
theorem lX5_digest_33 {G : KyG} {cy : Nat → ClassId} (hG : IsC G cy) {E : KyE} (C : Cx G E cX5_digest 5 RX5 (wY yX5_digest cX5_digest 5 (some .long)) (some .long) rmX5_digest) (F : Nat)   : ∀ (n : Nat) (xv1 : Int64) (xv3 : Int32) (M : Mem) , Wo G E 5 rL (LX5_digest_33 F n xv1 xv3 M) M 33 [(0, .ref (gA G 0)), (1, .long xv1), (3, .int xv3)] [] := by
  intro n
  induction n with
  | zero => intro xv1 xv3 M ; exact ky_none
  | succ n ih =>
    intro xv1 xv3 M 
    rw [LX5_digest_33_s]
    refine ky_iload_n C dX5_digest_33 2 rfl ?_
    refine ky_iconst C (1 : Int32) dX5_digest_34 (by decide) ?_
    refine ky_icmp_gt C 54 dX5_digest_35 (by decide) ?_ ?_
    · exact ky_sub [0, 1] rfl (jX5_digest_54 hG C F xv1 M )
    · refine ky_lload_n C dX5_digest_38 1 rfl ?_
      refine ky_aload_n C dX5_digest_39 0 rfl ?_
      refine ky_iload_n C dX5_digest_40 2 rfl ?_
      refine ky_callVi C (c_X5_most hG F xv3 M ) (ltK hG) (ceK hG) rfl (wY_goodV tw_3_61 tw_2_151 tw_2_152 tw_1_1 tw_2_153) hd_X5_most ⟨rfl, rfl, by decide, by decide⟩ rfl rfl (Nat.le_of_ble_eq_true rfl) dX5_digest_41 (fun r19 M20 => ?_)
      refine ky_callSl C (c_X5_with hG F xv1 r19 M20 ) (wY_goodS tw_3_54 tw_3_55 tw_1_1 tw_3_56) hd_X5_with ⟨rfl, rfl, by decide, by decide⟩ rfl rfl (Nat.le_of_ble_eq_true rfl) dX5_digest_44 (fun r21 M22 => ?_)
      refine ky_lstore_n (lv' := [(1, .long r21), (0, .ref (gA G 0)), (3, .int xv3)]) C dX5_digest_47 (by decide) rfl ?_
      refine ky_iinc (lv' := fun x23 => [(3, .int x23), (1, .long r21), (0, .ref (gA G 0))]) C dX5_digest_48 2 rfl (d1 := (1 : Int32)) rfl (by decide) (fun _ => rfl) (fun x23 => ?_)
      refine ky_goto C 33 dX5_digest_51 (by decide) ?_
      exact ky_sub [2, 1, 0] rfl (ih r21 x23 M22 )
def LX5_digest_13 (F : Nat)  : Nat → Int64 → Int32 → Mem → Option (Int64 × Mem)
  | 0, _, _, _ => none
  | n + 1, xv1, xv3, M => if (3 : Int32) ≤ xv3 then (LX5_digest_33 F  F xv1 (0 : Int32) M) else (bd (f_X5_withVictim F xv1 xv3 M) (fun r24 M25 => nm (xv3 + (1 : Int32)) (fun x26 => LX5_digest_13 F n r24 x26 M25)))
theorem LX5_digest_13_s (F : Nat)  (n : Nat) (xv1 : Int64) (xv3 : Int32) (M : Mem) : LX5_digest_13 F (n + 1) xv1 xv3 M = (if (3 : Int32) ≤ xv3 then (LX5_digest_33 F  F xv1 (0 : Int32) M) else (bd (f_X5_withVictim F xv1 xv3 M) (fun r24 M25 => nm (xv3 + (1 : Int32)) (fun x26 => LX5_digest_13 F n r24 x26 M25)))) := rfl
set_option maxRecDepth 100000 in
set_option maxHeartbeats 4000000 in
theorem lX5_digest_13 {G : KyG} {cy : Nat → ClassId} (hG : IsC G cy) {E : KyE} (C : Cx G E cX5_digest 5 RX5 (wY yX5_digest cX5_digest 5 (some .long)) (some .long) rmX5_digest) (F : Nat)   : ∀ (n : Nat) (xv1 : Int64) (xv3 : Int32) (M : Mem) , Wo G E 5 rL (LX5_digest_13 F n xv1 xv3 M) M 13 [(0, .ref (gA G 0)), (1, .long xv1), (3, .int xv3)] [] := by
  intro n
  induction n with
  | zero => intro xv1 xv3 M ; exact ky_none
  | succ n ih =>
    intro xv1 xv3 M 
    rw [LX5_digest_13_s]
    refine ky_iload_n C dX5_digest_13 2 rfl ?_
    refine ky_iconst C (3 : Int32) dX5_digest_14 (by decide) ?_
    refine ky_icmp_ge C 31 dX5_digest_15 (by decide) ?_ ?_
    · refine ky_iconst C (0 : Int32) dX5_digest_31 (by decide) ?_
      refine ky_istore_n (lv' := [(3, .int (0 : Int32)), (0, .ref (gA G 0)), (1, .long xv1)]) C dX5_digest_32 (by decide) rfl ?_
      exact ky_sub [1, 2, 0] rfl (lX5_digest_33 hG C F   F xv1 (0 : Int32) M )
    · refine ky_aload_n C dX5_digest_18 0 rfl ?_
      refine ky_lload_n C dX5_digest_19 1 rfl ?_
      refine ky_iload_n C dX5_digest_20 2 rfl ?_
      refine ky_callVl C (c_X5_withVictim hG F xv1 xv3 M ) (ltK hG) (ceK hG) rfl (wY_goodV tw_3_49 tw_3_51 tw_p8 tw_1_1 tw_3_52) hd_X5_withVictim ⟨rfl, rfl, by decide, by decide⟩ rfl rfl (Nat.le_of_ble_eq_true rfl) dX5_digest_21 (fun r24 M25 => ?_)
      refine ky_lstore_n (lv' := [(1, .long r24), (0, .ref (gA G 0)), (3, .int xv3)]) C dX5_digest_24 (by decide) rfl ?_
      refine ky_iinc (lv' := fun x26 => [(3, .int x26), (1, .long r24), (0, .ref (gA G 0))]) C dX5_digest_25 2 rfl (d1 := (1 : Int32)) rfl (by decide) (fun _ => rfl) (fun x26 => ?_)
      refine ky_goto C 13 dX5_digest_28 (by decide) ?_
      exact ky_sub [2, 1, 0] rfl (ih r24 x26 M25 )
def f_X5_digest (F : Nat)  (M : Mem) : Option (Int64 × Mem) := if (M.1 0 6) = 0 then (JX5_digest_54 F (883 : Int64) M) else (LX5_digest_13 F  F (883 : Int64) (0 : Int32) M)
set_option maxRecDepth 100000 in
set_option maxHeartbeats 4000000 in
theorem c_X5_digest {G : KyG} {cy : Nat → ClassId} (hG : IsC G cy) (F : Nat)   (M : Mem)  : Ct G yX5_digest (wY yX5_digest cX5_digest 5 (some .long)) rmX5_digest rL [.ref (gA G 0)] (f_X5_digest F  M) M := by
  refine Ct_of cX5_digest 5 (some .long) RX5 hG.2.2.2.1 (by decide) rfl rfl (Nat.le_of_ble_eq_true rfl) rfl (fun E C => ?_)
  unfold f_X5_digest
  refine ky_ldc2 C (883 : Int64) (wY_in tw_3_48) dX5_digest_0 ?_
  refine ky_lstore_n (lv' := [(1, .long (883 : Int64)), (0, .ref (gA G 0))]) C dX5_digest_3 (by decide) rfl ?_
  refine ky_aload_n C dX5_digest_4 1 rfl ?_
  refine ky_get C (ltK hG) (ceK hG) rfl inWX5 6 (by decide) (wY_in tw_1_166) rfl rfl dX5_digest_5 ?_
  refine ky_if_eq C 54 dX5_digest_8 (by decide) ?_ ?_
  · exact ky_sub [1, 0] rfl (jX5_digest_54 hG C F (883 : Int64) M )
  · refine ky_iconst C (0 : Int32) dX5_digest_11 (by decide) ?_
    refine ky_istore_n (lv' := [(3, .int (0 : Int32)), (1, .long (883 : Int64)), (0, .ref (gA G 0))]) C dX5_digest_12 (by decide) rfl ?_
    exact ky_sub [2, 1, 0] rfl (lX5_digest_13 hG C F   F (883 : Int64) (0 : Int32) M )
def rmX5_digitAt : Room := { frames := 0, cells := 0, slots := 0, locals := 0 }
theorem hd_X5_digitAt : yX5_digitAt.cls = RX5 ∧ yX5_digitAt.cls ≠ "java/lang/invoke/MethodHandle" ∧ yX5_digitAt.cls ≠ "java/lang/invoke/VarHandle" ∧ (parseMethodDescriptor yX5_digitAt.desc).map (fun d => d.parameters.length) = some 1 := ⟨rfl, by decide, by decide, by decide +kernel⟩
def f_X5_digitAt (F : Nat) (a1 : Int32) (M : Mem) : Option (Int32 × Mem) := gi a1 12 (some ((M.1 1 a1.toNatClampNeg) - (48 : Int32), M))
set_option maxRecDepth 100000 in
set_option maxHeartbeats 4000000 in
theorem c_X5_digitAt {G : KyG} {cy : Nat → ClassId} (hG : IsC G cy) (F : Nat)  (a1 : Int32) (M : Mem)  : Ct G yX5_digitAt (wY yX5_digitAt cX5_digitAt 2 (some .int)) rmX5_digitAt rI [.ref (gA G 0), .int a1] (f_X5_digitAt F a1 M) M := by
  refine Ct_of cX5_digitAt 2 (some .int) RX5 hG.2.2.2.1 (by decide) rfl rfl (Nat.le_of_ble_eq_true rfl) rfl (fun E C => ?_)
  unfold f_X5_digitAt
  refine ky_aload_n C dX5_digitAt_0 0 rfl ?_
  refine ky_get C (ltK hG) (ceK hG) rfl inWX5 0 (by decide) (wY_in tw_1_160) rfl rfl dX5_digitAt_1 ?_
  refine ky_iload_n C dX5_digitAt_4 1 rfl ?_
  refine ky_cald C (ltPG hG) (cePG hG) (tC0 hG) dX5_digitAt_5 (fun hx1 => ?_)
  refine ky_bipush C (48 : Int32) dX5_digitAt_6 (by decide) ?_
  refine ky_isub C dX5_digitAt_8 ?_
  exact ky_iret C dX5_digitAt_9
def rmX5_fits : Room := { frames := 4, cells := 0, slots := 0, locals := 85 }
theorem hd_X5_fits : yX5_fits.cls ≠ "java/lang/invoke/MethodHandle" ∧ yX5_fits.cls ≠ "java/lang/invoke/VarHandle" ∧ (parseMethodDescriptor yX5_fits.desc).map (fun d => d.parameters.length) = some 2 := ⟨by decide, by decide, by decide +kernel⟩
def JX5_fits_35 (F : Nat) (xv1 : Int32) (xv2 : Int32) (xs0 : Int32) (M : Mem) : Option (Int32 × Mem) := if xs0 = 0 then (if xv1 = xv2 then (some ((1 : Int32), M)) else (some ((0 : Int32), M))) else (if xv1 < (48 : Int32) then (some ((0 : Int32), M)) else (if xv2 < xv1 then (some ((0 : Int32), M)) else (some ((1 : Int32), M))))
set_option maxRecDepth 100000 in
set_option maxHeartbeats 4000000 in
theorem jX5_fits_35 {G : KyG} {cy : Nat → ClassId} (hG : IsC G cy) {E : KyE} (C : Cx G E cX5_fits 4 RX5 (wY yX5_fits cX5_fits 4 (some .boolean)) (some .boolean) rmX5_fits) (F : Nat) (xv1 : Int32) (xv2 : Int32) (xs0 : Int32) (M : Mem)  : Wo G E 4 rI (JX5_fits_35 F xv1 xv2 xs0 M) M 35 [(1, .int xv1), (2, .int xv2)] [.int xs0] := by
  unfold JX5_fits_35
  refine ky_istore_n (lv' := [(3, .int xs0), (1, .int xv1), (2, .int xv2)]) C dX5_fits_35 (by decide) rfl ?_
  refine ky_iload_n C dX5_fits_36 0 rfl ?_
  refine ky_if_eq C 59 dX5_fits_37 (by decide) ?_ ?_
  · refine ky_iload_n C dX5_fits_59 1 rfl ?_
    refine ky_iload_n C dX5_fits_60 2 rfl ?_
    refine ky_icmp_ne C 68 dX5_fits_61 (by decide) ?_ ?_
    · refine ky_iconst C (1 : Int32) dX5_fits_64 (by decide) ?_
      refine ky_goto C 69 dX5_fits_65 (by decide) ?_
      exact ky_zret C (by decide) dX5_fits_69
    · refine ky_iconst C (0 : Int32) dX5_fits_68 (by decide) ?_
      exact ky_zret C (by decide) dX5_fits_69
  · refine ky_iload_n C dX5_fits_40 1 rfl ?_
    refine ky_bipush C (48 : Int32) dX5_fits_41 (by decide) ?_
    refine ky_icmp_lt C 55 dX5_fits_43 (by decide) ?_ ?_
    · refine ky_iconst C (0 : Int32) dX5_fits_55 (by decide) ?_
      refine ky_goto C 69 dX5_fits_56 (by decide) ?_
      exact ky_zret C (by decide) dX5_fits_69
    · refine ky_iload_n C dX5_fits_46 1 rfl ?_
      refine ky_iload_n C dX5_fits_47 2 rfl ?_
      refine ky_icmp_gt C 55 dX5_fits_48 (by decide) ?_ ?_
      · refine ky_iconst C (0 : Int32) dX5_fits_55 (by decide) ?_
        refine ky_goto C 69 dX5_fits_56 (by decide) ?_
        exact ky_zret C (by decide) dX5_fits_69
      · refine ky_iconst C (1 : Int32) dX5_fits_51 (by decide) ?_
        refine ky_goto C 69 dX5_fits_52 (by decide) ?_
        exact ky_zret C (by decide) dX5_fits_69
def JX5_fits_34 (F : Nat) (xv1 : Int32) (xv2 : Int32) (M : Mem) : Option (Int32 × Mem) := JX5_fits_35 F xv1 xv2 (0 : Int32) M
set_option maxRecDepth 100000 in
set_option maxHeartbeats 4000000 in
theorem jX5_fits_34 {G : KyG} {cy : Nat → ClassId} (hG : IsC G cy) {E : KyE} (C : Cx G E cX5_fits 4 RX5 (wY yX5_fits cX5_fits 4 (some .boolean)) (some .boolean) rmX5_fits) (F : Nat) (xv1 : Int32) (xv2 : Int32) (M : Mem)  : Wo G E 4 rI (JX5_fits_34 F xv1 xv2 M) M 34 [(1, .int xv1), (2, .int xv2)] [] := by
  unfold JX5_fits_34
  refine ky_iconst C (0 : Int32) dX5_fits_34 (by decide) ?_
  exact ky_sub [0, 1] rfl (jX5_fits_35 hG C F xv1 xv2 (0 : Int32) M )
def f_X5_fits (F : Nat) (a0 : Int32) (a1 : Int32) (M : Mem) : Option (Int32 × Mem) := bd (f_J0_length_8abf5 F M) (fun r1 M2 => if a0 < r1 then (bd (f_J0_charAt_5068e F a0 M2) (fun r3 M4 => if r3 < (48 : Int32) then (JX5_fits_34 F a1 r3 M4) else (if (57 : Int32) < r3 then (JX5_fits_34 F a1 r3 M4) else (JX5_fits_35 F a1 r3 (1 : Int32) M4)))) else (some ((0 : Int32), M2)))
set_option maxRecDepth 100000 in
set_option maxHeartbeats 4000000 in
theorem c_X5_fits {G : KyG} {cy : Nat → ClassId} (hG : IsC G cy) (F : Nat)  (a0 : Int32) (a1 : Int32) (M : Mem)  : Ct G yX5_fits (wY yX5_fits cX5_fits 4 (some .boolean)) rmX5_fits rI [.int a0, .int a1] (f_X5_fits F a0 a1 M) M := by
  refine Ct_of cX5_fits 4 (some .boolean) RX5 hG.2.2.2.1 (by decide) rfl rfl (Nat.le_of_ble_eq_true rfl) rfl (fun E C => ?_)
  unfold f_X5_fits
  refine ky_iload_n C dX5_fits_0 0 rfl ?_
  refine ky_ldcS C hG dX5_fits_1 ?_
  refine ky_callStri C hG (c_J0_length_8abf5 hG F M ) (wY_goodV tw_1_204 tw_1_205 tw_1_206 tw_1_8 tw_1_207) hd_J0_length_8abf5 ⟨rfl, rfl, by decide, by decide⟩ rfl rfl (Nat.le_of_ble_eq_true rfl) dX5_fits_3 (fun r1 M2 => ?_)
  refine ky_icmp_lt C 11 dX5_fits_6 (by decide) ?_ ?_
  · refine ky_ldcS C hG dX5_fits_11 ?_
    refine ky_iload_n C dX5_fits_13 0 rfl ?_
    refine ky_callStri C hG (c_J0_charAt_5068e hG F a0 M2 ) (wY_goodV tw_1_214 tw_1_215 tw_1_216 tw_1_8 tw_1_217) hd_J0_charAt_5068e ⟨rfl, rfl, by decide, by decide⟩ rfl rfl (Nat.le_of_ble_eq_true rfl) dX5_fits_14 (fun r3 M4 => ?_)
    refine ky_istore_n (lv' := [(2, .int r3), (0, .int a0), (1, .int a1)]) C dX5_fits_17 (by decide) rfl ?_
    refine ky_iload_n C dX5_fits_18 0 rfl ?_
    refine ky_bipush C (48 : Int32) dX5_fits_19 (by decide) ?_
    refine ky_icmp_lt C 34 dX5_fits_21 (by decide) ?_ ?_
    · exact ky_sub [2, 0] rfl (jX5_fits_34 hG C F a1 r3 M4 )
    · refine ky_iload_n C dX5_fits_24 0 rfl ?_
      refine ky_bipush C (57 : Int32) dX5_fits_25 (by decide) ?_
      refine ky_icmp_gt C 34 dX5_fits_27 (by decide) ?_ ?_
      · exact ky_sub [2, 0] rfl (jX5_fits_34 hG C F a1 r3 M4 )
      · refine ky_iconst C (1 : Int32) dX5_fits_30 (by decide) ?_
        refine ky_goto C 35 dX5_fits_31 (by decide) ?_
        exact ky_sub [2, 0] rfl (jX5_fits_35 hG C F a1 r3 (1 : Int32) M4 )
  · refine ky_iconst C (0 : Int32) dX5_fits_9 (by decide) ?_
    exact ky_zret C (by decide) dX5_fits_10
def rmX5_fault : Room := { frames := 5, cells := 0, slots := 0, locals := 108 }
theorem hd_X5_fault : yX5_fault.cls = RX5 ∧ yX5_fault.cls ≠ "java/lang/invoke/MethodHandle" ∧ yX5_fault.cls ≠ "java/lang/invoke/VarHandle" ∧ (parseMethodDescriptor yX5_fault.desc).map (fun d => d.parameters.length) = some 0 := ⟨rfl, by decide, by decide, by decide +kernel⟩
def LX5_fault_2 (F : Nat)  : Nat → Int32 → Mem → Option (Int32 × Mem)
  | 0, _, _ => none
  | n + 1, xv1, M => if (M.1 0 1) ≤ xv1 then (some (M.1 0 1, M)) else (gi xv1 12 (bd (f_X5_fits F xv1 (M.1 1 xv1.toNatClampNeg) M) (fun r2 M3 => if r2 = 0 then (some (xv1, M3)) else (nm (xv1 + (1 : Int32)) (fun x4 => LX5_fault_2 F n x4 M3)))))
theorem LX5_fault_2_s (F : Nat)  (n : Nat) (xv1 : Int32) (M : Mem) : LX5_fault_2 F (n + 1) xv1 M = (if (M.1 0 1) ≤ xv1 then (some (M.1 0 1, M)) else (gi xv1 12 (bd (f_X5_fits F xv1 (M.1 1 xv1.toNatClampNeg) M) (fun r2 M3 => if r2 = 0 then (some (xv1, M3)) else (nm (xv1 + (1 : Int32)) (fun x4 => LX5_fault_2 F n x4 M3)))))) := rfl
set_option maxRecDepth 100000 in
set_option maxHeartbeats 4000000 in
theorem lX5_fault_2 {G : KyG} {cy : Nat → ClassId} (hG : IsC G cy) {E : KyE} (C : Cx G E cX5_fault 2 RX5 (wY yX5_fault cX5_fault 2 (some .int)) (some .int) rmX5_fault) (F : Nat)   : ∀ (n : Nat) (xv1 : Int32) (M : Mem) , Wo G E 2 rI (LX5_fault_2 F n xv1 M) M 2 [(0, .ref (gA G 0)), (1, .int xv1)] [] := by
  intro n
  induction n with
  | zero => intro xv1 M ; exact ky_none
  | succ n ih =>
    intro xv1 M 
    rw [LX5_fault_2_s]
    refine ky_iload_n C dX5_fault_2 1 rfl ?_
    refine ky_aload_n C dX5_fault_3 0 rfl ?_
    refine ky_get C (ltK hG) (ceK hG) rfl inWX5 1 (by decide) (wY_in tw_1_161) rfl rfl dX5_fault_4 ?_
    refine ky_icmp_ge C 31 dX5_fault_7 (by decide) ?_ ?_
    · refine ky_aload_n C dX5_fault_31 0 rfl ?_
      refine ky_get C (ltK hG) (ceK hG) rfl inWX5 1 (by decide) (wY_in tw_1_161) rfl rfl dX5_fault_32 ?_
      exact ky_iret C dX5_fault_35
    · refine ky_iload_n C dX5_fault_10 1 rfl ?_
      refine ky_aload_n C dX5_fault_11 0 rfl ?_
      refine ky_get C (ltK hG) (ceK hG) rfl inWX5 0 (by decide) (wY_in tw_1_160) rfl rfl dX5_fault_12 ?_
      refine ky_iload_n C dX5_fault_15 1 rfl ?_
      refine ky_cald C (ltPG hG) (cePG hG) (tC0 hG) dX5_fault_16 (fun hx1 => ?_)
      refine ky_callSi C (c_X5_fits hG F xv1 (M.1 1 xv1.toNatClampNeg) M ) (wY_goodS tw_1_200 tw_1_201 tw_1_1 tw_1_202) hd_X5_fits ⟨rfl, rfl, by decide, by decide⟩ rfl rfl (Nat.le_of_ble_eq_true rfl) dX5_fault_17 (fun r2 M3 => ?_)
      refine ky_if_ne C 25 dX5_fault_20 (by decide) ?_ ?_
      · refine ky_iload_n C dX5_fault_23 1 rfl ?_
        exact ky_iret C dX5_fault_24
      · refine ky_iinc (lv' := fun x4 => [(1, .int x4), (0, .ref (gA G 0))]) C dX5_fault_25 1 rfl (d1 := (1 : Int32)) rfl (by decide) (fun _ => rfl) (fun x4 => ?_)
        refine ky_goto C 2 dX5_fault_28 (by decide) ?_
        exact ky_sub [1, 0] rfl (ih x4 M3 )
def f_X5_fault (F : Nat)  (M : Mem) : Option (Int32 × Mem) := LX5_fault_2 F  F (0 : Int32) M
set_option maxRecDepth 100000 in
set_option maxHeartbeats 4000000 in
theorem c_X5_fault {G : KyG} {cy : Nat → ClassId} (hG : IsC G cy) (F : Nat)   (M : Mem)  : Ct G yX5_fault (wY yX5_fault cX5_fault 2 (some .int)) rmX5_fault rI [.ref (gA G 0)] (f_X5_fault F  M) M := by
  refine Ct_of cX5_fault 2 (some .int) RX5 hG.2.2.2.1 (by decide) rfl rfl (Nat.le_of_ble_eq_true rfl) rfl (fun E C => ?_)
  unfold f_X5_fault
  refine ky_iconst C (0 : Int32) dX5_fault_0 (by decide) ?_
  refine ky_istore_n (lv' := [(1, .int (0 : Int32)), (0, .ref (gA G 0))]) C dX5_fault_1 (by decide) rfl ?_
  exact ky_sub [1, 0] rfl (lX5_fault_2 hG C F   F (0 : Int32) M )
def rmX5_forget : Room := { frames := 2, cells := 0, slots := 0, locals := 41 }
theorem hd_X5_forget : yX5_forget.cls = RX5 ∧ yX5_forget.cls ≠ "java/lang/invoke/MethodHandle" ∧ yX5_forget.cls ≠ "java/lang/invoke/VarHandle" ∧ (parseMethodDescriptor yX5_forget.desc).map (fun d => d.parameters.length) = some 0 := ⟨rfl, by decide, by decide, by decide +kernel⟩
def f_X5_forget (F : Nat)  (M : Mem) : Option (Int32 × Mem) := nm (M.1 6 5) (fun x1 => bd (f_X2_forgetTrials F 6 M) (fun r2 M3 => some (x1, M3)))
set_option maxRecDepth 100000 in
set_option maxHeartbeats 4000000 in
theorem c_X5_forget {G : KyG} {cy : Nat → ClassId} (hG : IsC G cy) (F : Nat)   (M : Mem)  : Ct G yX5_forget (wY yX5_forget cX5_forget 2 (some .int)) rmX5_forget rI [.ref (gA G 0)] (f_X5_forget F  M) M := by
  refine Ct_of cX5_forget 2 (some .int) RX5 hG.2.2.2.1 (by decide) rfl rfl (Nat.le_of_ble_eq_true rfl) rfl (fun E C => ?_)
  unfold f_X5_forget
  refine ky_aload_n C dX5_forget_0 0 rfl ?_
  refine ky_get C (ltK hG) (ceK hG) rfl inWX5 2 (by decide) (wY_in tw_1_162) rfl rfl dX5_forget_1 ?_
  refine ky_get C (ltT hG tw6) (ceT hG tw6) rfl inWX2 5 (by decide) (wY_in tw_1_108) rfl rfl dX5_forget_4 ?_
  refine ky_nmi (fun x1 => ?_)
  refine ky_istore_n (lv' := [(1, .int x1), (0, .ref (gA G 0))]) C dX5_forget_7 (by decide) rfl ?_
  refine ky_aload_n C dX5_forget_8 1 rfl ?_
  refine ky_get C (ltK hG) (ceK hG) rfl inWX5 2 (by decide) (wY_in tw_1_162) rfl rfl dX5_forget_9 ?_
  refine ky_callVv C (c_X2_forgetTrials hG F 6 M tw6) (ltT hG tw6) (ceT hG tw6) rfl (wY_goodV tw_2_200 tw_2_201 tw_2_202 tw_1_2 tw_2_203) hd_X2_forgetTrials ⟨rfl, rfl, by decide, by decide⟩ rfl rfl (Nat.le_of_ble_eq_true rfl) dX5_forget_12 (fun r2 M3 => ?_)
  refine ky_iload_n C dX5_forget_15 0 rfl ?_
  exact ky_iret C dX5_forget_16
def rmX5_image : Room := { frames := 2, cells := 0, slots := 0, locals := 43 }
theorem hd_X5_image : yX5_image.cls = RX5 ∧ yX5_image.cls ≠ "java/lang/invoke/MethodHandle" ∧ yX5_image.cls ≠ "java/lang/invoke/VarHandle" ∧ (parseMethodDescriptor yX5_image.desc).map (fun d => d.parameters.length) = some 0 := ⟨rfl, by decide, by decide, by decide +kernel⟩
def f_X5_image (F : Nat)  (M : Mem) : Option (Int32 × Mem) := if (M.1 0 6) = 0 then (some ((mI 103), M)) else (bd (f_X2_copy F 16 6 M) (fun r1 M2 => nm (u2 M2 0 7 (1 : Int32)) (fun M3 => some (M3.1 6 4, M3))))
set_option maxRecDepth 100000 in
set_option maxHeartbeats 4000000 in
theorem c_X5_image {G : KyG} {cy : Nat → ClassId} (hG : IsC G cy) (F : Nat)   (M : Mem)  : Ct G yX5_image (wY yX5_image cX5_image 1 (some .int)) rmX5_image rI [.ref (gA G 0)] (f_X5_image F  M) M := by
  refine Ct_of cX5_image 1 (some .int) RX5 hG.2.2.2.1 (by decide) rfl rfl (Nat.le_of_ble_eq_true rfl) rfl (fun E C => ?_)
  unfold f_X5_image
  refine ky_aload_n C dX5_image_0 0 rfl ?_
  refine ky_get C (ltK hG) (ceK hG) rfl inWX5 6 (by decide) (wY_in tw_1_166) rfl rfl dX5_image_1 ?_
  refine ky_if_ne C 10 dX5_image_4 (by decide) ?_ ?_
  · refine ky_bipush C (mI 103) dX5_image_7 (by decide) ?_
    exact ky_iret C dX5_image_9
  · refine ky_aload_n C dX5_image_10 0 rfl ?_
    refine ky_get C (ltK hG) (ceK hG) rfl inWX5 3 (by decide) (wY_in tw_1_163) rfl rfl dX5_image_11 ?_
    refine ky_aload_n C dX5_image_14 0 rfl ?_
    refine ky_get C (ltK hG) (ceK hG) rfl inWX5 2 (by decide) (wY_in tw_1_162) rfl rfl dX5_image_15 ?_
    refine ky_callVv C (c_X2_copy hG F 16 6 M tw16 tw6) (ltT hG tw16) (ceT hG tw16) rfl (wY_goodV tw_3_27 tw_2_232 tw_2_233 tw_1_2 tw_2_234) hd_X2_copy ⟨rfl, rfl, by decide, by decide⟩ rfl rfl (Nat.le_of_ble_eq_true rfl) dX5_image_18 (fun r1 M2 => ?_)
    refine ky_aload_n C dX5_image_21 0 rfl ?_
    refine ky_iconst C (1 : Int32) dX5_image_22 (by decide) ?_
    refine ky_put C (ltK hG) (ceK hG) rfl inWX5 tyX5_ok nmX5 7 (by decide) (wY_in tw_1_167) ⟨rfl, rfl⟩ (tyX5_ok 7 (by decide)) (by decide) (by decide) (Nat.le_of_ble_eq_true rfl) rfl dX5_image_23 (fun M3 => ?_)
    refine ky_aload_n C dX5_image_26 0 rfl ?_
    refine ky_get C (ltK hG) (ceK hG) rfl inWX5 2 (by decide) (wY_in tw_1_162) rfl rfl dX5_image_27 ?_
    refine ky_get C (ltT hG tw6) (ceT hG tw6) rfl inWX2 4 (by decide) (wY_in tw_1_106) rfl rfl dX5_image_30 ?_
    exact ky_iret C dX5_image_33
def rmX5_learn : Room := { frames := 1, cells := 0, slots := 0, locals := 21 }
theorem hd_X5_learn : yX5_learn.cls = RX5 ∧ yX5_learn.cls ≠ "java/lang/invoke/MethodHandle" ∧ yX5_learn.cls ≠ "java/lang/invoke/VarHandle" ∧ (parseMethodDescriptor yX5_learn.desc).map (fun d => d.parameters.length) = some 2 := ⟨rfl, by decide, by decide, by decide +kernel⟩
def f_X5_learn (F : Nat) (a1 : Int32) (a2 : Int32) (M : Mem) : Option (Int32 × Mem) := bd (f_X5_isConvict F a1 M) (fun r1 M2 => if r1 = 0 then (some ((mI 101), M2)) else (bd (f_X5_isSaying F a2 M2) (fun r3 M4 => if r3 = 0 then (some ((mI 101), M4)) else (gi a1 4 (bd (f_X0_knowsOf F (6 + 6 + a1.toNatClampNeg) a2 M4) (fun r6 M7 => if r6 = 0 then (nm ((M7.1 (6 + 6 + a1.toNatClampNeg) 3) ||| ((1 : Int32) <<< (a2 &&& 31))) (fun x8 => nm (u2 M7 (6 + 6 + a1.toNatClampNeg) 3 x8) (fun M9 => some ((1 : Int32), M9)))) else (some ((0 : Int32), M7))))))))
set_option maxRecDepth 100000 in
set_option maxHeartbeats 4000000 in
theorem c_X5_learn {G : KyG} {cy : Nat → ClassId} (hG : IsC G cy) (F : Nat)  (a1 : Int32) (a2 : Int32) (M : Mem)  : Ct G yX5_learn (wY yX5_learn cX5_learn 4 (some .int)) rmX5_learn rI [.ref (gA G 0), .int a1, .int a2] (f_X5_learn F a1 a2 M) M := by
  refine Ct_of cX5_learn 4 (some .int) RX5 hG.2.2.2.1 (by decide) rfl rfl (Nat.le_of_ble_eq_true rfl) rfl (fun E C => ?_)
  unfold f_X5_learn
  refine ky_aload_n C dX5_learn_0 0 rfl ?_
  refine ky_iload_n C dX5_learn_1 1 rfl ?_
  refine ky_callVi C (c_X5_isConvict hG F a1 M ) (ltK hG) (ceK hG) rfl (wY_goodV tw_2_79 tw_2_81 tw_p2 tw_1_1 tw_2_82) hd_X5_isConvict ⟨rfl, rfl, by decide, by decide⟩ rfl rfl (Nat.le_of_ble_eq_true rfl) dX5_learn_2 (fun r1 M2 => ?_)
  refine ky_if_eq C 15 dX5_learn_5 (by decide) ?_ ?_
  · refine ky_bipush C (mI 101) dX5_learn_15 (by decide) ?_
    exact ky_iret C dX5_learn_17
  · refine ky_iload_n C dX5_learn_8 2 rfl ?_
    refine ky_callSi C (c_X5_isSaying hG F a2 M2 ) (wY_goodS tw_2_122 tw_2_123 tw_1_1 tw_2_124) hd_X5_isSaying ⟨rfl, rfl, by decide, by decide⟩ rfl rfl (Nat.le_of_ble_eq_true rfl) dX5_learn_9 (fun r3 M4 => ?_)
    refine ky_if_ne C 18 dX5_learn_12 (by decide) ?_ ?_
    · refine ky_bipush C (mI 101) dX5_learn_15 (by decide) ?_
      exact ky_iret C dX5_learn_17
    · refine ky_aload_n C dX5_learn_18 0 rfl ?_
      refine ky_get C (ltK hG) (ceK hG) rfl inWX5 2 (by decide) (wY_in tw_1_162) rfl rfl dX5_learn_19 ?_
      refine ky_get C (ltT hG tw6) (ceT hG tw6) rfl inWX2 1 (by decide) (wY_in tw_1_98) rfl rfl dX5_learn_22 ?_
      refine ky_iload_n C dX5_learn_25 1 rfl ?_
      refine ky_aald C (ltCA hG tw6) (ceCA hG tw6) (tC3 hG) dX5_learn_26 (fun hx5 => ?_)
      refine ky_astore_n (lv' := [(3, .ref (gA G (6 + 6 + a1.toNatClampNeg))), (0, .ref (gA G 0)), (1, .int a1), (2, .int a2)]) C dX5_learn_27 (by decide) rfl ?_
      refine ky_aload_n C dX5_learn_28 0 rfl ?_
      refine ky_iload_n C dX5_learn_29 3 rfl ?_
      refine ky_callVi C (c_X0_knowsOf hG F (6 + 6 + a1.toNatClampNeg) a2 M4 (isCv_of tw6 hx5)) (ltC hG (isCv_of tw6 hx5)) (ceC hG (isCv_of tw6 hx5)) rfl (wY_goodV tw_2_126 tw_2_127 tw_2_128 tw_1_4 tw_2_129) hd_X0_knowsOf ⟨rfl, rfl, by decide, by decide⟩ rfl rfl (Nat.le_of_ble_eq_true rfl) dX5_learn_30 (fun r6 M7 => ?_)
      refine ky_if_eq C 38 dX5_learn_33 (by decide) ?_ ?_
      · refine ky_aload_n C dX5_learn_38 0 rfl ?_
        refine ky_dup C dX5_learn_39 rfl ?_
        refine ky_get C (ltC hG (isCv_of tw6 hx5)) (ceC hG (isCv_of tw6 hx5)) rfl inWX0 3 (by decide) (wY_in tw_1_73) rfl rfl dX5_learn_40 ?_
        refine ky_iconst C (1 : Int32) dX5_learn_43 (by decide) ?_
        refine ky_iload_n C dX5_learn_44 3 rfl ?_
        refine ky_ishl C dX5_learn_45 ?_
        refine ky_ior C dX5_learn_46 ?_
        refine ky_nmi (fun x8 => ?_)
        refine ky_put C (ltC hG (isCv_of tw6 hx5)) (ceC hG (isCv_of tw6 hx5)) rfl inWX0 tyX0_ok nmX0 3 (by decide) (wY_in tw_1_73) ⟨rfl, rfl⟩ (tyX0_ok 3 (by decide)) rfl rfl (Nat.le_of_ble_eq_true rfl) rfl dX5_learn_47 (fun M9 => ?_)
        refine ky_iconst C (1 : Int32) dX5_learn_50 (by decide) ?_
        exact ky_iret C dX5_learn_51
      · refine ky_iconst C (0 : Int32) dX5_learn_36 (by decide) ?_
        exact ky_iret C dX5_learn_37
def rmX5_letter : Room := { frames := 0, cells := 0, slots := 0, locals := 0 }
theorem hd_X5_letter : yX5_letter.cls = RX5 ∧ yX5_letter.cls ≠ "java/lang/invoke/MethodHandle" ∧ yX5_letter.cls ≠ "java/lang/invoke/VarHandle" ∧ (parseMethodDescriptor yX5_letter.desc).map (fun d => d.parameters.length) = some 1 := ⟨rfl, by decide, by decide, by decide +kernel⟩
def f_X5_letter (F : Nat) (a1 : Int32) (M : Mem) : Option (Int32 × Mem) := if a1 < (1 : Int32) then (some ((mI 102), M)) else (if a1 ≤ (126 : Int32) then (if (M.1 0 1) < (12 : Int32) then (nm ((a1.toUInt32 % 65536).toInt32) (fun x1 => gi (M.1 0 1) 12 (nm (u2 M 1 (M.1 0 1).toNatClampNeg (vp_nar .char x1)) (fun M2 => nm ((M2.1 0 1) + (1 : Int32)) (fun x4 => nm (u2 M2 0 1 x4) (fun M5 => some (M5.1 0 1, M5))))))) else (some ((mI 104), M))) else (some ((mI 102), M)))
set_option maxRecDepth 100000 in
set_option maxHeartbeats 4000000 in
theorem c_X5_letter {G : KyG} {cy : Nat → ClassId} (hG : IsC G cy) (F : Nat)  (a1 : Int32) (M : Mem)  : Ct G yX5_letter (wY yX5_letter cX5_letter 2 (some .int)) rmX5_letter rI [.ref (gA G 0), .int a1] (f_X5_letter F a1 M) M := by
  refine Ct_of cX5_letter 2 (some .int) RX5 hG.2.2.2.1 (by decide) rfl rfl (Nat.le_of_ble_eq_true rfl) rfl (fun E C => ?_)
  unfold f_X5_letter
  refine ky_iload_n C dX5_letter_0 1 rfl ?_
  refine ky_iconst C (1 : Int32) dX5_letter_1 (by decide) ?_
  refine ky_icmp_lt C 11 dX5_letter_2 (by decide) ?_ ?_
  · refine ky_bipush C (mI 102) dX5_letter_11 (by decide) ?_
    exact ky_iret C dX5_letter_13
  · refine ky_iload_n C dX5_letter_5 1 rfl ?_
    refine ky_bipush C (126 : Int32) dX5_letter_6 (by decide) ?_
    refine ky_icmp_le C 14 dX5_letter_8 (by decide) ?_ ?_
    · refine ky_aload_n C dX5_letter_14 0 rfl ?_
      refine ky_get C (ltK hG) (ceK hG) rfl inWX5 1 (by decide) (wY_in tw_1_161) rfl rfl dX5_letter_15 ?_
      refine ky_bipush C (12 : Int32) dX5_letter_18 (by decide) ?_
      refine ky_icmp_lt C 26 dX5_letter_20 (by decide) ?_ ?_
      · refine ky_aload_n C dX5_letter_26 0 rfl ?_
        refine ky_get C (ltK hG) (ceK hG) rfl inWX5 0 (by decide) (wY_in tw_1_160) rfl rfl dX5_letter_27 ?_
        refine ky_aload_n C dX5_letter_30 0 rfl ?_
        refine ky_get C (ltK hG) (ceK hG) rfl inWX5 1 (by decide) (wY_in tw_1_161) rfl rfl dX5_letter_31 ?_
        refine ky_iload_n C dX5_letter_34 1 rfl ?_
        refine ky_i2c C dX5_letter_35 ?_
        refine ky_nmi (fun x1 => ?_)
        refine ky_cast C (ltPG hG) (cePG hG) (tC0 hG) dX5_letter_36 (fun M2 hx3 => ?_)
        refine ky_aload_n C dX5_letter_37 0 rfl ?_
        refine ky_dup C dX5_letter_38 rfl ?_
        refine ky_get C (ltK hG) (ceK hG) rfl inWX5 1 (by decide) (wY_in tw_1_161) rfl rfl dX5_letter_39 ?_
        refine ky_iconst C (1 : Int32) dX5_letter_42 (by decide) ?_
        refine ky_iadd C dX5_letter_43 ?_
        refine ky_nmi (fun x4 => ?_)
        refine ky_put C (ltK hG) (ceK hG) rfl inWX5 tyX5_ok nmX5 1 (by decide) (wY_in tw_1_161) ⟨rfl, rfl⟩ (tyX5_ok 1 (by decide)) rfl rfl (Nat.le_of_ble_eq_true rfl) rfl dX5_letter_44 (fun M5 => ?_)
        refine ky_aload_n C dX5_letter_47 0 rfl ?_
        refine ky_get C (ltK hG) (ceK hG) rfl inWX5 1 (by decide) (wY_in tw_1_161) rfl rfl dX5_letter_48 ?_
        exact ky_iret C dX5_letter_51
      · refine ky_bipush C (mI 104) dX5_letter_23 (by decide) ?_
        exact ky_iret C dX5_letter_25
    · refine ky_bipush C (mI 102) dX5_letter_11 (by decide) ?_
      exact ky_iret C dX5_letter_13
def rmX5_night : Room := { frames := 2, cells := 0, slots := 0, locals := 41 }
theorem hd_X5_night : yX5_night.cls = RX5 ∧ yX5_night.cls ≠ "java/lang/invoke/MethodHandle" ∧ yX5_night.cls ≠ "java/lang/invoke/VarHandle" ∧ (parseMethodDescriptor yX5_night.desc).map (fun d => d.parameters.length) = some 0 := ⟨rfl, by decide, by decide, by decide +kernel⟩
def f_X5_night (F : Nat)  (M : Mem) : Option (Int32 × Mem) := if (M.1 0 6) = 0 then (some ((mI 103), M)) else (bd (f_X2_beginNextDay F 6 M) (fun r1 M2 => some (M2.1 6 4, M2)))
set_option maxRecDepth 100000 in
set_option maxHeartbeats 4000000 in
theorem c_X5_night {G : KyG} {cy : Nat → ClassId} (hG : IsC G cy) (F : Nat)   (M : Mem)  : Ct G yX5_night (wY yX5_night cX5_night 1 (some .int)) rmX5_night rI [.ref (gA G 0)] (f_X5_night F  M) M := by
  refine Ct_of cX5_night 1 (some .int) RX5 hG.2.2.2.1 (by decide) rfl rfl (Nat.le_of_ble_eq_true rfl) rfl (fun E C => ?_)
  unfold f_X5_night
  refine ky_aload_n C dX5_night_0 0 rfl ?_
  refine ky_get C (ltK hG) (ceK hG) rfl inWX5 6 (by decide) (wY_in tw_1_166) rfl rfl dX5_night_1 ?_
  refine ky_if_ne C 10 dX5_night_4 (by decide) ?_ ?_
  · refine ky_bipush C (mI 103) dX5_night_7 (by decide) ?_
    exact ky_iret C dX5_night_9
  · refine ky_aload_n C dX5_night_10 0 rfl ?_
    refine ky_get C (ltK hG) (ceK hG) rfl inWX5 2 (by decide) (wY_in tw_1_162) rfl rfl dX5_night_11 ?_
    refine ky_callVv C (c_X2_beginNextDay hG F 6 M tw6) (ltT hG tw6) (ceT hG tw6) rfl (wY_goodV tw_2_146 tw_2_147 tw_2_148 tw_1_2 tw_2_149) hd_X2_beginNextDay ⟨rfl, rfl, by decide, by decide⟩ rfl rfl (Nat.le_of_ble_eq_true rfl) dX5_night_14 (fun r1 M2 => ?_)
    refine ky_aload_n C dX5_night_17 0 rfl ?_
    refine ky_get C (ltK hG) (ceK hG) rfl inWX5 2 (by decide) (wY_in tw_1_162) rfl rfl dX5_night_18 ?_
    refine ky_get C (ltT hG tw6) (ceT hG tw6) rfl inWX2 4 (by decide) (wY_in tw_1_106) rfl rfl dX5_night_21 ?_
    exact ky_iret C dX5_night_24
def rmX5_restore : Room := { frames := 2, cells := 0, slots := 0, locals := 43 }
theorem hd_X5_restore : yX5_restore.cls = RX5 ∧ yX5_restore.cls ≠ "java/lang/invoke/MethodHandle" ∧ yX5_restore.cls ≠ "java/lang/invoke/VarHandle" ∧ (parseMethodDescriptor yX5_restore.desc).map (fun d => d.parameters.length) = some 0 := ⟨rfl, by decide, by decide, by decide +kernel⟩
def f_X5_restore (F : Nat)  (M : Mem) : Option (Int32 × Mem) := if (M.1 0 7) = 0 then (some ((mI 103), M)) else (bd (f_X2_copy F 6 16 M) (fun r1 M2 => some (M2.1 6 4, M2)))
set_option maxRecDepth 100000 in
set_option maxHeartbeats 4000000 in
theorem c_X5_restore {G : KyG} {cy : Nat → ClassId} (hG : IsC G cy) (F : Nat)   (M : Mem)  : Ct G yX5_restore (wY yX5_restore cX5_restore 1 (some .int)) rmX5_restore rI [.ref (gA G 0)] (f_X5_restore F  M) M := by
  refine Ct_of cX5_restore 1 (some .int) RX5 hG.2.2.2.1 (by decide) rfl rfl (Nat.le_of_ble_eq_true rfl) rfl (fun E C => ?_)
  unfold f_X5_restore
  refine ky_aload_n C dX5_restore_0 0 rfl ?_
  refine ky_get C (ltK hG) (ceK hG) rfl inWX5 7 (by decide) (wY_in tw_1_167) rfl rfl dX5_restore_1 ?_
  refine ky_if_ne C 10 dX5_restore_4 (by decide) ?_ ?_
  · refine ky_bipush C (mI 103) dX5_restore_7 (by decide) ?_
    exact ky_iret C dX5_restore_9
  · refine ky_aload_n C dX5_restore_10 0 rfl ?_
    refine ky_get C (ltK hG) (ceK hG) rfl inWX5 2 (by decide) (wY_in tw_1_162) rfl rfl dX5_restore_11 ?_
    refine ky_aload_n C dX5_restore_14 0 rfl ?_
    refine ky_get C (ltK hG) (ceK hG) rfl inWX5 3 (by decide) (wY_in tw_1_163) rfl rfl dX5_restore_15 ?_
    refine ky_callVv C (c_X2_copy hG F 6 16 M tw6 tw16) (ltT hG tw6) (ceT hG tw6) rfl (wY_goodV tw_3_27 tw_2_232 tw_2_233 tw_1_2 tw_2_234) hd_X2_copy ⟨rfl, rfl, by decide, by decide⟩ rfl rfl (Nat.le_of_ble_eq_true rfl) dX5_restore_18 (fun r1 M2 => ?_)
    refine ky_aload_n C dX5_restore_21 0 rfl ?_
    refine ky_get C (ltK hG) (ceK hG) rfl inWX5 2 (by decide) (wY_in tw_1_162) rfl rfl dX5_restore_22 ?_
    refine ky_get C (ltT hG tw6) (ceT hG tw6) rfl inWX2 4 (by decide) (wY_in tw_1_106) rfl rfl dX5_restore_25 ?_
    exact ky_iret C dX5_restore_28
def rmX5_say : Room := { frames := 2, cells := 0, slots := 0, locals := 44 }
theorem hd_X5_say : yX5_say.cls = RX5 ∧ yX5_say.cls ≠ "java/lang/invoke/MethodHandle" ∧ yX5_say.cls ≠ "java/lang/invoke/VarHandle" ∧ (parseMethodDescriptor yX5_say.desc).map (fun d => d.parameters.length) = some 2 := ⟨rfl, by decide, by decide, by decide +kernel⟩
def f_X5_say (F : Nat) (a1 : Int32) (a2 : Int32) (M : Mem) : Option (Int32 × Mem) := bd (f_X5_isConvict F a1 M) (fun r1 M2 => if r1 = 0 then (some ((mI 101), M2)) else (bd (f_X5_isSaying F a2 M2) (fun r3 M4 => if r3 = 0 then (some ((mI 101), M4)) else (gi a1 4 (bd (f_X0_hasPaid F (6 + 6 + a1.toNatClampNeg) M4) (fun r6 M7 => if r6 = 0 then (if (M7.1 (6 + 6 + a1.toNatClampNeg) 4) ≤ 0 then (some ((mI 103), M7)) else (bd (f_X0_knowsOf F (6 + 6 + a1.toNatClampNeg) a2 M7) (fun r8 M9 => if r8 = 0 then (some ((mI 103), M9)) else (bd (f_X2_hear F 6 (6 + 6 + a1.toNatClampNeg) a2 M9) (fun r10 M11 => if r10 = 0 then (some ((0 : Int32), M11)) else (some ((1 : Int32), M11))))))) else (some ((mI 103), M7))))))))
set_option maxRecDepth 100000 in
set_option maxHeartbeats 4000000 in
theorem c_X5_say {G : KyG} {cy : Nat → ClassId} (hG : IsC G cy) (F : Nat)  (a1 : Int32) (a2 : Int32) (M : Mem)  : Ct G yX5_say (wY yX5_say cX5_say 4 (some .int)) rmX5_say rI [.ref (gA G 0), .int a1, .int a2] (f_X5_say F a1 a2 M) M := by
  refine Ct_of cX5_say 4 (some .int) RX5 hG.2.2.2.1 (by decide) rfl rfl (Nat.le_of_ble_eq_true rfl) rfl (fun E C => ?_)
  unfold f_X5_say
  refine ky_aload_n C dX5_say_0 0 rfl ?_
  refine ky_iload_n C dX5_say_1 1 rfl ?_
  refine ky_callVi C (c_X5_isConvict hG F a1 M ) (ltK hG) (ceK hG) rfl (wY_goodV tw_2_79 tw_2_81 tw_p2 tw_1_1 tw_2_82) hd_X5_isConvict ⟨rfl, rfl, by decide, by decide⟩ rfl rfl (Nat.le_of_ble_eq_true rfl) dX5_say_2 (fun r1 M2 => ?_)
  refine ky_if_eq C 15 dX5_say_5 (by decide) ?_ ?_
  · refine ky_bipush C (mI 101) dX5_say_15 (by decide) ?_
    exact ky_iret C dX5_say_17
  · refine ky_iload_n C dX5_say_8 2 rfl ?_
    refine ky_callSi C (c_X5_isSaying hG F a2 M2 ) (wY_goodS tw_2_122 tw_2_123 tw_1_1 tw_2_124) hd_X5_isSaying ⟨rfl, rfl, by decide, by decide⟩ rfl rfl (Nat.le_of_ble_eq_true rfl) dX5_say_9 (fun r3 M4 => ?_)
    refine ky_if_ne C 18 dX5_say_12 (by decide) ?_ ?_
    · refine ky_bipush C (mI 101) dX5_say_15 (by decide) ?_
      exact ky_iret C dX5_say_17
    · refine ky_aload_n C dX5_say_18 0 rfl ?_
      refine ky_get C (ltK hG) (ceK hG) rfl inWX5 2 (by decide) (wY_in tw_1_162) rfl rfl dX5_say_19 ?_
      refine ky_get C (ltT hG tw6) (ceT hG tw6) rfl inWX2 1 (by decide) (wY_in tw_1_98) rfl rfl dX5_say_22 ?_
      refine ky_iload_n C dX5_say_25 1 rfl ?_
      refine ky_aald C (ltCA hG tw6) (ceCA hG tw6) (tC3 hG) dX5_say_26 (fun hx5 => ?_)
      refine ky_astore_n (lv' := [(3, .ref (gA G (6 + 6 + a1.toNatClampNeg))), (0, .ref (gA G 0)), (1, .int a1), (2, .int a2)]) C dX5_say_27 (by decide) rfl ?_
      refine ky_aload_n C dX5_say_28 0 rfl ?_
      refine ky_callVi C (c_X0_hasPaid hG F (6 + 6 + a1.toNatClampNeg) M4 (isCv_of tw6 hx5)) (ltC hG (isCv_of tw6 hx5)) (ceC hG (isCv_of tw6 hx5)) rfl (wY_goodV tw_2_125 tw_2_96 tw_2_97 tw_1_4 tw_2_98) hd_X0_hasPaid ⟨rfl, rfl, by decide, by decide⟩ rfl rfl (Nat.le_of_ble_eq_true rfl) dX5_say_29 (fun r6 M7 => ?_)
      refine ky_if_ne C 50 dX5_say_32 (by decide) ?_ ?_
      · refine ky_aload_n C dX5_say_35 0 rfl ?_
        refine ky_get C (ltC hG (isCv_of tw6 hx5)) (ceC hG (isCv_of tw6 hx5)) rfl inWX0 4 (by decide) (wY_in tw_1_77) rfl rfl dX5_say_36 ?_
        refine ky_if_le C 50 dX5_say_39 (by decide) ?_ ?_
        · refine ky_bipush C (mI 103) dX5_say_50 (by decide) ?_
          exact ky_iret C dX5_say_52
        · refine ky_aload_n C dX5_say_42 0 rfl ?_
          refine ky_iload_n C dX5_say_43 3 rfl ?_
          refine ky_callVi C (c_X0_knowsOf hG F (6 + 6 + a1.toNatClampNeg) a2 M7 (isCv_of tw6 hx5)) (ltC hG (isCv_of tw6 hx5)) (ceC hG (isCv_of tw6 hx5)) rfl (wY_goodV tw_2_126 tw_2_127 tw_2_128 tw_1_4 tw_2_129) hd_X0_knowsOf ⟨rfl, rfl, by decide, by decide⟩ rfl rfl (Nat.le_of_ble_eq_true rfl) dX5_say_44 (fun r8 M9 => ?_)
          refine ky_if_ne C 53 dX5_say_47 (by decide) ?_ ?_
          · refine ky_bipush C (mI 103) dX5_say_50 (by decide) ?_
            exact ky_iret C dX5_say_52
          · refine ky_aload_n C dX5_say_53 1 rfl ?_
            refine ky_get C (ltK hG) (ceK hG) rfl inWX5 2 (by decide) (wY_in tw_1_162) rfl rfl dX5_say_54 ?_
            refine ky_aload_n C dX5_say_57 0 rfl ?_
            refine ky_iload_n C dX5_say_58 3 rfl ?_
            refine ky_callVi C (c_X2_hear hG F 6 (6 + 6 + a1.toNatClampNeg) a2 M9 tw6 (isCv_of tw6 hx5)) (ltT hG tw6) (ceT hG tw6) rfl (wY_goodV tw_2_130 tw_2_131 tw_2_132 tw_1_2 tw_2_133) hd_X2_hear ⟨rfl, rfl, by decide, by decide⟩ rfl rfl (Nat.le_of_ble_eq_true rfl) dX5_say_59 (fun r10 M11 => ?_)
            refine ky_if_eq C 69 dX5_say_62 (by decide) ?_ ?_
            · refine ky_iconst C (0 : Int32) dX5_say_69 (by decide) ?_
              exact ky_iret C dX5_say_70
            · refine ky_iconst C (1 : Int32) dX5_say_65 (by decide) ?_
              refine ky_goto C 70 dX5_say_66 (by decide) ?_
              exact ky_iret C dX5_say_70
      · refine ky_bipush C (mI 103) dX5_say_50 (by decide) ?_
        exact ky_iret C dX5_say_52
def rmX5_town : Room := { frames := 6, cells := 0, slots := 0, locals := 129 }
theorem hd_X5_town : yX5_town.cls = RX5 ∧ yX5_town.cls ≠ "java/lang/invoke/MethodHandle" ∧ yX5_town.cls ≠ "java/lang/invoke/VarHandle" ∧ (parseMethodDescriptor yX5_town.desc).map (fun d => d.parameters.length) = some 0 := ⟨rfl, by decide, by decide, by decide +kernel⟩
def LX5_town_35 (F : Nat)  : Nat → Int32 → Mem → Option (Int32 × Mem)
  | 0, _, _ => none
  | n + 1, xv1, M => if (3 : Int32) ≤ xv1 then (bd (f_X5_digitAt F (9 : Int32) M) (fun r7 M8 => nm (u2 M8 6 3 r7) (fun M9 => nm (u2 M9 0 1 (0 : Int32)) (fun M10 => nm (u2 M10 0 6 (1 : Int32)) (fun M11 => nm (u2 M11 0 7 (0 : Int32)) (fun M12 => nm ((M12.1 0 8) + (1 : Int32)) (fun x13 => nm (u2 M12 0 8 x13) (fun M14 => bd (f_X2_truthsOfAll F 6 M14) (fun r15 M16 => some (r15, M16)))))))))) else (nm ((3 : Int32) * xv1) (fun x17 => gi xv1 3 (bd (f_X5_digitAt F x17 M) (fun r19 M20 => bd (f_X5_digitAt F (x17 + (1 : Int32)) M20) (fun r21 M22 => nm (((8 : Int32) * r19) + r21) (fun x23 => nm (u2 M22 (6 + 3 + xv1.toNatClampNeg) 0 x23) (fun M24 => nm (xv1 + (1 : Int32)) (fun x25 => LX5_town_35 F n x25 M24))))))))
theorem LX5_town_35_s (F : Nat)  (n : Nat) (xv1 : Int32) (M : Mem) : LX5_town_35 F (n + 1) xv1 M = (if (3 : Int32) ≤ xv1 then (bd (f_X5_digitAt F (9 : Int32) M) (fun r7 M8 => nm (u2 M8 6 3 r7) (fun M9 => nm (u2 M9 0 1 (0 : Int32)) (fun M10 => nm (u2 M10 0 6 (1 : Int32)) (fun M11 => nm (u2 M11 0 7 (0 : Int32)) (fun M12 => nm ((M12.1 0 8) + (1 : Int32)) (fun x13 => nm (u2 M12 0 8 x13) (fun M14 => bd (f_X2_truthsOfAll F 6 M14) (fun r15 M16 => some (r15, M16)))))))))) else (nm ((3 : Int32) * xv1) (fun x17 => gi xv1 3 (bd (f_X5_digitAt F x17 M) (fun r19 M20 => bd (f_X5_digitAt F (x17 + (1 : Int32)) M20) (fun r21 M22 => nm (((8 : Int32) * r19) + r21) (fun x23 => nm (u2 M22 (6 + 3 + xv1.toNatClampNeg) 0 x23) (fun M24 => nm (xv1 + (1 : Int32)) (fun x25 => LX5_town_35 F n x25 M24))))))))) := rfl
set_option maxRecDepth 100000 in
set_option maxHeartbeats 4000000 in
theorem lX5_town_35 {G : KyG} {cy : Nat → ClassId} (hG : IsC G cy) {E : KyE} (C : Cx G E cX5_town 3 RX5 (wY yX5_town cX5_town 3 (some .int)) (some .int) rmX5_town) (F : Nat)   : ∀ (n : Nat) (xv1 : Int32) (M : Mem) , Wo G E 3 rI (LX5_town_35 F n xv1 M) M 35 [(0, .ref (gA G 0)), (1, .int xv1)] [] := by
  intro n
  induction n with
  | zero => intro xv1 M ; exact ky_none
  | succ n ih =>
    intro xv1 M 
    rw [LX5_town_35_s]
    refine ky_iload_n C dX5_town_35 1 rfl ?_
    refine ky_iconst C (3 : Int32) dX5_town_36 (by decide) ?_
    refine ky_icmp_ge C 78 dX5_town_37 (by decide) ?_ ?_
    · refine ky_aload_n C dX5_town_78 0 rfl ?_
      refine ky_get C (ltK hG) (ceK hG) rfl inWX5 2 (by decide) (wY_in tw_1_162) rfl rfl dX5_town_79 ?_
      refine ky_aload_n C dX5_town_82 0 rfl ?_
      refine ky_bipush C (9 : Int32) dX5_town_83 (by decide) ?_
      refine ky_callVi C (c_X5_digitAt hG F (9 : Int32) M ) (ltK hG) (ceK hG) rfl (wY_goodV tw_2_30 tw_2_32 tw_p0 tw_1_1 tw_2_33) hd_X5_digitAt ⟨rfl, rfl, by decide, by decide⟩ rfl rfl (Nat.le_of_ble_eq_true rfl) dX5_town_85 (fun r7 M8 => ?_)
      refine ky_put C (ltT hG tw6) (ceT hG tw6) rfl inWX2 tyX2_ok nmX2 3 (by decide) (wY_in tw_1_104) ⟨rfl, rfl⟩ (tyX2_ok 3 (by decide)) rfl rfl (Nat.le_of_ble_eq_true rfl) rfl dX5_town_88 (fun M9 => ?_)
      refine ky_aload_n C dX5_town_91 0 rfl ?_
      refine ky_iconst C (0 : Int32) dX5_town_92 (by decide) ?_
      refine ky_put C (ltK hG) (ceK hG) rfl inWX5 tyX5_ok nmX5 1 (by decide) (wY_in tw_1_161) ⟨rfl, rfl⟩ (tyX5_ok 1 (by decide)) rfl rfl (Nat.le_of_ble_eq_true rfl) rfl dX5_town_93 (fun M10 => ?_)
      refine ky_aload_n C dX5_town_96 0 rfl ?_
      refine ky_iconst C (1 : Int32) dX5_town_97 (by decide) ?_
      refine ky_put C (ltK hG) (ceK hG) rfl inWX5 tyX5_ok nmX5 6 (by decide) (wY_in tw_1_166) ⟨rfl, rfl⟩ (tyX5_ok 6 (by decide)) (by decide) (by decide) (Nat.le_of_ble_eq_true rfl) rfl dX5_town_98 (fun M11 => ?_)
      refine ky_aload_n C dX5_town_101 0 rfl ?_
      refine ky_iconst C (0 : Int32) dX5_town_102 (by decide) ?_
      refine ky_put C (ltK hG) (ceK hG) rfl inWX5 tyX5_ok nmX5 7 (by decide) (wY_in tw_1_167) ⟨rfl, rfl⟩ (tyX5_ok 7 (by decide)) (by decide) (by decide) (Nat.le_of_ble_eq_true rfl) rfl dX5_town_103 (fun M12 => ?_)
      refine ky_aload_n C dX5_town_106 0 rfl ?_
      refine ky_dup C dX5_town_107 rfl ?_
      refine ky_get C (ltK hG) (ceK hG) rfl inWX5 8 (by decide) (wY_in tw_1_168) rfl rfl dX5_town_108 ?_
      refine ky_iconst C (1 : Int32) dX5_town_111 (by decide) ?_
      refine ky_iadd C dX5_town_112 ?_
      refine ky_nmi (fun x13 => ?_)
      refine ky_put C (ltK hG) (ceK hG) rfl inWX5 tyX5_ok nmX5 8 (by decide) (wY_in tw_1_168) ⟨rfl, rfl⟩ (tyX5_ok 8 (by decide)) rfl rfl (Nat.le_of_ble_eq_true rfl) rfl dX5_town_113 (fun M14 => ?_)
      refine ky_aload_n C dX5_town_116 0 rfl ?_
      refine ky_get C (ltK hG) (ceK hG) rfl inWX5 2 (by decide) (wY_in tw_1_162) rfl rfl dX5_town_117 ?_
      refine ky_callVi C (c_X2_truthsOfAll hG F 6 M14 tw6) (ltT hG tw6) (ceT hG tw6) rfl (wY_goodV tw_2_34 tw_2_35 tw_2_36 tw_1_2 tw_2_37) hd_X2_truthsOfAll ⟨rfl, rfl, by decide, by decide⟩ rfl rfl (Nat.le_of_ble_eq_true rfl) dX5_town_120 (fun r15 M16 => ?_)
      exact ky_iret C dX5_town_123
    · refine ky_iconst C (3 : Int32) dX5_town_40 (by decide) ?_
      refine ky_iload_n C dX5_town_41 1 rfl ?_
      refine ky_imul C dX5_town_42 ?_
      refine ky_nmi (fun x17 => ?_)
      refine ky_istore_n (lv' := [(2, .int x17), (0, .ref (gA G 0)), (1, .int xv1)]) C dX5_town_43 (by decide) rfl ?_
      refine ky_aload_n C dX5_town_44 1 rfl ?_
      refine ky_get C (ltK hG) (ceK hG) rfl inWX5 2 (by decide) (wY_in tw_1_162) rfl rfl dX5_town_45 ?_
      refine ky_get C (ltT hG tw6) (ceT hG tw6) rfl inWX2 0 (by decide) (wY_in tw_1_94) rfl rfl dX5_town_48 ?_
      refine ky_iload_n C dX5_town_51 2 rfl ?_
      refine ky_aald C (ltVA hG tw6) (ceVA hG tw6) (tC2 hG) dX5_town_52 (fun hx18 => ?_)
      refine ky_bipush C (8 : Int32) dX5_town_53 (by decide) ?_
      refine ky_aload_n C dX5_town_55 1 rfl ?_
      refine ky_iload_n C dX5_town_56 0 rfl ?_
      refine ky_callVi C (c_X5_digitAt hG F x17 M ) (ltK hG) (ceK hG) rfl (wY_goodV tw_2_30 tw_2_32 tw_p0 tw_1_1 tw_2_33) hd_X5_digitAt ⟨rfl, rfl, by decide, by decide⟩ rfl rfl (Nat.le_of_ble_eq_true rfl) dX5_town_57 (fun r19 M20 => ?_)
      refine ky_imul C dX5_town_60 ?_
      refine ky_aload_n C dX5_town_61 1 rfl ?_
      refine ky_iload_n C dX5_town_62 0 rfl ?_
      refine ky_iconst C (1 : Int32) dX5_town_63 (by decide) ?_
      refine ky_iadd C dX5_town_64 ?_
      refine ky_callVi C (c_X5_digitAt hG F (x17 + (1 : Int32)) M20 ) (ltK hG) (ceK hG) rfl (wY_goodV tw_2_30 tw_2_32 tw_p0 tw_1_1 tw_2_33) hd_X5_digitAt ⟨rfl, rfl, by decide, by decide⟩ rfl rfl (Nat.le_of_ble_eq_true rfl) dX5_town_65 (fun r21 M22 => ?_)
      refine ky_iadd C dX5_town_68 ?_
      refine ky_nmi (fun x23 => ?_)
      refine ky_put C (ltV hG (isVi_of tw6 hx18)) (ceV hG (isVi_of tw6 hx18)) rfl inWX3 tyX3_ok nmX3 0 (by decide) (wY_in tw_1_38) ⟨rfl, rfl⟩ (tyX3_ok 0 (by decide)) rfl rfl (Nat.le_of_ble_eq_true rfl) rfl dX5_town_69 (fun M24 => ?_)
      refine ky_iinc (lv' := fun x25 => [(1, .int x25), (2, .int x17), (0, .ref (gA G 0))]) C dX5_town_72 2 rfl (d1 := (1 : Int32)) rfl (by decide) (fun _ => rfl) (fun x25 => ?_)
      refine ky_goto C 35 dX5_town_75 (by decide) ?_
      exact ky_sub [2, 0] rfl (ih x25 M24 )
def f_X5_town (F : Nat)  (M : Mem) : Option (Int32 × Mem) := bd (f_J0_length_8abf5 F M) (fun r1 M2 => if (M.1 0 1) = r1 then (bd (f_X5_fault F M2) (fun r3 M4 => if r3 = (M4.1 0 1) then (bd (f_X2_clear F 6 M4) (fun r5 M6 => LX5_town_35 F  F (0 : Int32) M6)) else (some ((mI 103), M4)))) else (some ((mI 103), M2)))
set_option maxRecDepth 100000 in
set_option maxHeartbeats 4000000 in
theorem c_X5_town {G : KyG} {cy : Nat → ClassId} (hG : IsC G cy) (F : Nat)   (M : Mem)  : Ct G yX5_town (wY yX5_town cX5_town 3 (some .int)) rmX5_town rI [.ref (gA G 0)] (f_X5_town F  M) M := by
  refine Ct_of cX5_town 3 (some .int) RX5 hG.2.2.2.1 (by decide) rfl rfl (Nat.le_of_ble_eq_true rfl) rfl (fun E C => ?_)
  unfold f_X5_town
  refine ky_aload_n C dX5_town_0 0 rfl ?_
  refine ky_get C (ltK hG) (ceK hG) rfl inWX5 1 (by decide) (wY_in tw_1_161) rfl rfl dX5_town_1 ?_
  refine ky_ldcS C hG dX5_town_4 ?_
  refine ky_callStri C hG (c_J0_length_8abf5 hG F M ) (wY_goodV tw_1_204 tw_1_205 tw_1_206 tw_1_8 tw_1_207) hd_J0_length_8abf5 ⟨rfl, rfl, by decide, by decide⟩ rfl rfl (Nat.le_of_ble_eq_true rfl) dX5_town_6 (fun r1 M2 => ?_)
  refine ky_icmp_ne C 23 dX5_town_9 (by decide) ?_ ?_
  · refine ky_aload_n C dX5_town_12 0 rfl ?_
    refine ky_callVi C (c_X5_fault hG F M2 ) (ltK hG) (ceK hG) rfl (wY_goodV tw_2_17 tw_1_197 tw_1_198 tw_1_1 tw_1_199) hd_X5_fault ⟨rfl, rfl, by decide, by decide⟩ rfl rfl (Nat.le_of_ble_eq_true rfl) dX5_town_13 (fun r3 M4 => ?_)
    refine ky_aload_n C dX5_town_16 0 rfl ?_
    refine ky_get C (ltK hG) (ceK hG) rfl inWX5 1 (by decide) (wY_in tw_1_161) rfl rfl dX5_town_17 ?_
    refine ky_icmp_eq C 26 dX5_town_20 (by decide) ?_ ?_
    · refine ky_aload_n C dX5_town_26 0 rfl ?_
      refine ky_get C (ltK hG) (ceK hG) rfl inWX5 2 (by decide) (wY_in tw_1_162) rfl rfl dX5_town_27 ?_
      refine ky_callVv C (c_X2_clear hG F 6 M4 tw6) (ltT hG tw6) (ceT hG tw6) rfl (wY_goodV tw_2_18 tw_2_19 tw_2_20 tw_1_2 tw_2_21) hd_X2_clear ⟨rfl, rfl, by decide, by decide⟩ rfl rfl (Nat.le_of_ble_eq_true rfl) dX5_town_30 (fun r5 M6 => ?_)
      refine ky_iconst C (0 : Int32) dX5_town_33 (by decide) ?_
      refine ky_istore_n (lv' := [(1, .int (0 : Int32)), (0, .ref (gA G 0))]) C dX5_town_34 (by decide) rfl ?_
      exact ky_sub [1, 0] rfl (lX5_town_35 hG C F   F (0 : Int32) M6 )
    · refine ky_bipush C (mI 103) dX5_town_23 (by decide) ?_
      exact ky_iret C dX5_town_25
  · refine ky_bipush C (mI 103) dX5_town_23 (by decide) ?_
    exact ky_iret C dX5_town_25
def rmX5_trial : Room := { frames := 1, cells := 0, slots := 0, locals := 22 }
theorem hd_X5_trial : yX5_trial.cls = RX5 ∧ yX5_trial.cls ≠ "java/lang/invoke/MethodHandle" ∧ yX5_trial.cls ≠ "java/lang/invoke/VarHandle" ∧ (parseMethodDescriptor yX5_trial.desc).map (fun d => d.parameters.length) = some 3 := ⟨rfl, by decide, by decide, by decide +kernel⟩
def f_X5_trial (F : Nat) (a1 : Int32) (a2 : Int32) (a3 : Int32) (M : Mem) : Option (Int32 × Mem) := bd (f_X5_isVictim F a1 M) (fun r1 M2 => if r1 = 0 then (some ((mI 101), M2)) else (bd (f_X5_isSaying F a2 M2) (fun r3 M4 => if r3 = 0 then (some ((mI 101), M4)) else (if (M4.1 6 5) < (8 : Int32) then (gi a1 3 (bd (f_X3_tried F (6 + 3 + a1.toNatClampNeg) a2 a3 M4) (fun r6 M7 => nm ((M7.1 6 5) + (1 : Int32)) (fun x8 => nm (u2 M7 6 5 x8) (fun M9 => some (M9.1 6 5, M9)))))) else (some ((mI 104), M4))))))
set_option maxRecDepth 100000 in
set_option maxHeartbeats 4000000 in
theorem c_X5_trial {G : KyG} {cy : Nat → ClassId} (hG : IsC G cy) (F : Nat)  (a1 : Int32) (a2 : Int32) (a3 : Int32) (M : Mem)  : Ct G yX5_trial (wY yX5_trial cX5_trial 4 (some .int)) rmX5_trial rI [.ref (gA G 0), .int a1, .int a2, .int a3] (f_X5_trial F a1 a2 a3 M) M := by
  refine Ct_of cX5_trial 4 (some .int) RX5 hG.2.2.2.1 (by decide) rfl rfl (Nat.le_of_ble_eq_true rfl) rfl (fun E C => ?_)
  unfold f_X5_trial
  refine ky_aload_n C dX5_trial_0 0 rfl ?_
  refine ky_iload_n C dX5_trial_1 1 rfl ?_
  refine ky_callVi C (c_X5_isVictim hG F a1 M ) (ltK hG) (ceK hG) rfl (wY_goodV tw_2_48 tw_2_50 tw_p1 tw_1_1 tw_2_51) hd_X5_isVictim ⟨rfl, rfl, by decide, by decide⟩ rfl rfl (Nat.le_of_ble_eq_true rfl) dX5_trial_2 (fun r1 M2 => ?_)
  refine ky_if_eq C 15 dX5_trial_5 (by decide) ?_ ?_
  · refine ky_bipush C (mI 101) dX5_trial_15 (by decide) ?_
    exact ky_iret C dX5_trial_17
  · refine ky_iload_n C dX5_trial_8 2 rfl ?_
    refine ky_callSi C (c_X5_isSaying hG F a2 M2 ) (wY_goodS tw_2_122 tw_2_123 tw_1_1 tw_2_124) hd_X5_isSaying ⟨rfl, rfl, by decide, by decide⟩ rfl rfl (Nat.le_of_ble_eq_true rfl) dX5_trial_9 (fun r3 M4 => ?_)
    refine ky_if_ne C 18 dX5_trial_12 (by decide) ?_ ?_
    · refine ky_bipush C (mI 101) dX5_trial_15 (by decide) ?_
      exact ky_iret C dX5_trial_17
    · refine ky_aload_n C dX5_trial_18 0 rfl ?_
      refine ky_get C (ltK hG) (ceK hG) rfl inWX5 2 (by decide) (wY_in tw_1_162) rfl rfl dX5_trial_19 ?_
      refine ky_get C (ltT hG tw6) (ceT hG tw6) rfl inWX2 5 (by decide) (wY_in tw_1_108) rfl rfl dX5_trial_22 ?_
      refine ky_bipush C (8 : Int32) dX5_trial_25 (by decide) ?_
      refine ky_icmp_lt C 33 dX5_trial_27 (by decide) ?_ ?_
      · refine ky_aload_n C dX5_trial_33 0 rfl ?_
        refine ky_get C (ltK hG) (ceK hG) rfl inWX5 2 (by decide) (wY_in tw_1_162) rfl rfl dX5_trial_34 ?_
        refine ky_get C (ltT hG tw6) (ceT hG tw6) rfl inWX2 0 (by decide) (wY_in tw_1_94) rfl rfl dX5_trial_37 ?_
        refine ky_iload_n C dX5_trial_40 1 rfl ?_
        refine ky_aald C (ltVA hG tw6) (ceVA hG tw6) (tC2 hG) dX5_trial_41 (fun hx5 => ?_)
        refine ky_iload_n C dX5_trial_42 2 rfl ?_
        refine ky_iload_n C dX5_trial_43 3 rfl ?_
        refine ky_callVv C (c_X3_tried hG F (6 + 3 + a1.toNatClampNeg) a2 a3 M4 (isVi_of tw6 hx5)) (ltV hG (isVi_of tw6 hx5)) (ceV hG (isVi_of tw6 hx5)) rfl (wY_goodV tw_2_192 tw_2_193 tw_2_194 tw_1_3 tw_2_195) hd_X3_tried ⟨rfl, rfl, by decide, by decide⟩ rfl rfl (Nat.le_of_ble_eq_true rfl) dX5_trial_44 (fun r6 M7 => ?_)
        refine ky_aload_n C dX5_trial_47 0 rfl ?_
        refine ky_get C (ltK hG) (ceK hG) rfl inWX5 2 (by decide) (wY_in tw_1_162) rfl rfl dX5_trial_48 ?_
        refine ky_dup C dX5_trial_51 rfl ?_
        refine ky_get C (ltT hG tw6) (ceT hG tw6) rfl inWX2 5 (by decide) (wY_in tw_1_108) rfl rfl dX5_trial_52 ?_
        refine ky_iconst C (1 : Int32) dX5_trial_55 (by decide) ?_
        refine ky_iadd C dX5_trial_56 ?_
        refine ky_nmi (fun x8 => ?_)
        refine ky_put C (ltT hG tw6) (ceT hG tw6) rfl inWX2 tyX2_ok nmX2 5 (by decide) (wY_in tw_1_108) ⟨rfl, rfl⟩ (tyX2_ok 5 (by decide)) rfl rfl (Nat.le_of_ble_eq_true rfl) rfl dX5_trial_57 (fun M9 => ?_)
        refine ky_aload_n C dX5_trial_60 0 rfl ?_
        refine ky_get C (ltK hG) (ceK hG) rfl inWX5 2 (by decide) (wY_in tw_1_162) rfl rfl dX5_trial_61 ?_
        refine ky_get C (ltT hG tw6) (ceT hG tw6) rfl inWX2 5 (by decide) (wY_in tw_1_108) rfl rfl dX5_trial_64 ?_
        exact ky_iret C dX5_trial_67
      · refine ky_bipush C (mI 104) dX5_trial_30 (by decide) ?_
        exact ky_iret C dX5_trial_32
def rmX5_weeks : Room := { frames := 4, cells := 0, slots := 0, locals := 92 }
theorem hd_X5_weeks : yX5_weeks.cls = RX5 ∧ yX5_weeks.cls ≠ "java/lang/invoke/MethodHandle" ∧ yX5_weeks.cls ≠ "java/lang/invoke/VarHandle" ∧ (parseMethodDescriptor yX5_weeks.desc).map (fun d => d.parameters.length) = some 3 := ⟨rfl, by decide, by decide, by decide +kernel⟩
def f_X5_weeks (F : Nat) (a1 : Int32) (a2 : Int32) (a3 : Int32) (M : Mem) : Option (Int32 × Mem) := if a1 < (1 : Int32) then (some ((mI 102), M)) else (if (40 : Int32) < a1 then (some ((mI 102), M)) else (if a2 < 0 then (some ((mI 102), M)) else (if a3 < 0 then (some ((mI 102), M)) else (if a3 ≤ (2 : Int32) then (if (M.1 6 2) = 0 then (some ((mI 103), M)) else (bd (f_X4_run F 6 a1 a2 M) (fun r1 M2 => (if a3 = (0 : Int32) then (some (M2.1 2 2, M2)) else (if a3 = (1 : Int32) then (bd (f_X2_paidCount F 26 M2) (fun r5 M6 => some (r5, M6))) else (some (M2.1 2 1, M2))))))) else (some ((mI 102), M))))))
set_option maxRecDepth 100000 in
set_option maxHeartbeats 4000000 in
theorem c_X5_weeks {G : KyG} {cy : Nat → ClassId} (hG : IsC G cy) (F : Nat)  (a1 : Int32) (a2 : Int32) (a3 : Int32) (M : Mem)  : Ct G yX5_weeks (wY yX5_weeks cX5_weeks 4 (some .int)) rmX5_weeks rI [.ref (gA G 0), .int a1, .int a2, .int a3] (f_X5_weeks F a1 a2 a3 M) M := by
  refine Ct_of cX5_weeks 4 (some .int) RX5 hG.2.2.2.1 (by decide) rfl rfl (Nat.le_of_ble_eq_true rfl) rfl (fun E C => ?_)
  unfold f_X5_weeks
  refine ky_iload_n C dX5_weeks_0 1 rfl ?_
  refine ky_iconst C (1 : Int32) dX5_weeks_1 (by decide) ?_
  refine ky_icmp_lt C 24 dX5_weeks_2 (by decide) ?_ ?_
  · refine ky_bipush C (mI 102) dX5_weeks_24 (by decide) ?_
    exact ky_iret C dX5_weeks_26
  · refine ky_iload_n C dX5_weeks_5 1 rfl ?_
    refine ky_bipush C (40 : Int32) dX5_weeks_6 (by decide) ?_
    refine ky_icmp_gt C 24 dX5_weeks_8 (by decide) ?_ ?_
    · refine ky_bipush C (mI 102) dX5_weeks_24 (by decide) ?_
      exact ky_iret C dX5_weeks_26
    · refine ky_iload_n C dX5_weeks_11 2 rfl ?_
      refine ky_if_lt C 24 dX5_weeks_12 (by decide) ?_ ?_
      · refine ky_bipush C (mI 102) dX5_weeks_24 (by decide) ?_
        exact ky_iret C dX5_weeks_26
      · refine ky_iload_n C dX5_weeks_15 3 rfl ?_
        refine ky_if_lt C 24 dX5_weeks_16 (by decide) ?_ ?_
        · refine ky_bipush C (mI 102) dX5_weeks_24 (by decide) ?_
          exact ky_iret C dX5_weeks_26
        · refine ky_iload_n C dX5_weeks_19 3 rfl ?_
          refine ky_iconst C (2 : Int32) dX5_weeks_20 (by decide) ?_
          refine ky_icmp_le C 27 dX5_weeks_21 (by decide) ?_ ?_
          · refine ky_aload_n C dX5_weeks_27 0 rfl ?_
            refine ky_get C (ltK hG) (ceK hG) rfl inWX5 2 (by decide) (wY_in tw_1_162) rfl rfl dX5_weeks_28 ?_
            refine ky_get C (ltT hG tw6) (ceT hG tw6) rfl inWX2 2 (by decide) (wY_in tw_1_102) rfl rfl dX5_weeks_31 ?_
            refine ky_if_ne C 40 dX5_weeks_34 (by decide) ?_ ?_
            · refine ky_bipush C (mI 103) dX5_weeks_37 (by decide) ?_
              exact ky_iret C dX5_weeks_39
            · refine ky_aload_n C dX5_weeks_40 0 rfl ?_
              refine ky_get C (ltK hG) (ceK hG) rfl inWX5 4 (by decide) (wY_in tw_1_164) rfl rfl dX5_weeks_41 ?_
              refine ky_aload_n C dX5_weeks_44 0 rfl ?_
              refine ky_get C (ltK hG) (ceK hG) rfl inWX5 2 (by decide) (wY_in tw_1_162) rfl rfl dX5_weeks_45 ?_
              refine ky_iload_n C dX5_weeks_48 1 rfl ?_
              refine ky_iload_n C dX5_weeks_49 2 rfl ?_
              refine ky_callVv C (c_X4_run hG F 6 a1 a2 M tw6) (ltW hG) (ceW hG) rfl (wY_goodV tw_2_227 tw_2_228 tw_2_229 tw_1_5 tw_2_230) hd_X4_run ⟨rfl, rfl, by decide, by decide⟩ rfl rfl (Nat.le_of_ble_eq_true rfl) dX5_weeks_50 (fun r1 M2 => ?_)
              refine ky_iload_n C dX5_weeks_53 3 rfl ?_
              refine ky_lkIn (off := 26) C (0 : Int32) 80 dX5_weeks_54 (by decide) (by decide) (by decide) ?_ (fun hs3 => ?_)
              · refine ky_aload_n C dX5_weeks_80 0 rfl ?_
                refine ky_get C (ltK hG) (ceK hG) rfl inWX5 4 (by decide) (wY_in tw_1_164) rfl rfl dX5_weeks_81 ?_
                refine ky_get C (ltW hG) (ceW hG) rfl inWX4 2 (by decide) (wY_in tw_1_135) rfl rfl dX5_weeks_84 ?_
                exact ky_iret C dX5_weeks_87
              refine ky_lkIn (off := 34) C (1 : Int32) 88 dX5_weeks_54 (by decide) (by decide) (by decide) ?_ (fun hs4 => ?_)
              · refine ky_aload_n C dX5_weeks_88 0 rfl ?_
                refine ky_get C (ltK hG) (ceK hG) rfl inWX5 4 (by decide) (wY_in tw_1_164) rfl rfl dX5_weeks_89 ?_
                refine ky_get C (ltW hG) (ceW hG) rfl inWX4 0 (by decide) (wY_in tw_1_131) rfl rfl dX5_weeks_92 ?_
                refine ky_callVi C (c_X2_paidCount hG F 26 M2 tw26) (ltT hG tw26) (ceT hG tw26) rfl (wY_goodV tw_3_19 tw_3_20 tw_3_21 tw_1_2 tw_3_22) hd_X2_paidCount ⟨rfl, rfl, by decide, by decide⟩ rfl rfl (Nat.le_of_ble_eq_true rfl) dX5_weeks_95 (fun r5 M6 => ?_)
                exact ky_iret C dX5_weeks_98
              refine ky_lkOut C 99 dX5_weeks_54 (by decide) ((lv_osw hs3 (by decide)).trans <| (lv_osw hs4 (by decide)).trans <|  rfl) (by decide) ?_
              refine ky_aload_n C dX5_weeks_99 0 rfl ?_
              refine ky_get C (ltK hG) (ceK hG) rfl inWX5 4 (by decide) (wY_in tw_1_164) rfl rfl dX5_weeks_100 ?_
              refine ky_get C (ltW hG) (ceW hG) rfl inWX4 1 (by decide) (wY_in tw_1_133) rfl rfl dX5_weeks_103 ?_
              exact ky_iret C dX5_weeks_106
          · refine ky_bipush C (mI 102) dX5_weeks_24 (by decide) ?_
            exact ky_iret C dX5_weeks_26
