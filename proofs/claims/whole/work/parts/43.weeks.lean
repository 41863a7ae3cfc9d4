/-! WEEKS -/
def nxS (sd : Int32) : Int32 := (((((1103515245 : Int64) * (sd.toInt64)) + (12345 : Int64)) &&& (2147483647 : Int64)).toInt32)
theorem mask31 (z : Int64) : ∃ m, m < 2 ^ 31 ∧ z &&& (2147483647 : Int64) = lN m := by
  refine ⟨z.toBitVec.toNat % 2 ^ 31, Nat.mod_lt _ (by decide), ?_⟩
  apply Int64.toBitVec_inj.mp
  apply BitVec.eq_of_toNat_eq
  have hb : (lN (z.toBitVec.toNat % 2 ^ 31)).toBitVec.toNat = z.toBitVec.toNat % 2 ^ 31 := Nat.mod_eq_of_lt (Nat.lt_trans (Nat.mod_lt _ (by decide)) (by decide))
  rw [Int64.toBitVec_and, BitVec.toNat_and, show (2147483647 : Int64).toBitVec.toNat = 2 ^ 31 - 1 from by decide, Nat.and_two_pow_sub_one_eq_mod, hb]
theorem nxS_nI (sd : Int32) : ∃ y, y < 2 ^ 31 ∧ nxS sd = nI y := by
  obtain ⟨m, hm, e⟩ := mask31 (((1103515245 : Int64) * (sd.toInt64)) + (12345 : Int64))
  exact ⟨m, hm, by unfold nxS; rw [e, lN_i]⟩
theorem draw6 (sd : Int32) : ∃ k, k < 6 ∧ (nxS sd / (65536 : Int32)) - (nxS sd / (65536 : Int32)) / (6 : Int32) * (6 : Int32) = nI k := by
  obtain ⟨y, hy, e⟩ := nxS_nI sd
  refine ⟨y / 65536 % 6, Nat.mod_lt _ (by decide), ?_⟩
  have h1 : nI y / (65536 : Int32) = nI (y / 65536) := pk_div hy (by decide) (by decide)
  rw [e, h1]
  exact pk_rem (Nat.lt_of_le_of_lt (Nat.div_le_self _ _) hy) (by decide) (by decide)
/-- two towns that differ in what each may say today, in the day and in the trials alone -/
def Eqm (T U : TA) : Prop := T.1 0 = U.1 0 ∧ T.1 1 = U.1 1 ∧ (∀ v j, j < 2 → T.2.1 v j = U.2.1 v j) ∧ ∀ c j, j ≠ 4 → T.2.2 c j = U.2.2 c j
section WK
variable {B : Nat} {M N : Mem} {T U : TA} {F : Nat}
theorem Eqm_hearB (h : Eqm T U) (c k : Nat) : hearB T c k = hearB U c k := by
  unfold hearB
  rw [h.2.2.2 c 1 (by omega), h.2.2.2 c 0 (by omega), h.2.2.1 _ 1 (by omega), h.2.2.1 _ 0 (by omega), h.2.1]
theorem Eqm_sC4 (h : Eqm T U) {c x y : Nat} : Eqm (sC T c 4 x) (sC U c 4 y) := by
  refine ⟨h.1, h.2.1, h.2.2.1, fun c' j hj => ?_⟩
  show (if c' = c ∧ j = 4 then x else T.2.2 c' j) = (if c' = c ∧ j = 4 then y else U.2.2 c' j)
  rw [if_neg (fun q => hj q.2), if_neg (fun q => hj q.2)]
  exact h.2.2.2 c' j hj
theorem Eqm_cnt (h : Eqm T U) (c k : Nat) : Eqm (cntN T c k) (cntN U c k) := by
  have e1 := h.2.2.2 c 1 (by omega)
  have e0 := h.2.2.2 c 0 (by omega)
  have e2 := h.2.2.2 c 2 (by omega)
  have e5 := h.2.2.2 c 5 (by omega)
  unfold cntN
  rw [e1, e0, e2, e5, h.2.2.1 _ 1 (by omega)]
  refine ⟨h.1, h.2.1, fun v j hj => ?_, fun c' j hj => ?_⟩
  · show (if v = U.2.2 c 1 ∧ j = 1 then _ else T.2.1 v j) = (if v = U.2.2 c 1 ∧ j = 1 then _ else U.2.1 v j)
    rw [h.2.2.1 v j hj]
  · show (if c' = c ∧ j = 2 then _ else if c' = c ∧ j = 5 then _ else T.2.2 c' j) = (if c' = c ∧ j = 2 then _ else if c' = c ∧ j = 5 then _ else U.2.2 c' j)
    rw [h.2.2.2 c' j hj]
theorem Eqm_hear (h : Eqm T U) (c k : Nat) : Eqm (hearT T c k) (hearT U c k) := by
  unfold hearT
  rw [Eqm_hearB h, h.2.2.2 c 1 (by omega), h.2.2.1 _ 0 (by omega), h.2.1]
  split
  · split
    · exact Eqm_cnt h c k
    · refine Eqm_cnt (T := sS T 1 (U.1 1 - 1)) (U := sS U 1 (U.1 1 - 1)) ⟨h.1, ?_, h.2.2.1, h.2.2.2⟩ c k
      rfl
  · exact h
theorem hearT_may (T : TA) (c k c' : Nat) : (hearT T c k).2.2 c' 4 = T.2.2 c' 4 := by
  unfold hearT
  split
  · have : ∀ X : TA, (cntN X c k).2.2 c' 4 = X.2.2 c' 4 := fun X => by
      unfold cntN
      show (if c' = c ∧ 4 = 2 then _ else if c' = c ∧ 4 = 5 then _ else X.2.2 c' 4) = _
      rw [if_neg (fun q => by omega), if_neg (fun q => by omega)]
    rw [this]
    split <;> rfl
  · rfl
theorem hearT_cc (T : TA) (c k : Nat) : (hearT T c k).1 0 = T.1 0 := by
  unfold hearT
  split
  · split
    · rfl
    · show (if 0 = 1 then T.1 1 - 1 else T.1 0) = _
      rw [if_neg (by omega)]
  · rfl
/-- the reference's days change rows, used, sheets and the seed alone -/
def frW (N N' : Mem) : Prop := (∀ i, i ≠ 0 → i ≠ 3 → i ≠ 4 → N'.1 i = N.1 i) ∧ (∀ j, j ≠ 3 → j ≠ 15 → N'.1 0 j = N.1 0 j) ∧ N'.2 = N.2
theorem frW_rf : frW N N := ⟨fun _ _ _ _ => rfl, fun _ _ _ => rfl, rfl⟩
theorem frW.tr {N1 N2 : Mem} (h1 : frW N N1) (h2 : frW N1 N2) : frW N N2 := ⟨fun i a b c => (h2.1 i a b c).trans (h1.1 i a b c), fun j a b => (h2.2.1 j a b).trans (h1.2.1 j a b), h2.2.2.trans h1.2.2⟩
theorem frW_S {N' : Mem} (h : frS N N') : frW N N' := ⟨h.1, fun j a _ => h.2.1 j a, h.2.2⟩
theorem frW_15 {x : Int32} : frW N (u2 N 0 15 x) := ⟨fun i a _ _ => u2_ne a, fun j _ a => by rw [u2_at, if_neg (fun q => a q.2)], rfl⟩
theorem RT_15 (h : RT N T) {x : Int32} : RT (u2 N 0 15 x) T := RTg_of h (by rw [u2_at, if_neg (fun q => by omega)]) (by rw [u2_at, if_neg (fun q => by omega)]) (by rw [u2_at, if_neg (fun q => by omega)]) (by rw [u2_at, if_neg (fun q => by omega)]) (u2_ne (by omega)) (u2_ne (by omega)) (u2_ne (by omega)) (u2_ne (by omega))
theorem eC_draw {sd : Int32} (h : M.1 2 1 = sd) : f_X4_draw F M = some ((nxS sd / (65536 : Int32)) - (nxS sd / (65536 : Int32)) / (6 : Int32) * (6 : Int32), u2 M 2 1 (nxS sd)) := by
  unfold f_X4_draw
  rw [nm_eq, nm_eq, h, u2_at, if_pos ⟨rfl, rfl⟩]
  rfl
theorem eR_draw {sd : Int32} (h : N.1 0 15 = sd) : f_X6_draw F (6 : Int32) N = some ((nxS sd / (65536 : Int32)) - (nxS sd / (65536 : Int32)) / (6 : Int32) * (6 : Int32), u2 N 0 15 (nxS sd)) := by
  unfold f_X6_draw
  rw [nm_eq, nm_eq, if_neg (by decide), h, u2_at, if_pos ⟨rfl, rfl⟩]
  rfl
/-- one convict's talk, and the same of the reference -/
theorem l_talk {c : Nat} (hc : c < 4) : ∀ m nC nR B M N T U sd cn x, m < nC → m < nR → B + m ≤ 1000 → CT M 26 T → RT N U → Wf B T → Wf B U → Eqm T U → U.2.2 c 4 = m → m ≤ T.2.2 c 4 → M.1 2 1 = sd → N.1 0 15 = sd → M.1 2 2 = nI cn → ∃ M' N' T' U' sd' e, LX4_talk_5 F nC (26 + 6 + c) (nI m) M = some ((), M') ∧ LX6_dayOf_2 F nR (nI c) (nI x) N = some (nI (x + e), N') ∧ CT M' 26 T' ∧ RT N' U' ∧ Wf (B + m) T' ∧ Wf (B + m) U' ∧ Eqm T' U' ∧ (∀ c', c' ≠ c → T'.2.2 c' 4 = T.2.2 c' 4 ∧ U'.2.2 c' 4 = U.2.2 c' 4) ∧ M'.1 2 1 = sd' ∧ N'.1 0 15 = sd' ∧ M'.1 2 2 = nI (cn + e) ∧ (∀ i, i < 26 → i ≠ 2 → M'.1 i = M.1 i) ∧ frW N N' ∧ T'.1 0 = T.1 0 := by
  intro m
  induction m with
  | zero =>
    intro nC nR B M N T U sd cn x hnC hnR hB hT hU WT WU E hm hm2 s1 s2 k1
    obtain ⟨nC, rfl⟩ : ∃ k, nC = k + 1 := ⟨nC - 1, by omega⟩
    obtain ⟨nR, rfl⟩ : ∃ k, nR = k + 1 := ⟨nR - 1, by omega⟩
    have hr := hU.2.2.2.2.2.2.1 c hc
    refine ⟨M, N, T, U, sd, 0, ?_, ?_, hT, hU, WT, WU, E, fun _ _ => ⟨rfl, rfl⟩, s1, s2, k1, fun _ _ _ => rfl, frW_rf, rfl⟩
    · rw [LX4_talk_5_s, if_pos (by decide)]
    · rw [LX6_dayOf_2_s, ix6_2 hc, ix6_4 hc, gi6 hc (by omega), gi6 hc (by omega), cl6 hc (by omega), cl6 hc (by omega), hr 2 (by omega), hr 4 (by omega), hm]
      split
      · rfl
      · rw [if_pos (by decide)]; rfl
  | succ m ih =>
    intro nC nR B M N T U sd cn x hnC hnR hB hT hU WT WU E hm hm2 s1 s2 k1
    obtain ⟨nC, rfl⟩ : ∃ k, nC = k + 1 := ⟨nC - 1, by omega⟩
    obtain ⟨nR, rfl⟩ : ∃ k, nR = k + 1 := ⟨nR - 1, by omega⟩
    have hr := hU.2.2.2.2.2.2.1 c hc
    have e2 : T.2.2 c 2 = U.2.2 c 2 := E.2.2.2 c 2 (by omega)
    have e3 : T.2.2 c 3 = U.2.2 c 3 := E.2.2.2 c 3 (by omega)
    obtain ⟨w0, w1, w2, w3, w4, w5⟩ := WU.2.2.2.2.2 c hc
    rw [LX4_talk_5_s, if_neg (nI_nle (by omega) (by omega)), bd_of (eC_paid hT WT hc), LX6_dayOf_2_s, ix6_2 hc, ix6_4 hc, gi6 hc (by omega), cl6 hc (by omega), hr 2 (by omega), e2]
    by_cases p : U.2.2 c 2 = 0
    · rw [if_pos p, if_neg (by decide), p, if_pos (by decide)]
      exact ⟨M, N, T, U, sd, 0, rfl, rfl, hT, hU, Wf_up WT (by omega), Wf_up WU (by omega), E, fun _ _ => ⟨rfl, rfl⟩, s1, s2, k1, fun _ _ _ => rfl, frW_rf, rfl⟩
    · obtain ⟨k, hk, ek⟩ := draw6 sd
      have c1 : CT (u2 M 2 1 (nxS sd)) 26 T := CT_of hT (fun i a b => u2_ne (by omega))
      have r1 : RT (u2 N 0 15 (nxS sd)) U := RT_15 hU
      have r2 := RT_row r1 (i := 4) hc (by omega) m
      have WU2 : Wf B (sC U c 4 m) := Wf_sC WU (by omega)
      rw [if_neg p, if_pos rfl, if_neg (nI_nle (by omega) (by omega)), bd_of (eC_draw s1), gi6 hc (by omega), cl6 hc (by omega), hr 4 (by omega), hm, if_neg (nI_nle (by omega) (by omega)), bd_of (eR_draw s2), ek, bd_of (eC_knows c1 WT hc hk), gi6 hc (by omega), nm_eq, nm_eq, r1.2.2.2.2.2.2.1 c hc 4 (by omega), hm, i1, pk_sub (by omega), show m + 1 - 1 = m from rfl, gi6 hc (by omega), nm_eq, bd_of (eR_knows r2 WU2 hc hk), show (sC U c 4 m).2.2 c 3 = U.2.2 c 3 from if_neg (fun q => by omega), e3]
      have mm : nI (m + 1) + mI 1 = nI m := pk_m1 m
      have s1' : (u2 M 2 1 (nxS sd)).1 2 1 = nxS sd := by rw [u2_at, if_pos ⟨rfl, rfl⟩]
      have s2' : (u2 (u2 N 0 15 (nxS sd)) 4 (6 * c + 4) (nI m)).1 0 15 = nxS sd := by rw [u2_ne (by omega), u2_at, if_pos ⟨rfl, rfl⟩]
      have k1' : (u2 M 2 1 (nxS sd)).1 2 2 = nI cn := by rw [u2_at, if_neg (fun q => by omega)]; exact k1
      cases kn : (U.2.2 c 3).testBit k with
      | false =>
        rw [if_pos (by decide), if_pos (by decide), nm_eq, mm, Int32.add_zero]
        have E2 : Eqm T (sC U c 4 m) := by
          refine ⟨E.1, E.2.1, E.2.2.1, fun c' j hj => ?_⟩
          rw [show (sC U c 4 m).2.2 c' j = U.2.2 c' j from if_neg (fun q => hj q.2)]
          exact E.2.2.2 c' j hj
        obtain ⟨M', N', T', U', sd', e, q1, q2, q3, q4, q5, q6, q7, q8, q9, q10, q11, q12, q13, q14⟩ := ih nC nR B _ _ T _ (nxS sd) cn x (by omega) (by omega) (by omega) c1 r2 WT WU2 E2 (if_pos ⟨rfl, rfl⟩) (by omega) s1' s2' k1'
        refine ⟨M', N', T', U', sd', e, q1, q2, q3, q4, Wf_up q5 (by omega), Wf_up q6 (by omega), q7, fun c' hc' => ⟨(q8 c' hc').1, (q8 c' hc').2.trans (if_neg (fun q => hc' q.1))⟩, q9, q10, q11, fun i a b => by rw [q12 i a b, u2_ne b], (frW_15.tr (frW_S frS_4)).tr q13, q14⟩
      | true =>
        obtain ⟨M1, m1, m2, m3⟩ := eC_hear (F := F) (show B ≤ 1000 by omega) c1 WT hc hk (by omega) (by omega)
        obtain ⟨N1, n1, n2, n3⟩ := eR_says (F := F) (show B ≤ 1000 by omega) r2 WU2 hc hk (by rw [show (sC U c 4 m).2.2 c 2 = U.2.2 c 2 from if_neg (fun q => by omega)]; omega)
        have E1 : Eqm (sC T c 4 (T.2.2 c 4 - 1)) (sC U c 4 m) := Eqm_sC4 E
        have eb : hearB (sC U c 4 m) c k = hearB T c k := by
          rw [← Eqm_hearB E1]
          unfold hearB
          rw [show (sC T c 4 (T.2.2 c 4 - 1)).2.2 c 1 = T.2.2 c 1 from if_neg (fun q => by omega), show (sC T c 4 (T.2.2 c 4 - 1)).2.2 c 0 = T.2.2 c 0 from if_neg (fun q => by omega)]; rfl
        rw [if_neg (by decide), if_neg (by decide), bd_of m1, bd_of n1, eb]
        have WT1 : Wf (B + 1) (hearT (sC T c 4 (T.2.2 c 4 - 1)) c k) := Wf_hear (Wf_sC WT (by have := (WT.2.2.2.2.2 c hc).2.2.2.2.1; omega)) hc hk
        have WU1 : Wf (B + 1) (hearT (sC U c 4 m) c k) := Wf_hear WU2 hc hk
        have s2'' : N1.1 0 15 = nxS sd := by rw [n3.2.1 15 (by omega)]; exact s2'
        have mT : (hearT (sC T c 4 (T.2.2 c 4 - 1)) c k).2.2 c 4 = T.2.2 c 4 - 1 := by rw [hearT_may]; exact if_pos ⟨rfl, rfl⟩
        have mU : (hearT (sC U c 4 m) c k).2.2 c 4 = m := by rw [hearT_may]; exact if_pos ⟨rfl, rfl⟩
        have oth : ∀ c', c' ≠ c → (hearT (sC T c 4 (T.2.2 c 4 - 1)) c k).2.2 c' 4 = T.2.2 c' 4 ∧ (hearT (sC U c 4 m) c k).2.2 c' 4 = U.2.2 c' 4 := fun c' hc' => ⟨by rw [hearT_may]; exact if_neg (fun q => hc' q.1), by rw [hearT_may]; exact if_neg (fun q => hc' q.1)⟩
        have ct0 : (hearT (sC T c 4 (T.2.2 c 4 - 1)) c k).1 0 = T.1 0 := hearT_cc _ _ _
        cases hb : hearB T c k with
        | false =>
          rw [if_pos (by decide), nm_eq, nm_eq, mm, show nI x + nI false.toNat = nI x from Int32.add_zero _]
          obtain ⟨M', N', T', U', sd', e, q1, q2, q3, q4, q5, q6, q7, q8, q9, q10, q11, q12, q13, q14⟩ := ih nC nR (B + 1) _ _ _ _ (nxS sd) cn x (by omega) (by omega) (by omega) m2 n2 WT1 WU1 (Eqm_hear E1 c k) mU (by rw [mT]; omega) (by rw [m3 2 (by omega)]; exact s1') s2'' (by rw [m3 2 (by omega)]; exact k1')
          refine ⟨M', N', T', U', sd', e, q1, q2, q3, q4, Wf_up q5 (by omega), Wf_up q6 (by omega), q7, fun c' hc' => ⟨(q8 c' hc').1.trans (oth c' hc').1, (q8 c' hc').2.trans (oth c' hc').2⟩, q9, q10, q11, fun i a b => by rw [q12 i a b, m3 i (by omega), u2_ne b], ((frW_15.tr (frW_S frS_4)).tr (frW_S n3)).tr q13, q14.trans ct0⟩
        | true =>
          rw [if_neg (by decide), nm_eq, nm_eq, nm_eq, nm_eq, mm, m3 2 (by omega), k1', nI_add, show nI x + nI true.toNat = nI (x + 1) from nI_add x 1]
          obtain ⟨M', N', T', U', sd', e, q1, q2, q3, q4, q5, q6, q7, q8, q9, q10, q11, q12, q13, q14⟩ := ih nC nR (B + 1) (u2 M1 2 2 (nI (cn + 1))) _ _ _ (nxS sd) (cn + 1) (x + 1) (by omega) (by omega) (by omega) (CT_of m2 (fun i a b => u2_ne (by omega))) n2 WT1 WU1 (Eqm_hear E1 c k) mU (by rw [mT]; omega) (by rw [u2_at, if_neg (fun q => by omega), m3 2 (by omega)]; exact s1') s2'' (by rw [u2_at, if_pos ⟨rfl, rfl⟩])
          refine ⟨M', N', T', U', sd', e + 1, q1, by rw [q2, show x + 1 + e = x + (e + 1) by omega], q3, q4, Wf_up q5 (by omega), Wf_up q6 (by omega), q7, fun c' hc' => ⟨(q8 c' hc').1.trans (oth c' hc').1, (q8 c' hc').2.trans (oth c' hc').2⟩, q9, q10, by rw [q11, show cn + 1 + e = cn + (e + 1) by omega], fun i a b => by rw [q12 i a b, u2_ne b, m3 i (by omega), u2_ne b], ((frW_15.tr (frW_S frS_4)).tr (frW_S n3)).tr q13, q14.trans ct0⟩
/-- a day: all convicts from c on -/
theorem l_day (hF : 100 ≤ F) (q : Int32 → Int32 → Mem → Option (Unit × Mem)) (q' : Int32 → Int32 → Int32 → Int32 → Int32 → Mem → Option (Int32 × Mem)) (dy d3 d4 d6 e1 : Int32) : ∀ d c nC nR B M N T U sd cn, c + d = T.1 0 → d < nC → d < nR → B + 3 * d ≤ 1000 → CT M 26 T → RT N U → Wf B T → Wf B U → Eqm T U → (∀ c', c ≤ c' → c' < T.1 0 → T.2.2 c' 4 = U.2.2 c' 4) → M.1 2 1 = sd → N.1 0 15 = sd → M.1 2 2 = nI cn → ∃ M' N' T' U' sd' cn', LX4_run_30 F q nC dy e1 (nI c) M = q dy e1 M' ∧ LX6_weeks_89 F q' nR dy d3 d4 (nI cn) d6 (nI c) N = q' dy d3 d4 (nI cn') d6 N' ∧ CT M' 26 T' ∧ RT N' U' ∧ Wf (B + 3 * d) T' ∧ Wf (B + 3 * d) U' ∧ Eqm T' U' ∧ M'.1 2 1 = sd' ∧ N'.1 0 15 = sd' ∧ M'.1 2 2 = nI cn' ∧ (∀ i, i < 26 → i ≠ 2 → M'.1 i = M.1 i) ∧ frW N N' ∧ T'.1 0 = T.1 0 := by
  intro d
  induction d with
  | zero =>
    intro c nC nR B M N T U sd cn h hnC hnR hB hT hU WT WU E fr s1 s2 k1
    obtain ⟨nC, rfl⟩ : ∃ k, nC = k + 1 := ⟨nC - 1, by omega⟩
    obtain ⟨nR, rfl⟩ : ∃ k, nR = k + 1 := ⟨nR - 1, by omega⟩
    have h4 := WT.1
    refine ⟨M, N, T, U, sd, cn, ?_, ?_, hT, hU, WT, WU, E, s1, s2, k1, fun _ _ _ => rfl, frW_rf, rfl⟩
    · rw [LX4_run_30_s, CT_cc hT, if_pos (nI_le (by omega) (by omega))]
    · rw [LX6_weeks_89_s, hU.1, ← E.1, if_pos (nI_le (by omega) (by omega))]
  | succ d ih =>
    intro c nC nR B M N T U sd cn h hnC hnR hB hT hU WT WU E fr s1 s2 k1
    obtain ⟨nC, rfl⟩ : ∃ k, nC = k + 1 := ⟨nC - 1, by omega⟩
    obtain ⟨nR, rfl⟩ : ∃ k, nR = k + 1 := ⟨nR - 1, by omega⟩
    have h4 := WT.1
    have hc : c < 4 := by omega
    have w4 := (WU.2.2.2.2.2 c hc).2.2.2.2.1
    have e4 := fr c (Nat.le_refl c) (by omega)
    obtain ⟨M1, N1, T1, U1, sd1, e, q1, q2, q3, q4, q5, q6, q7, q8, q9, q10, q11, q12, q13, q14⟩ := l_talk (F := F) hc (U.2.2 c 4) F F B M N T U sd cn 0 (by omega) (by omega) (by omega) hT hU WT WU E rfl (by omega) s1 s2 k1
    obtain ⟨M', N', T', U', sd', cn', p1, p2, p3, p4, p5, p6, p7, p8, p9, p10, p11, p12, p13⟩ := ih (c + 1) nC nR (B + 3) M1 N1 T1 U1 sd1 (cn + e) (by rw [q14]; omega) (by omega) (by omega) (by omega) q3 q4 (Wf_up q5 (by omega)) (Wf_up q6 (by omega)) q7 (fun c' a b => by rw [(q8 c' (by omega)).1, (q8 c' (by omega)).2]; exact fr c' (by omega) (by rw [← q14]; exact b)) q9 q10 q11
    refine ⟨M', N', T', U', sd', cn', ?_, ?_, p3, p4, Wf_up p5 (by omega), Wf_up p6 (by omega), p7, p8, p9, p10, fun i a b => (p11 i a b).trans (q12 i a b), q13.tr p12, p13.trans q14⟩
    · rw [LX4_run_30_s, CT_cc hT, if_neg (nI_ge (by omega) (by omega)), gi_nI hc (by omega), nI_clamp (by omega)]
      unfold f_X4_talk
      rw [nm_eq, hT.2.2 c hc 4 (by omega), e4, bd_of q1, nm_eq, nI_1]
      exact p1
    · rw [LX6_weeks_89_s, hU.1, ← E.1, if_neg (nI_ge (by omega) (by omega))]
      unfold f_X6_dayOf
      rw [i0, bd_of q2, nm_eq, nm_eq, Nat.zero_add, nI_add, nI_1]
      exact p2
theorem Eqm_next {x : Nat} (h : Eqm T U) : Eqm (mayT (sS T 2 x) (T.1 0)) (mayT U (U.1 0)) ∧ (∀ c, c < T.1 0 → (mayT (sS T 2 x) (T.1 0)).2.2 c 4 = (mayT U (U.1 0)).2.2 c 4) := by
  refine ⟨⟨h.1, h.2.1, h.2.2.1, fun c j hj => ?_⟩, fun c hc => ?_⟩
  · show (if c < T.1 0 ∧ j = 4 then _ else T.2.2 c j) = (if c < U.1 0 ∧ j = 4 then _ else U.2.2 c j)
    rw [if_neg (fun q => hj q.2), if_neg (fun q => hj q.2)]
    exact h.2.2.2 c j hj
  · show (if c < T.1 0 ∧ 4 = 4 then adN (T.2.2 c 0) else T.2.2 c 4) = (if c < U.1 0 ∧ 4 = 4 then adN (U.2.2 c 0) else U.2.2 c 4)
    rw [if_pos ⟨hc, rfl⟩, if_pos ⟨by rw [← h.1]; exact hc, rfl⟩, h.2.2.2 c 0 (by omega)]
/-- what the reference does behind its days -/
def tailW (F : Nat) (a3 sv x : Int32) (N : Mem) : Option (Int32 × Mem) := bd (f_X6_paidMany F N) (fun r11 M12 => bd (f_X6_copy F 9 4 M12) (fun _ M14 => bd (f_X6_copy F 10 3 M14) (fun _ M16 => nm (u2 M16 0 3 sv) (fun M17 => if a3 = 0 then (some (x, M17)) else (if a3 = (1 : Int32) then (some (r11, M17)) else (some (M17.1 0 15, M17)))))))
theorem l_weeks (hF : 100 ≤ F) {dys : Nat} (hd : dys ≤ 40) (a3 sv : Int32) : ∀ d k nC nR B M N T U sd cn, k + d = dys → d < nC → d < nR → B + 13 * d ≤ 1000 → CT M 26 T → RT N U → Wf B T → Wf B U → Eqm T U → (∀ c', c' < T.1 0 → T.2.2 c' 4 = U.2.2 c' 4) → M.1 2 1 = sd → N.1 0 15 = sd → M.1 2 2 = nI cn → ∃ M' N' T' U' sd' cn' B', LX4_run_21 F nC (nI dys) (nI k) M = some ((), M') ∧ LX6_weeks_80 F nR (nI dys) a3 sv (nI cn) (nI k) N = tailW F a3 sv (nI cn') N' ∧ CT M' 26 T' ∧ RT N' U' ∧ Wf B' T' ∧ Wf B' U' ∧ Eqm T' U' ∧ M'.1 2 1 = sd' ∧ N'.1 0 15 = sd' ∧ M'.1 2 2 = nI cn' ∧ (∀ i, i < 26 → i ≠ 2 → M'.1 i = M.1 i) ∧ frW N N' ∧ T'.1 0 = T.1 0 := by
  intro d
  induction d with
  | zero =>
    intro k nC nR B M N T U sd cn h hnC hnR hB hT hU WT WU E fr s1 s2 k1
    obtain ⟨nC, rfl⟩ : ∃ k, nC = k + 1 := ⟨nC - 1, by omega⟩
    obtain ⟨nR, rfl⟩ : ∃ k, nR = k + 1 := ⟨nR - 1, by omega⟩
    refine ⟨M, N, T, U, sd, cn, B, ?_, ?_, hT, hU, WT, WU, E, s1, s2, k1, fun _ _ _ => rfl, frW_rf, rfl⟩
    · rw [LX4_run_21_s, if_pos (nI_le (by omega) (by omega))]
    · rw [LX6_weeks_80_s, if_pos (nI_le (by omega) (by omega))]; rfl
  | succ d ih =>
    intro k nC nR B M N T U sd cn h hnC hnR hB hT hU WT WU E fr s1 s2 k1
    obtain ⟨nC, rfl⟩ : ∃ k, nC = k + 1 := ⟨nC - 1, by omega⟩
    obtain ⟨nR, rfl⟩ : ∃ k, nR = k + 1 := ⟨nR - 1, by omega⟩
    have h4 := WT.1
    rw [LX4_run_21_s, if_neg (nI_ge (by omega) (by omega)), LX6_weeks_80_s, if_neg (nI_ge (by omega) (by omega)), i0]
    obtain ⟨M1, N1, T1, U1, sd1, cn1, q1, q2, q3, q4, q5, q6, q7, q8, q9, q10, q11, q12, q13⟩ := l_day (F := F) hF (fun y10 y11 M9 => bd (f_X2_beginNextDay F 26 M9) (fun r12 M13 => nm (y11 + (1 : Int32)) (fun x14 => LX4_run_21 F nC y10 x14 M13))) (fun y23 y24 y25 y26 y27 M22 => bd (f_X6_sleep F M22) (fun r28 M29 => nm (y27 + (1 : Int32)) (fun x30 => LX6_weeks_80 F nR y23 y24 y25 y26 x30 M29))) (nI dys) a3 sv (nI k) (nI k) (T.1 0) 0 F F B M N T U sd cn (by omega) (by omega) (by omega) (by omega) hT hU WT WU E (fun c' _ b => fr c' b) s1 s2 k1
    obtain ⟨M2, m1, m2, m3⟩ := eC_next (F := F) hF q3 (Wf_up q5 (show B + 3 * T.1 0 ≤ B + 12 by omega))
    obtain ⟨N2, n1, n2, n3, n4⟩ := eR_sleep (F := F) hF q4 (Wf_up q6 (show B + 3 * T.1 0 ≤ B + 12 by omega))
    have W5 := Wf_up q5 (show B + 3 * T.1 0 ≤ B + 13 by omega)
    have W6 := Wf_up q6 (show B + 3 * T.1 0 ≤ B + 13 by omega)
    have nx := Eqm_next (x := T1.1 2 + 1) q7
    have WT2 : Wf (B + 13) (mayT (sS T1 2 (T1.1 2 + 1)) (T1.1 0)) := Wf_may (Wf_sS W5 ⟨by omega, by omega, fun _ => by have := q5.2.2.1; omega, by omega⟩) _
    have WU2 : Wf (B + 13) (mayT U1 (U1.1 0)) := Wf_may W6 _
    have fr2 : frW N1 N2 := ⟨fun i a b c => n3 i c, fun j a b => by rw [n3 0 (by omega)], n4⟩
    obtain ⟨M', N', T', U', sd', cn', B', p1, p2, p3, p4, p5, p6, p7, p8, p9, p10, p11, p12, p13⟩ := ih (k + 1) nC nR (B + 13) M2 N2 _ _ sd1 cn1 (by omega) (by omega) (by omega) (by omega) m2 n2 WT2 WU2 nx.1 nx.2 (by rw [m3 2 (by omega)]; exact q8) (by rw [n3 0 (by omega)]; exact q9) (by rw [m3 2 (by omega)]; exact q10)
    refine ⟨M', N', T', U', sd', cn', B', ?_, ?_, p3, p4, p5, p6, p7, p8, p9, p10, fun i a b => (p11 i a b).trans ((m3 i (by omega)).trans (q11 i a b)), (q12.tr fr2).tr p12, p13.trans q13⟩
    · refine q1.trans ?_
      rw [bd_of m1, nm_eq, nI_1]
      exact p1
    · refine q2.trans ?_
      rw [bd_of n1, nm_eq, nI_1]
      exact p2
theorem pd_Eqm (h : Eqm T U) : sm (pdN T) (T.1 0) = sm (pdN U) (U.1 0) := by
  rw [h.1]
  exact sm_congr _ (fun i _ => by unfold pdN; rw [h.2.2.2 i 2 (by omega)])
theorem sp_weeks (hF : 100 ≤ F) (hB : B ≤ 400) (a1 a2 a3 : Int32) : Sp B (f_X5_weeks F a1 a2 a3) (f_X6_weeks F a1 a2 a3) := by
  intro M N h
  have h' := h
  obtain ⟨n, ht, hi, tn, pg, T, K, hx⟩ := h
  have hx' := hx
  obtain ⟨h1, h2, h3, h4, h5, h6, h7, h8, h9⟩ := hx
  have w4 := h7.1
  unfold f_X5_weeks f_X6_weeks
  rw [bd_of (e_in F a1 1 40 1 40 N (by decide) (by decide)), bd_of (e_inL F a3 3 2 N (by decide))]
  by_cases c1 : inR a1 1 40
  · obtain ⟨dy, l1, u1, rfl⟩ := inR_nI c1 (by omega)
    rw [if_pos c1, if_neg (show ¬ (1 : Int32) = 0 by decide), if_neg (show ¬ nI dy < 1 from nI_nlt l1 (by omega)), if_neg (show ¬ 40 < nI dy from nI_nlt (a := 40) u1 (by omega))]
    by_cases c2 : a2 < 0
    · rw [if_pos c2, if_pos c2]; exact ⟨_, M, N, rfl, rfl, Rel_up h'⟩
    rw [if_neg c2, if_neg c2]
    by_cases c3 : inL a3 3
    · obtain ⟨k, hk, rfl⟩ := inL_nI c3 (by omega)
      rw [if_pos c3, if_neg (show ¬ (1 : Int32) = 0 by decide), if_neg (show ¬ nI k < 0 from nI_pos (by omega)), if_pos (show nI k ≤ 2 from nI_le (b := 2) (by omega) (by omega)), CT_cc h5, h6.1]
      by_cases c4 : T.1 0 = 0
      · rw [c4, if_pos nI_0, if_pos nI_0]; exact ⟨_, M, N, rfl, rfl, Rel_up h'⟩
      rw [if_neg (nI_ne0 (by omega) (by omega)), if_neg (nI_ne0 (by omega) (by omega))]
      -- the class sets out
      obtain ⟨M1, m1, m2, m3⟩ := eC_copy (b := 26) (b' := 6) hF (by omega) M
      obtain ⟨N1, n1, n2, n3, n4⟩ := eR_copy (a1 := 4) (a2 := 9) hF (by decide) (by decide) (by decide) N
      obtain ⟨N2, o1, o2, o3, o4⟩ := eR_copy (a1 := 3) (a2 := 10) hF (by decide) (by decide) (by decide) N1
      have R2 : RT N2 T := RTg_of h6 (by rw [o2 0 (by omega), n2 0 (by omega)]) (by rw [o2 0 (by omega), n2 0 (by omega)]) (by rw [o2 0 (by omega), n2 0 (by omega)]) (by rw [o2 0 (by omega), n2 0 (by omega)]) (by rw [o2 2 (by omega), n2 2 (by omega)]) (by rw [o2 3 (by omega), n2 3 (by omega)]) (by rw [o2 4 (by omega), n2 4 (by omega)]) (by rw [o2 8 (by omega), n2 8 (by omega)])
      have R3 : RT (u2 N2 0 15 a2) T := RT_15 R2
      have C3 : CT (u2 (u2 M1 2 1 a2) 2 2 0) 26 T := CT_of (m2 T h5) (fun i a b => by rw [u2_ne (by omega), u2_ne (by omega)])
      obtain ⟨M', N', T', U', sd', cn', B', p1, p2, p3, p4, p5, p6, p7, p8, p9, p10, p11, p12, p13⟩ := l_weeks (F := F) hF u1 (nI k) (N2.1 0 3) dy 0 F F B _ _ T T a2 0 (by omega) (by omega) (by omega) (by omega) C3 R3 h7 h7 ⟨rfl, rfl, fun _ _ _ => rfl, fun _ _ _ => rfl⟩ (fun _ _ => rfl) (by rw [u2_at, if_neg (fun q => by omega), u2_at, if_pos ⟨rfl, rfl⟩]) (by rw [u2_at, if_pos ⟨rfl, rfl⟩]) (by rw [u2_at, if_pos ⟨rfl, rfl⟩]; rfl)
      obtain ⟨N4, r1, r2, r3, r4⟩ := eR_copy (a1 := 9) (a2 := 4) hF (by decide) (by decide) (by decide) N'
      obtain ⟨N5, t1, t2, t3, t4⟩ := eR_copy (a1 := 10) (a2 := 3) hF (by decide) (by decide) (by decide) N4
      have eRef : ∀ x : Int32, tailW F (nI k) (N2.1 0 3) x N' = (if nI k = 0 then (some (x, u2 N5 0 3 (N2.1 0 3))) else (if nI k = (1 : Int32) then (some (nI (sm (pdN U') (U'.1 0)), u2 N5 0 3 (N2.1 0 3))) else (some (sd', u2 N5 0 3 (N2.1 0 3))))) := by
        intro x
        unfold tailW
        rw [bd_of (eR_paidMany hF p4 p6), bd_of r1, bd_of t1, nm_eq, show (u2 N5 0 3 (N2.1 0 3)).1 0 15 = sd' by rw [u2_at, if_neg (fun q => by omega), t2 0 (by omega), r2 0 (by omega)]; exact p9]
      have eRun : f_X4_run F 6 (nI dy) a2 M = some ((), M') := by
        unfold f_X4_run
        rw [bd_of m1, nm_eq, nm_eq, i0]
        exact p1
      rw [bd_of eRun, bd_of n1, bd_of o1, nm_eq, nm_eq, i0]
      -- the end
      have fin : Rel (B + 1) M' (u2 N5 0 3 (N2.1 0 3)) := by
        have mi : ∀ i, i < 26 → i ≠ 2 → M'.1 i = M.1 i := fun i a b => by rw [p11 i a b, u2_ne b, u2_ne b, m3 i (by omega)]
        have z0 : ∀ j, j ≠ 3 → j ≠ 15 → (u2 N5 0 3 (N2.1 0 3)).1 0 j = N.1 0 j := fun j a b => by
          rw [u2_at, if_neg (fun q => a q.2), t2 0 (by omega), r2 0 (by omega), p12.2.1 j a b, u2_at, if_neg (fun q => b q.2), o2 0 (by omega), n2 0 (by omega)]
        have z3 : (u2 N5 0 3 (N2.1 0 3)).1 0 3 = N.1 0 3 := by rw [u2_at, if_pos ⟨rfl, rfl⟩, o2 0 (by omega), n2 0 (by omega)]
        have zi : ∀ i, i ≠ 0 → i ≠ 3 → i ≠ 4 → i ≠ 9 → i ≠ 10 → (u2 N5 0 3 (N2.1 0 3)).1 i = N.1 i := fun i a b c d e => by
          rw [u2_ne a, t2 i b, r2 i c, p12.1 i a b c, u2_ne a, o2 i e, n2 i d]
        refine Rel_now hx' (fun i hi => mi i (by omega) (by omega)) (fun i hi => zi i (by omega) (by omega) (by omega) (by omega) (by omega)) (fun j hj => z0 j (by omega) (by omega)) (CT_of h5 (fun i a b => mi i (by omega) (by omega))) ?_ (Wf_up h7 (Nat.le_succ B))
        obtain ⟨g1, g2, g3, g4, g5, g6, g7, g8⟩ := h6
        refine ⟨by rw [z0 8 (by omega) (by omega)]; exact g1, by rw [z3]; exact g2, by rw [z0 4 (by omega) (by omega)]; exact g3, by rw [z0 13 (by omega) (by omega)]; exact g4, fun v hv => by rw [zi 2 (by omega) (by omega) (by omega) (by omega) (by omega)]; exact g5 v hv, fun v hv => ?_, fun c hc j hj => ?_, by rw [zi 8 (by omega) (by omega) (by omega) (by omega) (by omega)]; exact g8⟩
        · rw [u2_ne (by omega), t3 v hv, r2 10 (by omega), p12.1 10 (by omega) (by omega) (by omega), u2_ne (by omega), o3 v hv, n2 3 (by omega)]; exact g6 v hv
        · rw [u2_ne (by omega), t2 4 (by omega), r3 _ (show 6 * c + j < 24 by omega), p12.1 9 (by omega) (by omega) (by omega), u2_ne (by omega), o2 9 (by omega), n3 _ (show 6 * c + j < 24 by omega)]; exact g7 c hc j hj
      refine ⟨if nI k = 0 then nI cn' else if nI k = 1 then nI (sm (pdN U') (U'.1 0)) else sd', M', u2 N5 0 3 (N2.1 0 3), ?_, ?_, fin⟩
      · rw [← pd_Eqm p7, bd_of (eC_paidCount hF p3 p5), p10, p8, ← i0]
        split
        · rfl
        · split <;> rfl
      · refine (p2.trans (eRef _)).trans ?_
        split
        · rfl
        · split <;> rfl
    · rw [if_neg c3, if_pos rfl]
      refine ⟨mI 102, M, N, ?_, rfl, Rel_up h'⟩
      by_cases q1 : a3 < 0
      · rw [if_pos q1]
      · rw [if_neg q1, if_neg (fun q => c3 ⟨by have := mt lt0_iff.mpr q1; omega, by have := (le_nI (n := 2) (by omega)).mp q; omega⟩)]
  · rw [if_neg c1, if_pos rfl]
    refine ⟨mI 102, M, N, ?_, rfl, Rel_up h'⟩
    by_cases q1 : a1 < 1
    · rw [if_pos q1]
    · rw [if_neg q1, if_pos (by
        apply Classical.byContradiction
        intro q
        exact c1 ⟨by have := mt (lt_nI (n := 1) (by omega)).mpr q1; omega, by have := mt (nI_ltA (n := 40) (by omega)).mpr q; omega⟩)]
end WK
