/-! WHO and MOST -/
def frM (M M' : Mem) : Prop := ∀ i, i ≠ 3 → i ≠ 4 → i ≠ 5 → M'.1 i = M.1 i
section WH
variable {B : Nat} {M N : Mem} {T : TA} {F v : Nat}
theorem lfv_lt (hW : Wf B T) {c : Nat} (hc : c < 4) : lfv T v c < 64 := by
  unfold lfv
  split
  · exact leftN_lt hW hc
  · decide
theorem ShW_T (hW : Wf B T) : ShW (T.1 0) (needN T) (lfv T v) := ⟨hW.1, fun c hc => needN_le hW (by have := hW.1; omega), fun c hc => lfv_lt hW (by have := hW.1; omega)⟩
theorem l_take (hB : B ≤ 1000) (hW : Wf B T) (hv : v < 3) : ∀ d c nC M, c + d = T.1 0 → d < nC → CT M 6 T → M.1 3 2 = nI (T.1 0) → (∀ c', c' < c → M.1 4 c' = nI (needN T c') ∧ M.1 5 c' = nI (lfv T v c')) → ∃ M', LX1_take_10 F nC 6 (nI v) (nI c) M = some ((), M') ∧ Sh M' (T.1 0) (needN T) (lfv T v) ∧ ∀ i, i ≠ 4 → i ≠ 5 → M'.1 i = M.1 i := by
  intro d
  induction d with
  | zero =>
    intro c nC M h hn hT h3 hs
    obtain ⟨nC, rfl⟩ : ∃ k, nC = k + 1 := ⟨nC - 1, by omega⟩
    have h4 := hW.1
    refine ⟨M, ?_, ⟨h3, fun c' hc => hs c' (by omega)⟩, fun _ _ _ => rfl⟩
    rw [LX1_take_10_s, h3, if_pos (nI_le (by omega) (by omega))]
  | succ d ih =>
    intro c nC M h hn hT h3 hs
    obtain ⟨nC, rfl⟩ : ∃ k, nC = k + 1 := ⟨nC - 1, by omega⟩
    have h4 := hW.1
    have hc : c < 4 := by omega
    have c1 : CT (u2 M 4 c (nI (needN T c))) 6 T := CT_of hT (fun i a b => u2_ne (by omega))
    have w1 := (hW.2.2.2.2.2 c hc).2.1
    have nx : ∀ x : Nat, lfv T v c = x → ∃ M', LX1_take_10 F nC 6 (nI v) (nI (c + 1)) (u2 (u2 M 4 c (nI (needN T c))) 5 c (nI x)) = some ((), M') ∧ Sh M' (T.1 0) (needN T) (lfv T v) ∧ ∀ i, i ≠ 4 → i ≠ 5 → M'.1 i = M.1 i := by
      intro x hx
      obtain ⟨M', p1, p2, p3⟩ := ih (c + 1) nC (u2 (u2 M 4 c (nI (needN T c))) 5 c (nI x)) (by omega) (by omega) (CT_of c1 (fun i a b => u2_ne (by omega))) (by rw [u2_ne (by omega), u2_ne (by omega)]; exact h3) (fun c' hc' => by
        by_cases e : c' = c
        · subst e
          exact ⟨by rw [u2_ne (by omega), u2_at, if_pos ⟨rfl, rfl⟩], by rw [u2_at, if_pos ⟨rfl, rfl⟩, hx]⟩
        · exact ⟨by rw [u2_ne (by omega), u2_at, if_neg (fun q => e q.2)]; exact (hs c' (by omega)).1, by rw [u2_at, if_neg (fun q => e q.2), u2_ne (by omega)]; exact (hs c' (by omega)).2⟩)
      exact ⟨M', p1, p2, fun i a b => by rw [p3 i a b, u2_ne b, u2_ne a]⟩
    rw [LX1_take_10_s, h3, if_neg (nI_ge (by omega) (by omega)), gi_nI hc (by omega), nI_clamp (by omega), bd_of (eC_needs hB hT hW hc), gi_nI hc (by omega), nm_eq, c1.2.2 c hc 1 (by omega)]
    by_cases e : T.2.2 c 1 = v
    · rw [if_pos (by rw [e]), bd_of (eC_left c1 hW hc), gi_nI hc (by omega), nm_eq, nm_eq, nI_1]
      exact nx _ (if_pos e)
    · rw [if_neg (fun q => e ((nI_eq (by omega) (by omega)).mp q)), gi_nI hc (by omega), nm_eq, nm_eq, nI_1]
      exact nx 0 (if_neg e)
theorem eC_take (hF : 100 ≤ F) (hB : B ≤ 1000) (hT : CT M 6 T) (hW : Wf B T) (hv : v < 3) : ∃ M', f_X1_take F 6 (nI v) M = some ((), M') ∧ Sh M' (T.1 0) (needN T) (lfv T v) ∧ frM M M' := by
  have h4 := hW.1
  obtain ⟨M', p1, p2, p3⟩ := l_take (F := F) hB hW hv (T.1 0) 0 F (u2 M 3 2 (nI (T.1 0))) (by omega) (by omega) (CT_of hT (fun i a b => u2_ne (by omega))) (by rw [u2_at, if_pos ⟨rfl, rfl⟩]) (fun c' h => by omega)
  refine ⟨M', ?_, p2, fun i a b c => by rw [p3 i b c, u2_ne a]⟩
  unfold f_X1_take
  rw [nm_eq, nm_eq, CT_cc hT]
  exact p1
theorem CT_M {M' : Mem} (hT : CT M 6 T) (f : frM M M') : CT M' 6 T := CT_of hT (fun i a b => f i (by omega) (by omega) (by omega))
theorem frM.tr {M1 M2 : Mem} (h1 : frM M M1) (h2 : frM M1 M2) : frM M M2 := fun i a b c => (h2 i a b c).trans (h1 i a b c)
theorem eC_sayer (hF : 100 ≤ F) (hB : B ≤ 1000) (hT : CT M 6 T) (hW : Wf B T) (hv : v < 3) {w : Nat → Nat} (hw : Best (T.1 0) (LB (lfv T v)) 6 0 (needN T) w) {a : Nat} (ha : a < 6) : ∃ M', f_X1_sayerOf F 6 (nI v) (nI a) M = some (nI (w a) - 1, M') ∧ frM M M' := by
  obtain ⟨M1, p1, p2, p3⟩ := eC_take (F := F) hF hB hT hW hv
  obtain ⟨M', q1, q2⟩ := l_sayer (F := F) (n := T.1 0) (lf := lfv T v) hF ha (a + 1) 0 F M1 (needN T) (mI 1) (by omega) (by omega) p2 (ShW_T hW) hw (fun z => by omega)
  refine ⟨M', ?_, fun i a b c => by rw [q2 i b, p3 i a b c]⟩
  unfold f_X1_sayerOf
  rw [bd_of p1]
  exact q1
theorem l_all (hF : 100 ≤ F) (hB : B ≤ 1000) (hW : Wf B T) {μ : Nat → Nat} (hμ : ∀ v, v < 3 → Op (T.1 0) (LB (lfv T v)) 6 0 (needN T) (μ v)) : ∀ d v nC M, v + d = 3 → d < nC → CT M 6 T → ∃ M', LX1_mostOfAll_4 F nC 6 (nI (sm μ v)) (nI v) M = some (nI (sm μ 3), M') ∧ frM M M' := by
  intro d
  induction d with
  | zero =>
    intro v nC M h hn hT
    obtain ⟨nC, rfl⟩ : ∃ k, nC = k + 1 := ⟨nC - 1, by omega⟩
    obtain rfl : v = 3 := by omega
    exact ⟨M, by rw [LX1_mostOfAll_4_s, if_pos (by decide)], fun _ _ _ _ => rfl⟩
  | succ d ih =>
    intro v nC M h hn hT
    obtain ⟨nC, rfl⟩ : ∃ k, nC = k + 1 := ⟨nC - 1, by omega⟩
    obtain ⟨M1, p1, p2, p3⟩ := eC_take (F := F) hF hB hT hW (show v < 3 by omega)
    obtain ⟨m, q1, q2, _⟩ := e_among (F := F) hF p2 (ShW_T hW) (show 0 ≤ 6 by omega)
    obtain rfl := Op_un (hμ v (by omega)) q2
    obtain ⟨M', r1, r2⟩ := ih (v + 1) nC M1 (by omega) (by omega) (CT_M hT p3)
    refine ⟨M', ?_, p3.tr r2⟩
    rw [LX1_mostOfAll_4_s, if_neg (show ¬ (3 : Int32) ≤ nI v from nI_ge (b := 3) (by omega) (by omega)), bd_of p1]
    show bd (f_X1_mostAmong F (nI (64 - 2 ^ 0)) M1) _ = _
    rw [bd_of q1, nm_eq, nm_eq, nI_add, nI_1]
    exact r1
theorem eC_all (hF : 100 ≤ F) (hB : B ≤ 1000) (hT : CT M 6 T) (hW : Wf B T) {μ : Nat → Nat} (hμ : ∀ v, v < 3 → Op (T.1 0) (LB (lfv T v)) 6 0 (needN T) (μ v)) : ∃ M', f_X1_mostOfAll F 6 M = some (nI (sm μ 3), M') ∧ frM M M' := l_all hF hB hW hμ 3 0 F M (by omega) (by omega) hT
theorem l_of (hF : 20000 ≤ F) (hB : B ≤ 1000) (hW : Wf B T) {μ : Nat → Nat} (hμ : ∀ v, v < 3 → Op (T.1 0) (LB (lfv T v)) 6 0 (needN T) (μ v)) : ∀ d v nC N, v + d = 3 → d < nC → RT N T → ∃ N', LX6_mostOf_4 F nC (nI (sm μ v)) (nI v) N = some (nI (sm μ 3), N') ∧ frY N N' := by
  intro d
  induction d with
  | zero =>
    intro v nC N h hn hT
    obtain ⟨nC, rfl⟩ : ∃ k, nC = k + 1 := ⟨nC - 1, by omega⟩
    obtain rfl : v = 3 := by omega
    exact ⟨N, by rw [LX6_mostOf_4_s, if_pos (by decide)], frY_rf⟩
  | succ d ih =>
    intro v nC N h hn hT
    obtain ⟨nC, rfl⟩ : ∃ k, nC = k + 1 := ⟨nC - 1, by omega⟩
    obtain ⟨w, N1, p1, p2, p3, _⟩ := eR_lay (F := F) hF hB hT hW (show v < 3 by omega)
    have e := Op_un (hμ v (by omega)) (Best_Op p2)
    rw [← e] at p1
    obtain ⟨N', r1, r2⟩ := ih (v + 1) nC N1 (by omega) (by omega) (RT_Y hT p3)
    refine ⟨N', ?_, p3.tr r2⟩
    rw [LX6_mostOf_4_s, if_neg (show ¬ (3 : Int32) ≤ nI v from nI_ge (b := 3) (by omega) (by omega)), bd_of p1, nm_eq, nm_eq, nI_add, nI_1]
    exact r1
theorem μ_ex (T : TA) : ∃ μ : Nat → Nat, ∀ v, v < 3 → Op (T.1 0) (LB (lfv T v)) 6 0 (needN T) (μ v) := ⟨fun v => Classical.choose (Op_ex (n := T.1 0) (L := LB (lfv T v)) 6 0 (needN T)), fun v _ => Classical.choose_spec (Op_ex (n := T.1 0) (L := LB (lfv T v)) 6 0 (needN T))⟩
theorem μ_le {μ : Nat → Nat} (hμ : ∀ v, v < 3 → Op (T.1 0) (LB (lfv T v)) 6 0 (needN T) (μ v)) {v : Nat} (hv : v < 3) : μ v ≤ 6 := by
  have := ach_cut _ _ _ _ (hμ v hv).1 (fun _ => false)
  unfold cutN at this
  rw [wS_0] at this
  have := hits_le (n := T.1 0) (L := LB (lfv T v)) (S := fun _ => false) 6 0
  omega
theorem Rel_MY {M' N' : Mem} (h : Rel B M N) (m : frM M M') (n : frY N N') : Rel (B + 1) M' N' := Rel_scr h (fun i a => m i (by omega) (by omega) (by omega)) (fun i a => n.1 i (by omega) (by omega) (by omega)) (fun j _ => by rw [n.1 0 (by omega) (by omega) (by omega)])
theorem sp_who (hF : 20000 ≤ F) (hB : B ≤ 1000) (a1 a2 : Int32) : Sp B (f_X5_who F a1 a2) (f_X6_who F a1 a2) := by
  intro M N h
  have h' := h
  obtain ⟨n, ht, hi, tn, pg, T, K, h1, h2, h3, h4, h5, h6, h7, h8, h9⟩ := h
  unfold f_X5_who f_X6_who
  rw [bd_of (eC_isV h2.1 h2.2.2 _), bd_of (eR_isV h2.2.1 h2.2.2 _)]
  by_cases c : ht = 1 ∧ inL a1 3
  · obtain ⟨v, hv, rfl⟩ := inL_nI c.2 (by omega)
    rw [if_pos c, if_neg (show ¬ (1 : Int32) = 0 by decide), if_neg (show ¬ (1 : Int32) = 0 by decide), bd_of (eC_isS _), bd_of (eR_isS _)]
    by_cases c' : inL a2 6
    · obtain ⟨k, hk, rfl⟩ := inL_nI c' (by omega)
      obtain ⟨w, N1, p1, p2, p3, p4, p5⟩ := eR_lay (F := F) hF hB h6 h7 hv
      obtain ⟨M1, q1, q2⟩ := eC_sayer (F := F) (by omega) hB h5 h7 hv p2 hk
      rw [if_pos c', if_neg (show ¬ (1 : Int32) = 0 by decide), if_neg (show ¬ (1 : Int32) = 0 by decide), bd_of q1, bd_of p1, gi_nI hk (by omega), nI_clamp (by omega), p4 k hk]
      exact ⟨_, M1, N1, rfl, rfl, Rel_MY h' q2 p3⟩
    · rw [if_neg c', if_pos rfl, if_pos rfl]
      exact ⟨_, M, N, rfl, rfl, Rel_up h'⟩
  · rw [if_neg c, if_pos rfl, if_pos rfl]
    exact ⟨_, M, N, rfl, rfl, Rel_up h'⟩
theorem eC_most (hF : 100 ≤ F) (hB : B ≤ 1000) {ht : Nat} (hh : M.1 0 6 = nI ht) (h1 : ht = 1) (hT : CT M 6 T) (hW : Wf B T) {μ : Nat → Nat} (hμ : ∀ v, v < 3 → Op (T.1 0) (LB (lfv T v)) 6 0 (needN T) (μ v)) {k : Nat} (hk : k < 2) : ∃ M', f_X5_most F (nI k) M = some (if nI k = 0 then nI (sm μ 3) else if sm μ 3 = sm (needN T) (T.1 0) then 1 else 0, M') ∧ frM M M' := by
  obtain ⟨M1, q1, q2⟩ := eC_all (F := F) hF hB hT hW hμ
  refine ⟨M1, ?_, q2⟩
  unfold f_X5_most
  rw [if_neg (nI_pos (by omega)), if_pos (show nI k ≤ (1 : Int32) from nI_le (b := 1) (by omega) (by omega)), hh, h1, if_neg (by decide), bd_of q1]
  by_cases e : nI k = 0
  · rw [if_pos e, if_pos e]
  · have s1 : sm μ 3 ≤ 3 * 6 := sm_le 3 (fun i hi => μ_le hμ hi)
    have s2 : sm (needN T) (T.1 0) ≤ T.1 0 * 18 := sm_le _ (fun i hi => needN_le hW (by have := hW.1; omega))
    have h4 := hW.1
    rw [if_neg e, if_neg e, bd_of (eC_needsOfAll hF hB (CT_M hT q2) hW)]
    by_cases z : sm μ 3 = sm (needN T) (T.1 0)
    · rw [if_pos z, if_pos (by rw [z])]
    · rw [if_neg z, if_neg (fun q => z ((nI_eq (by omega) (by omega)).mp q))]
theorem sp_most (hF : 20000 ≤ F) (hB : B ≤ 1000) (a : Int32) : Sp B (f_X5_most F a) (f_X6_most F a) := by
  intro M N h
  have h' := h
  obtain ⟨n, ht, hi, tn, pg, T, K, h1, h2, h3, h4, h5, h6, h7, h8, h9⟩ := h
  by_cases c : inL a 2
  · obtain ⟨k, hk, rfl⟩ := inL_nI c (by omega)
    by_cases c1 : ht = 1
    · obtain ⟨μ, hμ⟩ := μ_ex T
      obtain ⟨M1, q1, q2⟩ := eC_most (F := F) (by omega) hB h2.1 c1 h5 h7 hμ hk
      obtain ⟨N1, p1, p2⟩ := l_of (F := F) hF hB h7 hμ 3 0 F N (by omega) (by omega) h6
      refine ⟨_, M1, N1, q1, ?_, Rel_MY h' q2 p2⟩
      unfold f_X6_most f_X6_mostOf
      rw [bd_of (e_inL F _ 2 1 N (by decide)), if_pos c, if_neg (show ¬ (1 : Int32) = 0 by decide), h2.2.1, c1, if_neg (show ¬ nI 1 = 0 by decide)]
      have p1' : LX6_mostOf_4 F F 0 0 N = some (nI (sm μ 3), N1) := p1
      rw [bd_of p1']
      by_cases e : nI k = 0
      · rw [if_pos e, if_pos e]
      · have s1 : sm μ 3 ≤ 3 * 6 := sm_le 3 (fun i hi => μ_le hμ hi)
        have s2 : sm (needN T) (T.1 0) ≤ T.1 0 * 18 := sm_le _ (fun i hi => needN_le h7 (by have := h7.1; omega))
        have h4 := h7.1
        rw [if_neg e, if_neg e, bd_of (eR_needsAll (by omega) hB (RT_Y h6 p2) h7)]
        by_cases z : sm μ 3 = sm (needN T) (T.1 0)
        · rw [if_pos z, if_pos (by rw [z])]
        · rw [if_neg z, if_neg (fun q => z ((nI_eq (by omega) (by omega)).mp q))]
    · have c0 : ht = 0 := by omega
      refine ⟨mI 103, M, N, ?_, ?_, Rel_up h'⟩
      · unfold f_X5_most
        rw [if_neg (nI_pos (by omega)), if_pos (show nI k ≤ (1 : Int32) from nI_le (b := 1) (by omega) (by omega)), h2.1, c0, if_pos (by decide)]
      · unfold f_X6_most
        rw [bd_of (e_inL F _ 2 1 N (by decide)), if_pos c, if_neg (show ¬ (1 : Int32) = 0 by decide), h2.2.1, c0, if_pos (by decide)]
  · refine ⟨mI 102, M, N, ?_, ?_, Rel_up h'⟩
    · unfold f_X5_most
      by_cases q1 : a < 0
      · rw [if_pos q1]
      · rw [if_neg q1, if_neg (show ¬ a ≤ (1 : Int32) from fun q => c ⟨by have := mt lt0_iff.mpr q1; omega, by have := (le_nI (n := 1) (by omega)).mp q; omega⟩)]
    · unfold f_X6_most
      rw [bd_of (e_inL F _ 2 1 N (by decide)), if_neg c, if_pos rfl]
end WH
