/-! changes of a town, both sides -/
theorem TrOK_sC {q : Nat → Int32} {T : TA} {c j x : Nat} (h : TrOK q T) : TrOK q (sC T c j x) := h
theorem TrOK_sV1 {q : Nat → Int32} {T : TA} {v x : Nat} (h : TrOK q T) : TrOK q (sV T v 1 x) := by
  refine ⟨h.1, fun v' hv k hk => ?_⟩
  have h2 : (sV T v 1 x).2.1 v' 2 = T.2.1 v' 2 := if_neg (fun q => by omega)
  have h3 : (sV T v 1 x).2.1 v' 3 = T.2.1 v' 3 := if_neg (fun q => by omega)
  rw [h2, h3]
  exact h.2 v' hv k hk
theorem TrOK_sS {q : Nat → Int32} {T : TA} {i x : Nat} (hi : i ≠ 3) (h : TrOK q T) : TrOK q (sS T i x) := by
  have e : (sS T i x).1 3 = T.1 3 := if_neg (fun q => hi q.symm)
  unfold TrOK
  rw [e]
  exact h
section U1
variable {B : Nat} {M N : Mem} {b : Nat} {T : TA} {F : Nat}
theorem RT_row (hT : RT N T) {c0 i : Nat} (hc0 : c0 < 4) (hi : i < 6) (x : Nat) : RT (u2 N 4 (6 * c0 + i) (nI x)) (sC T c0 i x) := by
  obtain ⟨h1, h2, h3, h4, h5, h6, h7, h8⟩ := hT
  refine ⟨?_, ?_, ?_, ?_, fun v hv => ?_, fun v hv => ?_, fun c hc j hj => ?_, ?_⟩
  · rw [u2_at, if_neg (fun q => by omega)]; exact h1
  · rw [u2_at, if_neg (fun q => by omega)]; exact h2
  · rw [u2_at, if_neg (fun q => by omega)]; exact h3
  · rw [u2_at, if_neg (fun q => by omega)]; exact h4
  · rw [u2_at, if_neg (fun q => by omega)]; exact h5 v hv
  · rw [u2_at, if_neg (fun q => by omega)]; exact h6 v hv
  · rw [u2_at]
    show _ = nI (if c = c0 ∧ j = i then x else T.2.2 c j)
    by_cases h : c = c0 ∧ j = i
    · rw [if_pos ⟨rfl, by omega⟩, if_pos h]
    · rw [if_neg (fun q => h (by omega)), if_neg h]; exact h7 c hc j hj
  · rw [u2_ne (by omega)]; exact h8
theorem RT_used (hT : RT N T) {v0 : Nat} (hv0 : v0 < 3) (x : Nat) : RT (u2 N 3 v0 (nI x)) (sV T v0 1 x) := by
  obtain ⟨h1, h2, h3, h4, h5, h6, h7, h8⟩ := hT
  refine ⟨?_, ?_, ?_, ?_, fun v hv => ?_, fun v hv => ?_, fun c hc j hj => ?_, ?_⟩
  · rw [u2_at, if_neg (fun q => by omega)]; exact h1
  · rw [u2_at, if_neg (fun q => by omega)]; exact h2
  · rw [u2_at, if_neg (fun q => by omega)]; exact h3
  · rw [u2_at, if_neg (fun q => by omega)]; exact h4
  · rw [u2_at, if_neg (fun q => by omega)]
    show _ = nI (if v = v0 ∧ 0 = 1 then x else T.2.1 v 0)
    rw [if_neg (fun q => by omega)]; exact h5 v hv
  · rw [u2_at]
    show _ = nI (if v = v0 ∧ 1 = 1 then x else T.2.1 v 1)
    by_cases h : v = v0
    · rw [if_pos ⟨rfl, h⟩, if_pos ⟨h, rfl⟩]
    · rw [if_neg (fun q => h q.2), if_neg (fun q => h q.1)]; exact h6 v hv
  · rw [u2_at, if_neg (fun q => by omega)]; exact h7 c hc j hj
  · rw [u2_ne (by omega)]; exact TrOK_sV1 h8
/-- a scalar: its place in the object, its number -/
theorem RT_sc (hT : RT N T) {k i : Nat} (h : (k = 8 ∧ i = 0) ∨ (k = 3 ∧ i = 1) ∨ (k = 4 ∧ i = 2)) (x : Nat) : RT (u2 N 0 k (nI x)) (sS T i x) := by
  obtain ⟨h1, h2, h3, h4, h5, h6, h7, h8⟩ := hT
  have s : ∀ j p : Nat, ((p = 8 ∧ j = 0) ∨ (p = 3 ∧ j = 1) ∨ (p = 4 ∧ j = 2) ∨ (p = 13 ∧ j = 3)) → N.1 0 p = nI (T.1 j) → (u2 N 0 k (nI x)).1 0 p = nI ((sS T i x).1 j) := by
    intro j p hp e
    rw [u2_at]
    show _ = nI (if j = i then x else T.1 j)
    by_cases q : j = i
    · rw [if_pos ⟨rfl, by omega⟩, if_pos q]
    · rw [if_neg (fun z => q (by omega)), if_neg q]; exact e
  refine ⟨s 0 8 (by omega) h1, s 1 3 (by omega) h2, s 2 4 (by omega) h3, s 3 13 (by omega) h4, fun v hv => ?_, fun v hv => ?_, fun c hc j hj => ?_, ?_⟩
  · rw [u2_at, if_neg (fun q => by omega)]; exact h5 v hv
  · rw [u2_at, if_neg (fun q => by omega)]; exact h6 v hv
  · rw [u2_at, if_neg (fun q => by omega)]; exact h7 c hc j hj
  · rw [u2_ne (by omega)]; exact TrOK_sS (by omega) h8
theorem RTg_of {N' : Mem} {s0 s1 s2 s3 aT aU aR aQ : Nat} (hT : RTg N s0 s1 s2 s3 aT aU aR aQ T) (h0 : N'.1 0 s0 = N.1 0 s0) (h1 : N'.1 0 s1 = N.1 0 s1) (h2 : N'.1 0 s2 = N.1 0 s2) (h3 : N'.1 0 s3 = N.1 0 s3) (a : N'.1 aT = N.1 aT) (b : N'.1 aU = N.1 aU) (c : N'.1 aR = N.1 aR) (d : N'.1 aQ = N.1 aQ) : RTg N' s0 s1 s2 s3 aT aU aR aQ T := by
  unfold RTg
  rw [h0, h1, h2, h3, a, b, c, d]
  exact hT
/-! a saying is heard -/
def hearB (T : TA) (c k : Nat) : Bool := !((T.2.1 (T.2.2 c 1) 1).testBit k) && ((T.2.1 (T.2.2 c 1) 0).testBit k || (decide (T.2.2 c 0 = 2) && decide (T.1 1 ≠ 0)))
def cntN (T : TA) (c k : Nat) : TA := sC (sC (sV T (T.2.2 c 1) 1 (T.2.1 (T.2.2 c 1) 1 ||| 2 ^ k)) c 5 (T.2.2 c 5 + 1)) c 2 (if T.2.2 c 0 = 3 ∧ (T.2.2 c 5 + 1) % 2 = 1 then T.2.2 c 2 else T.2.2 c 2 - 1)
def hearT (T : TA) (c k : Nat) : TA := if hearB T c k then cntN (if (T.2.1 (T.2.2 c 1) 0).testBit k then T else sS T 1 (T.1 1 - 1)) c k else T
theorem sC_same {T : TA} {c j x : Nat} (h : T.2.2 c j = x) : sC T c j x = T := by
  unfold sC
  congr 1
  congr 1
  funext c' j'
  by_cases e : c' = c ∧ j' = j
  · rw [if_pos e, e.1, e.2, h]
  · rw [if_neg e]
theorem sS_same {T : TA} {i x : Nat} (h : T.1 i = x) : sS T i x = T := by
  unfold sS
  congr 1
  funext i'
  by_cases e : i' = i
  · rw [if_pos e, e, h]
  · rw [if_neg e]
theorem Wf_up {B' : Nat} (hW : Wf B T) (h : B ≤ B') : Wf B' T := ⟨hW.1, hW.2.1, Nat.le_trans hW.2.2.1 h, hW.2.2.2.1, hW.2.2.2.2.1, fun c hc => by
  obtain ⟨w0, w1, w2, w3, w4, w5⟩ := hW.2.2.2.2.2 c hc
  exact ⟨w0, w1, w2, w3, w4, Nat.le_trans w5 h⟩⟩
theorem Wf_sC (hW : Wf B T) {c j x : Nat} (h : (j = 0 → x ≤ 4) ∧ (j = 1 → x < 3) ∧ (j = 2 → x ≤ 9) ∧ (j = 3 → x < 64) ∧ (j = 4 → x ≤ 3) ∧ (j = 5 → x ≤ B)) : Wf B (sC T c j x) := by
  refine ⟨hW.1, hW.2.1, hW.2.2.1, hW.2.2.2.1, hW.2.2.2.2.1, fun c' hc => ?_⟩
  obtain ⟨w0, w1, w2, w3, w4, w5⟩ := hW.2.2.2.2.2 c' hc
  have e : ∀ j', (sC T c j x).2.2 c' j' = if c' = c ∧ j' = j then x else T.2.2 c' j' := fun _ => rfl
  refine ⟨?_, ?_, ?_, ?_, ?_, ?_⟩ <;> rw [e] <;> split <;> omega
theorem Wf_sV (hW : Wf B T) {v j x : Nat} (h : x < 64) : Wf B (sV T v j x) := by
  refine ⟨hW.1, hW.2.1, hW.2.2.1, hW.2.2.2.1, fun v' hv j' hj => ?_, hW.2.2.2.2.2⟩
  have e : (sV T v j x).2.1 v' j' = if v' = v ∧ j' = j then x else T.2.1 v' j' := rfl
  rw [e]
  split
  · exact h
  · exact hW.2.2.2.2.1 v' hv j' hj
theorem Wf_sS (hW : Wf B T) {i x : Nat} (h : (i = 0 → x ≤ 4) ∧ (i = 1 → x ≤ 9) ∧ (i = 2 → x ≤ B) ∧ (i = 3 → x ≤ 8)) : Wf B (sS T i x) := by
  have e : ∀ j, (sS T i x).1 j = if j = i then x else T.1 j := fun _ => rfl
  refine ⟨?_, ?_, ?_, ?_, hW.2.2.2.2.1, hW.2.2.2.2.2⟩ <;> rw [e] <;> have := hW.1 <;> have := hW.2.1 <;> have := hW.2.2.1 <;> have := hW.2.2.2.1 <;> split <;> omega
theorem Wf_cnt (hW : Wf B T) {c k : Nat} (hc : c < 4) (hk : k < 6) : Wf (B + 1) (cntN T c k) := by
  obtain ⟨w0, w1, w2, w3, w4, w5⟩ := hW.2.2.2.2.2 c hc
  refine Wf_sC (Wf_sC (Wf_sV (Wf_up hW (Nat.le_succ B)) (or64 (hW.2.2.2.2.1 _ w1 1 (by omega)) (pow64 hk))) (by omega)) ?_
  refine ⟨by omega, by omega, fun _ => by split <;> omega, by omega, by omega, by omega⟩
theorem Wf_hear (hW : Wf B T) {c k : Nat} (hc : c < 4) (hk : k < 6) : Wf (B + 1) (hearT T c k) := by
  unfold hearT
  split
  · split
    · exact Wf_cnt hW hc hk
    · exact Wf_cnt (Wf_sS hW ⟨by omega, fun _ => by have := hW.2.1; omega, by omega, by omega⟩) hc hk
  · exact Wf_up hW (Nat.le_succ B)
/-- the class counts a saying -/
theorem eC_count (hB : B ≤ 1000) (hT : CT M b T) (hW : Wf B T) {c k : Nat} (hc : c < 4) (hk : k < 6) (hf : 1 ≤ T.2.2 c 2) : ∃ M', JX2_hear_74 F (b + 6 + c) (b + 3 + T.2.2 c 1) (nI (2 ^ k)) M = some (1, M') ∧ CT M' b (cntN T c k) ∧ ∀ i, (i < b ∨ b + 10 ≤ i) → M'.1 i = M.1 i := by
  obtain ⟨w0, w1, w2, w3, w4, w5⟩ := hW.2.2.2.2.2 c hc
  have c1 := CT_V hT (v0 := T.2.2 c 1) (i := 1) w1 (T.2.1 (T.2.2 c 1) 1 ||| 2 ^ k)
  have c2 := CT_C c1 (i := 5) hc (T.2.2 c 5 + 1)
  unfold JX2_hear_74 f_X0_pay
  rw [nm_eq, nm_eq, hT.2.1 _ w1 1 (by omega), or_nI, nm_eq, nm_eq]
  rw [show (u2 M (b + 3 + T.2.2 c 1) 1 (nI (T.2.1 (T.2.2 c 1) 1 ||| 2 ^ k))).1 (b + 6 + c) 5 = nI (T.2.2 c 5) from c1.2.2 c hc 5 (by omega), nI_1]
  rw [c2.2.2 c hc 0 (by omega), c2.2.2 c hc 5 (by omega), c2.2.2 c hc 2 (by omega)]
  rw [show (sC (sV T (T.2.2 c 1) 1 (T.2.1 (T.2.2 c 1) 1 ||| 2 ^ k)) c 5 (T.2.2 c 5 + 1)).2.2 c 0 = T.2.2 c 0 from if_neg (fun q => by omega), show (sC (sV T (T.2.2 c 1) 1 (T.2.1 (T.2.2 c 1) 1 ||| 2 ^ k)) c 5 (T.2.2 c 5 + 1)).2.2 c 5 = T.2.2 c 5 + 1 from if_pos ⟨rfl, rfl⟩, show (sC (sV T (T.2.2 c 1) 1 (T.2.1 (T.2.2 c 1) 1 ||| 2 ^ k)) c 5 (T.2.2 c 5 + 1)).2.2 c 2 = T.2.2 c 2 from if_neg (fun q => by omega)]
  rw [i2, i3, i1, pk_rem (by omega) (by omega) (by omega), pk_sub hf]
  have fr : ∀ x y z : Int32, ∀ i, (i < b ∨ b + 10 ≤ i) → (u2 (u2 (u2 M (b + 3 + T.2.2 c 1) 1 x) (b + 6 + c) 5 y) (b + 6 + c) 2 z).1 i = M.1 i := fun x y z i hi => by
    rw [u2_ne (by omega), u2_ne (by omega), u2_ne (by omega)]
  have fr2 : ∀ x y : Int32, ∀ i, (i < b ∨ b + 10 ≤ i) → (u2 (u2 M (b + 3 + T.2.2 c 1) 1 x) (b + 6 + c) 5 y).1 i = M.1 i := fun x y i hi => by
    rw [u2_ne (by omega), u2_ne (by omega)]
  by_cases e3 : T.2.2 c 0 = 3
  · rw [e3, if_pos rfl]
    by_cases e5 : (T.2.2 c 5 + 1) % 2 = 0
    · rw [e5, if_pos nI_0]
      refine ⟨_, rfl, ?_, fr _ _ _⟩
      have := CT_C c2 (i := 2) hc (T.2.2 c 2 - 1)
      unfold cntN
      rw [if_neg (fun q => by omega)]
      exact this
    · rw [if_neg (nI_ne0 (by omega) (by omega))]
      refine ⟨_, rfl, ?_, fr2 _ _⟩
      unfold cntN
      rw [if_pos ⟨e3, by omega⟩, sC_same (show (sC (sV T (T.2.2 c 1) 1 (T.2.1 (T.2.2 c 1) 1 ||| 2 ^ k)) c 5 (T.2.2 c 5 + 1)).2.2 c 2 = T.2.2 c 2 from if_neg (fun q => by omega))]
      exact c2
  · rw [if_neg (fun q => e3 ((nI_eq (by omega) (by omega)).mp q))]
    refine ⟨_, rfl, ?_, fr _ _ _⟩
    have := CT_C c2 (i := 2) hc (T.2.2 c 2 - 1)
    unfold cntN
    rw [if_neg (fun q => e3 q.1)]
    exact this
theorem eC_hear (hB : B ≤ 1000) (hT : CT M b T) (hW : Wf B T) {c k : Nat} (hc : c < 4) (hk : k < 6) (hf : 1 ≤ T.2.2 c 2) (hm : 1 ≤ T.2.2 c 4) : ∃ M', f_X2_hear F b (b + 6 + c) (nI k) M = some (nI (hearB T c k).toNat, M') ∧ CT M' b (hearT (sC T c 4 (T.2.2 c 4 - 1)) c k) ∧ ∀ i, (i < b ∨ b + 10 ≤ i) → M'.1 i = M.1 i := by
  obtain ⟨w0, w1, w2, w3, w4, w5⟩ := hW.2.2.2.2.2 c hc
  have wu := hW.2.2.2.2.1 _ w1 1 (by omega)
  have wt := hW.2.2.2.2.1 _ w1 0 (by omega)
  have c1 := CT_C hT (i := 4) hc (T.2.2 c 4 - 1)
  have W1 : Wf B (sC T c 4 (T.2.2 c 4 - 1)) := Wf_sC hW (by omega)
  have e1 : (sC T c 4 (T.2.2 c 4 - 1)).2.2 c 1 = T.2.2 c 1 := if_neg (fun q => by omega)
  have e0 : (sC T c 4 (T.2.2 c 4 - 1)).2.2 c 0 = T.2.2 c 0 := if_neg (fun q => by omega)
  have e2 : (sC T c 4 (T.2.2 c 4 - 1)).2.2 c 2 = T.2.2 c 2 := if_neg (fun q => by omega)
  have fr : ∀ i, (i < b ∨ b + 10 ≤ i) → (u2 M (b + 6 + c) 4 (nI (T.2.2 c 4 - 1))).1 i = M.1 i := fun i hi => by rw [u2_ne (by omega)]
  have eh : hearB (sC T c 4 (T.2.2 c 4 - 1)) c k = hearB T c k := by
    unfold hearB
    rw [e1, e0]; rfl
  unfold f_X2_hear
  rw [nm_eq, nm_eq, hT.2.2 c hc 4 (by omega), i1, pk_sub hm, c1.2.2 c hc 1 (by omega), e1, gi_nI w1 (by omega), nI_clamp (by omega), nm_eq, c1.2.1 _ w1 1 (by omega), c1.2.1 _ w1 0 (by omega), c1.2.2 c hc 0 (by omega), e0, CT_sh c1, ← i1]
  rw [show (sC T c 4 (T.2.2 c 4 - 1)).2.1 = T.2.1 from rfl, show (sC T c 4 (T.2.2 c 4 - 1)).1 = T.1 from rfl]
  unfold hearT
  rw [eh]
  cases hu : (T.2.1 (T.2.2 c 1) 1).testBit k with
  | true =>
    have hh : hearB T c k = false := by unfold hearB; rw [hu]; rfl
    rw [if_neg (fun q => by have := (bit_and _ wu k hk).mp q; rw [hu] at this; cases this), hh]
    exact ⟨_, rfl, c1, fr⟩
  | false =>
    rw [if_pos ((bit_and _ wu k hk).mpr hu)]
    cases ht : (T.2.1 (T.2.2 c 1) 0).testBit k with
    | true =>
      have hh : hearB T c k = true := by unfold hearB; rw [hu, ht]; rfl
      rw [if_neg (fun q => by have := (bit_and _ wt k hk).mp q; rw [ht] at this; cases this), hh, if_pos rfl, e1, show (sC T c 4 (T.2.2 c 4 - 1)).2.1 = T.2.1 from rfl, ht, if_pos rfl, shl_pow k (by omega)]
      obtain ⟨M', m1, m2, m3⟩ := eC_count (F := F) hB c1 W1 hc hk (by rw [e2]; exact hf)
      rw [e1] at m1
      exact ⟨M', m1, m2, fun i hi => (m3 i hi).trans (fr i hi)⟩
    | false =>
      rw [if_pos ((bit_and _ wt k hk).mpr ht)]
      by_cases z0 : T.2.2 c 0 = 2
      · rw [z0, i2, if_pos rfl]
        by_cases z1 : T.1 1 = 0
        · have hh : hearB T c k = false := by unfold hearB; rw [hu, ht, z1]; simp
          rw [z1, if_pos nI_0, hh]
          exact ⟨_, rfl, c1, fr⟩
        · have hh : hearB T c k = true := by unfold hearB; rw [hu, ht]; simp [z0, z1]
          rw [if_neg (nI_ne0 (by omega) (by have := hW.2.1; omega)), nm_eq, nm_eq, i1, pk_sub (by omega), hh, if_pos rfl, e1, show (sC T c 4 (T.2.2 c 4 - 1)).2.1 = T.2.1 from rfl, ht, if_neg (by decide), ← i1, shl_pow k (by omega)]
          have c3 := CT_S c1 (i := 1) (by omega) (T.1 1 - 1)
          have W3 : Wf B (sS (sC T c 4 (T.2.2 c 4 - 1)) 1 (T.1 1 - 1)) := Wf_sS W1 ⟨by omega, fun _ => by have := hW.2.1; omega, by omega, by omega⟩
          obtain ⟨M', m1, m2, m3⟩ := eC_count (F := F) hB c3 W3 hc hk (by show 1 ≤ (sC T c 4 (T.2.2 c 4 - 1)).2.2 c 2; rw [e2]; exact hf)
          rw [show (sS (sC T c 4 (T.2.2 c 4 - 1)) 1 (T.1 1 - 1)).2.2 c 1 = T.2.2 c 1 from e1] at m1
          exact ⟨M', m1, m2, fun i hi => (m3 i hi).trans (by rw [u2_ne (by omega)]; exact fr i hi)⟩
      · have hh : hearB T c k = false := by unfold hearB; rw [hu, ht]; simp [z0]
        rw [i2, if_neg (fun q => z0 ((nI_eq (by omega) (by omega)).mp q)), hh]
        exact ⟨_, rfl, c1, fr⟩
end U1
