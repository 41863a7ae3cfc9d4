/-! A TOWN AS NATURALS: scalars (0 convicts, 1 sheets, 2 day, 3 trials), victims (0 truth, 1 used, 2 tried true, 3 tried false), convicts (0 kind, 1 victim, 2 fine, 3 knows, 4 may, 5 counted) -/
abbrev TA : Type := (Nat → Nat) × (Nat → Nat → Nat) × (Nat → Nat → Nat)
def sS (T : TA) (i x : Nat) : TA := (fun j => if j = i then x else T.1 j, T.2)
def sV (T : TA) (v j x : Nat) : TA := (T.1, fun v' j' => if v' = v ∧ j' = j then x else T.2.1 v' j', T.2.2)
def sC (T : TA) (c j x : Nat) : TA := (T.1, T.2.1, fun c' j' => if c' = c ∧ j' = j then x else T.2.2 c' j')
def CT (M : Mem) (b : Nat) (T : TA) : Prop := (∀ j, j < 4 → M.1 b (j + 2) = nI (T.1 j)) ∧ (∀ v, v < 3 → ∀ j, j < 4 → M.1 (b + 3 + v) j = nI (T.2.1 v j)) ∧ (∀ c, c < 4 → ∀ j, j < 6 → M.1 (b + 6 + c) j = nI (T.2.2 c j))
def TrOK (q : Nat → Int32) (T : TA) : Prop := (∀ i, i < T.1 3 → ∃ v k b, v < 3 ∧ k < 6 ∧ b < 2 ∧ q (3 * i) = nI v ∧ q (3 * i + 1) = nI k ∧ q (3 * i + 2) = nI b) ∧ ∀ v, v < 3 → ∀ k, k < 6 → ((T.2.1 v 2).testBit k = true ↔ ∃ i, i < T.1 3 ∧ q (3 * i) = nI v ∧ q (3 * i + 1) = nI k ∧ q (3 * i + 2) = nI 1) ∧ ((T.2.1 v 3).testBit k = true ↔ ∃ i, i < T.1 3 ∧ q (3 * i) = nI v ∧ q (3 * i + 1) = nI k ∧ q (3 * i + 2) = nI 0)
def RTg (N : Mem) (s0 s1 s2 s3 aT aU aR aQ : Nat) (T : TA) : Prop := N.1 0 s0 = nI (T.1 0) ∧ N.1 0 s1 = nI (T.1 1) ∧ N.1 0 s2 = nI (T.1 2) ∧ N.1 0 s3 = nI (T.1 3) ∧ (∀ v, v < 3 → N.1 aT v = nI (T.2.1 v 0)) ∧ (∀ v, v < 3 → N.1 aU v = nI (T.2.1 v 1)) ∧ (∀ c, c < 4 → ∀ j, j < 6 → N.1 aR (6 * c + j) = nI (T.2.2 c j)) ∧ TrOK (N.1 aQ) T
abbrev RT (N : Mem) (T : TA) : Prop := RTg N 8 3 4 13 2 3 4 8 T
abbrev KT (N : Mem) (T : TA) : Prop := RTg N 21 19 20 22 2 12 11 13 T
def Wf (B : Nat) (T : TA) : Prop := T.1 0 ≤ 4 ∧ T.1 1 ≤ 9 ∧ T.1 2 ≤ B ∧ T.1 3 ≤ 8 ∧ (∀ v, v < 3 → ∀ j, j < 4 → T.2.1 v j < 64) ∧ (∀ c, c < 4 → T.2.2 c 0 ≤ 4 ∧ T.2.2 c 1 < 3 ∧ T.2.2 c 2 ≤ 9 ∧ T.2.2 c 3 < 64 ∧ T.2.2 c 4 ≤ 3 ∧ T.2.2 c 5 ≤ B)
theorem CT_of {M M' : Mem} {b : Nat} {T : TA} (hT : CT M b T) (h : ∀ i, b ≤ i → i < b + 10 → M'.1 i = M.1 i) : CT M' b T := by
  obtain ⟨h1, h2, h3⟩ := hT
  refine ⟨fun j hj => ?_, fun v hv j hj => ?_, fun c hc j hj => ?_⟩
  · rw [h b (by omega) (by omega)]; exact h1 j hj
  · rw [h (b + 3 + v) (by omega) (by omega)]; exact h2 v hv j hj
  · rw [h (b + 6 + c) (by omega) (by omega)]; exact h3 c hc j hj
theorem u2_at {M : Mem} {i k j : Nat} {x : Int32} (i' : Nat) : (u2 M i k x).1 i' j = if i' = i ∧ j = k then x else M.1 i' j := by
  by_cases h : i' = i
  · subst h
    rw [u2_self]
    by_cases h2 : j = k
    · subst h2; rw [pk_us, if_pos ⟨rfl, rfl⟩]
    · rw [pk_un h2, if_neg (fun q => h2 q.2)]
  · rw [u2_ne h, if_neg (fun q => h q.1)]
theorem CT_S {M : Mem} {b : Nat} {T : TA} (hT : CT M b T) {i : Nat} (hi : i < 4) (x : Nat) : CT (u2 M b (i + 2) (nI x)) b (sS T i x) := by
  obtain ⟨h1, h2, h3⟩ := hT
  refine ⟨fun j hj => ?_, fun v hv j hj => ?_, fun c hc j hj => ?_⟩
  · rw [u2_at]
    show _ = nI (if j = i then x else T.1 j)
    by_cases h : j = i
    · rw [if_pos ⟨rfl, by omega⟩, if_pos h]
    · rw [if_neg (fun q => h (by omega)), if_neg h]; exact h1 j hj
  · rw [u2_at, if_neg (fun q => by omega)]; exact h2 v hv j hj
  · rw [u2_at, if_neg (fun q => by omega)]; exact h3 c hc j hj
theorem CT_V {M : Mem} {b : Nat} {T : TA} (hT : CT M b T) {v0 i : Nat} (hv0 : v0 < 3) (x : Nat) : CT (u2 M (b + 3 + v0) i (nI x)) b (sV T v0 i x) := by
  obtain ⟨h1, h2, h3⟩ := hT
  refine ⟨fun j hj => ?_, fun v hv j hj => ?_, fun c hc j hj => ?_⟩
  · rw [u2_at, if_neg (fun q => by omega)]; exact h1 j hj
  · rw [u2_at]
    show _ = nI (if v = v0 ∧ j = i then x else T.2.1 v j)
    by_cases h : v = v0 ∧ j = i
    · rw [if_pos ⟨by omega, h.2⟩, if_pos h]
    · rw [if_neg (fun q => h ⟨by omega, q.2⟩), if_neg h]; exact h2 v hv j hj
  · rw [u2_at, if_neg (fun q => by omega)]; exact h3 c hc j hj
theorem CT_C {M : Mem} {b : Nat} {T : TA} (hT : CT M b T) {c0 i : Nat} (hc0 : c0 < 4) (x : Nat) : CT (u2 M (b + 6 + c0) i (nI x)) b (sC T c0 i x) := by
  obtain ⟨h1, h2, h3⟩ := hT
  refine ⟨fun j hj => ?_, fun v hv j hj => ?_, fun c hc j hj => ?_⟩
  · rw [u2_at, if_neg (fun q => by omega)]; exact h1 j hj
  · rw [u2_at, if_neg (fun q => by omega)]; exact h2 v hv j hj
  · rw [u2_at]
    show _ = nI (if c = c0 ∧ j = i then x else T.2.2 c j)
    by_cases h : c = c0 ∧ j = i
    · rw [if_pos ⟨by omega, h.2⟩, if_pos h]
    · rw [if_neg (fun q => h ⟨by omega, q.2⟩), if_neg h]; exact h3 c hc j hj
def adN (k : Nat) : Nat := if k = 4 then 3 else if k = 1 then 2 else 1
def needN (T : TA) (c : Nat) : Nat := if T.2.2 c 0 = 3 ∧ T.2.2 c 2 ≠ 0 then 2 * T.2.2 c 2 - T.2.2 c 5 % 2 else T.2.2 c 2
def tanN (T : TA) (v : Nat) : Nat := T.2.1 v 0 &&& (63 ^^^ T.2.1 v 1)
def leftN (T : TA) (c : Nat) : Nat := T.2.2 c 3 &&& tanN T (T.2.2 c 1)
theorem adN_le (k : Nat) : adN k ≤ 3 := by unfold adN; split <;> (try split) <;> omega
theorem adN_pos (k : Nat) : 1 ≤ adN k := by unfold adN; split <;> (try split) <;> omega
theorem needN_le {B : Nat} {T : TA} (hW : Wf B T) {c : Nat} (hc : c < 4) : needN T c ≤ 18 := by
  have := (hW.2.2.2.2.2 c hc).2.2.1
  unfold needN; split <;> omega
theorem needN_zero {T : TA} {c : Nat} : needN T c = 0 ↔ T.2.2 c 2 = 0 := by
  unfold needN; split <;> omega
theorem tanN_lt {B : Nat} {T : TA} (hW : Wf B T) {v : Nat} (hv : v < 3) : tanN T v < 64 := and64 (hW.2.2.2.2.1 v hv 0 (by omega))
theorem leftN_lt {B : Nat} {T : TA} (hW : Wf B T) {c : Nat} (hc : c < 4) : leftN T c < 64 := and64 (hW.2.2.2.2.2 c hc).2.2.2.1
section EC
variable {B : Nat} {M : Mem} {b : Nat} {T : TA} {F : Nat}
theorem eC_may (hT : CT M b T) (hW : Wf B T) {c : Nat} (hc : c < 4) : f_X0_mayEachDay F (b + 6 + c) M = some (nI (adN (T.2.2 c 0)), M) := by
  have h0 := (hW.2.2.2.2.2 c hc).1
  unfold f_X0_mayEachDay adN
  rw [hT.2.2 c hc 0 (by omega), i4, i1]
  by_cases e : T.2.2 c 0 = 4
  · rw [e, if_pos rfl, if_pos rfl]; rfl
  · rw [if_neg (fun q => e ((nI_eq (by omega) (by omega)).mp q)), if_neg e]
    by_cases e1 : T.2.2 c 0 = 1
    · rw [e1, if_pos rfl, if_pos rfl]; rfl
    · rw [if_neg (fun q => e1 ((nI_eq (by omega) (by omega)).mp q)), if_neg e1]
theorem eC_paid (hT : CT M b T) (hW : Wf B T) {c : Nat} (hc : c < 4) : f_X0_hasPaid F (b + 6 + c) M = some (if T.2.2 c 2 = 0 then 1 else 0, M) := by
  have h0 := (hW.2.2.2.2.2 c hc).2.2.1
  unfold f_X0_hasPaid
  rw [hT.2.2 c hc 2 (by omega)]
  by_cases e : T.2.2 c 2 = 0
  · rw [e]; rfl
  · rw [if_neg (nI_ne0 (by omega) (by omega)), if_neg e]
theorem eC_needs (hB : B ≤ 1000) (hT : CT M b T) (hW : Wf B T) {c : Nat} (hc : c < 4) : f_X0_needs F (b + 6 + c) M = some (nI (needN T c), M) := by
  obtain ⟨w0, w1, w2, w3, w4, w5⟩ := hW.2.2.2.2.2 c hc
  unfold f_X0_needs needN
  rw [hT.2.2 c hc 0 (by omega), i3, bd_of (eC_paid hT hW hc), hT.2.2 c hc 2 (by omega), hT.2.2 c hc 5 (by omega)]
  by_cases e : T.2.2 c 0 = 3
  · rw [e, if_pos rfl]
    by_cases e2 : T.2.2 c 2 = 0
    · rw [if_pos e2, if_neg (by decide), if_neg (fun q => q.2 e2)]
    · rw [if_neg e2, if_pos rfl, if_pos ⟨rfl, e2⟩, i2, pk_rem (by omega) (by omega) (by omega), pk_mul, pk_sub (by omega)]
  · rw [if_neg (fun q => e ((nI_eq (by omega) (by omega)).mp q)), if_neg (fun q => e q.1)]
theorem eC_knows (hT : CT M b T) (hW : Wf B T) {c : Nat} (hc : c < 4) {k : Nat} (hk : k < 6) : f_X0_knowsOf F (b + 6 + c) (nI k) M = some (nI ((T.2.2 c 3).testBit k).toNat, M) := by
  have h0 := (hW.2.2.2.2.2 c hc).2.2.2.1
  unfold f_X0_knowsOf
  rw [hT.2.2 c hc 3 (by omega)]
  cases e : (T.2.2 c 3).testBit k with
  | false => rw [if_pos ((bit_and _ h0 k hk).mpr e)]; rfl
  | true => rw [if_neg (fun q => by have := (bit_and _ h0 k hk).mp q; rw [e] at this; cases this)]; rfl
theorem eC_tan (hT : CT M b T) (hW : Wf B T) {v : Nat} (hv : v < 3) : f_X3_trueAndNew F (b + 3 + v) M = some (nI (tanN T v), M) := by
  unfold f_X3_trueAndNew tanN
  rw [hT.2.1 v hv 0 (by omega), hT.2.1 v hv 1 (by omega), not_nI (hW.2.2.2.2.1 v hv 1 (by omega)) _ (hW.2.2.2.2.1 v hv 0 (by omega))]
theorem eC_left (hT : CT M b T) (hW : Wf B T) {c : Nat} (hc : c < 4) : f_X2_leftTo F b (b + 6 + c) M = some (nI (leftN T c), M) := by
  obtain ⟨w0, w1, w2, w3, w4, w5⟩ := hW.2.2.2.2.2 c hc
  unfold f_X2_leftTo leftN
  rw [hT.2.2 c hc 1 (by omega), gi_nI w1 (by omega), nI_clamp (by omega), bd_of (eC_tan hT hW w1), hT.2.2 c hc 3 (by omega), and_nI]
end EC
section ER
variable {B : Nat} {N : Mem} {T : TA} {F : Nat}
theorem ix6 {c j : Nat} (h : c < 4) (hj : j < 6) : (6 : Int32) * nI c + nI j = nI (6 * c + j) := by rw [i6, pk_mul, nI_add]
theorem ix6_1 {c : Nat} (h : c < 4) : (6 : Int32) * nI c + 1 = nI (6 * c + 1) := ix6 (j := 1) h (by omega)
theorem ix6_2 {c : Nat} (h : c < 4) : (6 : Int32) * nI c + 2 = nI (6 * c + 2) := ix6 (j := 2) h (by omega)
theorem ix6_3 {c : Nat} (h : c < 4) : (6 : Int32) * nI c + 3 = nI (6 * c + 3) := ix6 (j := 3) h (by omega)
theorem ix6_4 {c : Nat} (h : c < 4) : (6 : Int32) * nI c + 4 = nI (6 * c + 4) := ix6 (j := 4) h (by omega)
theorem ix6_5 {c : Nat} (h : c < 4) : (6 : Int32) * nI c + 5 = nI (6 * c + 5) := ix6 (j := 5) h (by omega)
theorem ix6z {c : Nat} : (6 : Int32) * nI c = nI (6 * c) := by rw [i6, pk_mul]
theorem gi6 {α : Type} {c j : Nat} {k : Option α} (h : c < 4) (hj : j < 6) : gi (nI (6 * c + j)) 24 k = k := gi_nI (by omega) (by omega)
theorem gi6z {α : Type} {c : Nat} {k : Option α} (h : c < 4) : gi (nI (6 * c)) 24 k = k := gi_nI (by omega) (by omega)
theorem cl6 {c j : Nat} (h : c < 4) (hj : j < 6) : (nI (6 * c + j)).toNatClampNeg = 6 * c + j := nI_clamp (by omega)
theorem cl6z {c : Nat} (h : c < 4) : (nI (6 * c)).toNatClampNeg = 6 * c + 0 := nI_clamp (by omega)
theorem eR_aDay {k : Nat} (h0 : k ≤ 4) : f_X6_aDay F (nI k) N = some (nI (adN k), N) := by
  unfold f_X6_aDay adN
  rw [i4, i1]
  by_cases e : k = 4
  · subst e; rfl
  · by_cases e1 : k = 1
    · subst e1; rfl
    · rw [if_neg (fun q => e1 ((nI_eq (by omega) (by omega)).mp q)), if_neg e, if_neg (fun q => e ((nI_eq (by omega) (by omega)).mp q)), if_neg e1]
theorem eR_needs (hB : B ≤ 1000) (hT : RT N T) (hW : Wf B T) {c : Nat} (hc : c < 4) : f_X6_needsOf F (nI c) N = some (nI (needN T c), N) := by
  obtain ⟨w0, w1, w2, w3, w4, w5⟩ := hW.2.2.2.2.2 c hc
  have hr := hT.2.2.2.2.2.2.1 c hc
  unfold f_X6_needsOf needN
  rw [ix6_2 hc, ix6_5 hc, i2, i3, ix6z, gi6 hc (by omega), nm_eq, gi6z hc, cl6 hc (by omega), cl6 hc (by omega), cl6z hc, hr 0 (by omega), hr 2 (by omega), hr 5 (by omega)]
  by_cases e : T.2.2 c 0 = 3
  · rw [e, if_pos rfl]
    by_cases e2 : T.2.2 c 2 = 0
    · rw [e2, if_pos (by decide), if_neg (fun q => q.2 rfl)]
    · rw [if_neg (nI_nle (by omega) (by omega)), if_pos ⟨rfl, e2⟩, gi6 hc (by omega), pk_rem (by omega) (by omega) (by omega), pk_mul, pk_sub (by omega)]
  · rw [if_neg (fun q => e ((nI_eq (by omega) (by omega)).mp q)), if_neg (fun q => e q.1)]
theorem eR_left (hT : RT N T) (hW : Wf B T) {c : Nat} (hc : c < 4) : f_X6_leftOf F (nI c) N = some (nI (leftN T c), N) := by
  obtain ⟨w0, w1, w2, w3, w4, w5⟩ := hW.2.2.2.2.2 c hc
  have hr := hT.2.2.2.2.2.2.1 c hc
  unfold f_X6_leftOf leftN tanN
  rw [ix6_1 hc, ix6_3 hc, gi6 hc (by omega), nm_eq, gi6 hc (by omega), cl6 hc (by omega), cl6 hc (by omega), hr 1 (by omega), hr 3 (by omega), gi_nI w1 (by omega), gi_nI w1 (by omega), nI_clamp (by omega), hT.2.2.2.2.1 _ w1, hT.2.2.2.2.2.1 _ w1, and_nI, not_nI (hW.2.2.2.2.1 _ w1 1 (by omega)) _ (and64 w3), Nat.and_assoc]
theorem eR_knows (hT : RT N T) (hW : Wf B T) {c : Nat} (hc : c < 4) {k : Nat} (hk : k < 6) : f_X6_knows F (nI c) (nI k) N = some (nI ((T.2.2 c 3).testBit k).toNat, N) := by
  have h0 := (hW.2.2.2.2.2 c hc).2.2.2.1
  have hr := hT.2.2.2.2.2.2.1 c hc
  unfold f_X6_knows
  rw [ix6_3 hc, gi6 hc (by omega), cl6 hc (by omega), hr 3 (by omega), bit_shr _ h0 k hk]
  cases e : (T.2.2 c 3).testBit k <;> rfl
end ER
