/-! DAYS, FIND, what about() tells -/
def dyN (nd ad : Nat) : Nat → Nat → Nat → Nat
  | 0, d, _ => d
  | e + 1, d, can => if nd ≤ can then d else dyN nd ad e (d + 1) (can + ad)
def dayE (T : TA) (c : Nat) : Int32 := if T.2.2 c 2 = 0 then 0 else if needN T c ≤ pc (leftN T c) then nI (dyN (needN T c) (adN (T.2.2 c 0)) 6 1 (T.2.2 c 4)) else mI 1
def fdE (T : TA) (c : Nat) : Int32 := if pc (leftN T c) < needN T c then (if needN T c - pc (leftN T c) ≤ pc (tanN T (T.2.2 c 1) &&& (63 ^^^ T.2.2 c 3)) then nI (needN T c - pc (leftN T c)) else mI 1) else 0
theorem nI_subneg {a b : Nat} (h : a ≤ b) (hb : b < 2 ^ 30) : ¬ 0 < nI a - nI b := by
  rw [Int32.lt_iff_toInt_lt, pk_sub_toInt (by omega) hb, show (0 : Int32).toInt = 0 from by decide]
  omega
section S2
variable {B : Nat} {M N : Mem} {b : Nat} {T : TA} {F : Nat}
theorem lC_days (hT : CT M b T) (hW : Wf B T) {c : Nat} (hc : c < 4) {nd : Nat} (hnd : nd ≤ 18) : ∀ e d can n, d + e = 7 → can ≤ 3 * d → nd ≤ can + e → e < n → LX2_daysFor_36 F n (b + 6 + c) (nI nd) (nI d) (nI can) M = some (nI (dyN nd (adN (T.2.2 c 0)) e d can), M) := by
  intro e
  induction e with
  | zero =>
    intro d can n h1 h2 h3 hn
    obtain ⟨n, rfl⟩ : ∃ k, n = k + 1 := ⟨n - 1, by omega⟩
    rw [LX2_daysFor_36_s, if_pos (nI_le (by omega) (by omega))]; rfl
  | succ e ih =>
    intro d can n h1 h2 h3 hn
    obtain ⟨n, rfl⟩ : ∃ k, n = k + 1 := ⟨n - 1, by omega⟩
    have ha := adN_le (T.2.2 c 0)
    have hp := adN_pos (T.2.2 c 0)
    rw [LX2_daysFor_36_s]
    by_cases q : nd ≤ can
    · rw [if_pos (nI_le q (by omega)), show dyN nd (adN (T.2.2 c 0)) (e + 1) d can = d from if_pos q]
    · rw [if_neg (nI_ge (by omega) (by omega)), i6, if_neg (nI_nlt (by omega) (by omega)), bd_of (eC_may hT hW hc), nm_eq, nm_eq, nI_add, nI_1, show dyN nd (adN (T.2.2 c 0)) (e + 1) d can = dyN nd (adN (T.2.2 c 0)) e (d + 1) (can + adN (T.2.2 c 0)) from if_neg q]
      exact ih (d + 1) (can + adN (T.2.2 c 0)) n (by omega) (by omega) (by omega) (by omega)
theorem eC_days (hF : 100 ≤ F) (hB : B ≤ 1000) (hT : CT M b T) (hW : Wf B T) {c : Nat} (hc : c < 4) : f_X2_daysFor F b (b + 6 + c) M = some (dayE T c, M) := by
  obtain ⟨w0, w1, w2, w3, w4, w5⟩ := hW.2.2.2.2.2 c hc
  have hl := leftN_lt hW hc
  have hp := pc_le _ hl
  have hn := needN_le hW hc
  unfold f_X2_daysFor dayE
  rw [bd_of (eC_paid hT hW hc)]
  by_cases e : T.2.2 c 2 = 0
  · rw [if_pos e, if_neg (by decide), if_pos e]
  · rw [if_neg e, if_pos rfl, if_neg e, bd_of (eC_needs hB hT hW hc), bd_of (eC_left hT hW hc), bd_of (e_bitCount F hl M)]
    by_cases q : needN T c ≤ pc (leftN T c)
    · rw [if_pos (nI_le q (by omega)), if_pos q, nm_eq, hT.2.2 c hc 4 (by omega), i1]
      exact lC_days hT hW hc hn 6 1 (T.2.2 c 4) F (by omega) (by omega) (by omega) (by omega)
    · rw [if_neg (nI_ge (by omega) (by omega)), if_neg q]
theorem eC_find (hB : B ≤ 1000) (hT : CT M b T) (hW : Wf B T) {c : Nat} (hc : c < 4) : f_X2_findFor F b (b + 6 + c) M = some (fdE T c, M) := by
  obtain ⟨w0, w1, w2, w3, w4, w5⟩ := hW.2.2.2.2.2 c hc
  have hl := leftN_lt hW hc
  have hp := pc_le _ hl
  have hn := needN_le hW hc
  have ht : tanN T (T.2.2 c 1) &&& (63 ^^^ T.2.2 c 3) < 64 := and64 (tanN_lt hW w1)
  have hp2 := pc_le _ ht
  unfold f_X2_findFor fdE
  rw [bd_of (eC_needs hB hT hW hc), bd_of (eC_left hT hW hc), bd_of (e_bitCount F hl M), nm_eq]
  by_cases q : pc (leftN T c) < needN T c
  · rw [if_pos q, pk_sub (by omega), if_pos (show (0 : Int32) < nI (needN T c - pc (leftN T c)) from nI_lt (a := 0) (by omega) (by omega)), hT.2.2 c hc 1 (by omega), gi_nI w1 (by omega), nI_clamp (by omega), bd_of (eC_tan hT hW w1), hT.2.2 c hc 3 (by omega), nm_eq, not_nI w3 _ (tanN_lt hW w1), bd_of (e_bitCount F ht M)]
    by_cases z : needN T c - pc (leftN T c) ≤ pc (tanN T (T.2.2 c 1) &&& (63 ^^^ T.2.2 c 3))
    · rw [if_neg (nI_nlt z (by omega)), if_pos z]
    · rw [if_pos (nI_lt (by omega) (by omega)), if_neg z]
  · rw [if_neg q, if_neg (nI_subneg (by omega) (by omega))]
theorem lR_days (hT : RT N T) (hW : Wf B T) {c : Nat} (hc : c < 4) {nd : Nat} (hnd : nd ≤ 18) : ∀ e d can n, d + e = 7 → can ≤ 3 * d → nd ≤ can + e → e < n → LX6_daysOf_47 F n (nI c) (nI nd) (nI d) (nI can) N = some (nI (dyN nd (adN (T.2.2 c 0)) e d can), N) := by
  intro e
  induction e with
  | zero =>
    intro d can n h1 h2 h3 hn
    obtain ⟨n, rfl⟩ : ∃ k, n = k + 1 := ⟨n - 1, by omega⟩
    rw [LX6_daysOf_47_s, if_pos (nI_le (by omega) (by omega))]; rfl
  | succ e ih =>
    intro d can n h1 h2 h3 hn
    obtain ⟨n, rfl⟩ : ∃ k, n = k + 1 := ⟨n - 1, by omega⟩
    have ha := adN_le (T.2.2 c 0)
    have hp := adN_pos (T.2.2 c 0)
    rw [LX6_daysOf_47_s]
    by_cases q : nd ≤ can
    · rw [if_pos (nI_le q (by omega)), show dyN nd (adN (T.2.2 c 0)) (e + 1) d can = d from if_pos q]
    · rw [if_neg (nI_ge (by omega) (by omega)), ix6z, gi6z hc, cl6z hc, hT.2.2.2.2.2.2.1 c hc 0 (by omega), bd_of (eR_aDay (hW.2.2.2.2.2 c hc).1), nm_eq, nm_eq, nI_add, nI_1, show dyN nd (adN (T.2.2 c 0)) (e + 1) d can = dyN nd (adN (T.2.2 c 0)) e (d + 1) (can + adN (T.2.2 c 0)) from if_neg q]
      exact ih (d + 1) (can + adN (T.2.2 c 0)) n (by omega) (by omega) (by omega) (by omega)
theorem eR_days (hF : 100 ≤ F) (hB : B ≤ 1000) (hT : RT N T) (hW : Wf B T) {c : Nat} (hc : c < 4) : f_X6_daysOf F (nI c) N = some (dayE T c, N) := by
  obtain ⟨w0, w1, w2, w3, w4, w5⟩ := hW.2.2.2.2.2 c hc
  have hl := leftN_lt hW hc
  have hp := pc_le _ hl
  have hn := needN_le hW hc
  unfold f_X6_daysOf dayE
  rw [bd_of (eR_needs hB hT hW hc)]
  by_cases e : T.2.2 c 2 = 0
  · rw [needN_zero.mpr e, if_pos nI_0, if_pos nI_0, if_pos e]
  · have e2 : needN T c ≠ 0 := fun q => e (needN_zero.mp q)
    rw [if_neg (nI_ne0 (by omega) (by omega)), if_neg e, bd_of (eR_left hT hW hc), bd_of (e_ones hF hl N)]
    by_cases q : needN T c ≤ pc (leftN T c)
    · rw [if_pos (nI_le q (by omega)), if_pos q, ix6_4 hc, gi6 hc (by omega), nm_eq, cl6 hc (by omega), hT.2.2.2.2.2.2.1 c hc 4 (by omega), i1]
      exact lR_days hT hW hc hn 6 1 (T.2.2 c 4) F (by omega) (by omega) (by omega) (by omega)
    · rw [if_neg (nI_ge (by omega) (by omega)), if_neg (nI_ne0 (by omega) (by omega)), if_neg q]
theorem eR_find (hF : 100 ≤ F) (hB : B ≤ 1000) (hT : RT N T) (hW : Wf B T) {c : Nat} (hc : c < 4) : f_X6_findOf F (nI c) N = some (fdE T c, N) := by
  obtain ⟨w0, w1, w2, w3, w4, w5⟩ := hW.2.2.2.2.2 c hc
  have hl := leftN_lt hW hc
  have hp := pc_le _ hl
  have hn := needN_le hW hc
  have ht : tanN T (T.2.2 c 1) &&& (63 ^^^ T.2.2 c 3) < 64 := and64 (tanN_lt hW w1)
  have hp2 := pc_le _ ht
  have hr := hT.2.2.2.2.2.2.1 c hc
  unfold f_X6_findOf fdE
  rw [ix6_1 hc, ix6_3 hc, gi6 hc (by omega), nm_eq, cl6 hc (by omega), hr 1 (by omega), bd_of (eR_needs hB hT hW hc), bd_of (eR_left hT hW hc), bd_of (e_ones hF hl N), nm_eq, gi_nI w1 (by omega), gi_nI w1 (by omega), gi6 hc (by omega), cl6 hc (by omega), hr 3 (by omega), nI_clamp (by omega), hT.2.2.2.2.1 _ w1, hT.2.2.2.2.2.1 _ w1, not_nI (hW.2.2.2.2.1 _ w1 1 (by omega)) _ (hW.2.2.2.2.1 _ w1 0 (by omega)), not_nI w3 _ (and64 (hW.2.2.2.2.1 _ w1 0 (by omega)))]
  rw [show T.2.1 (T.2.2 c 1) 0 &&& (63 ^^^ T.2.1 (T.2.2 c 1) 1) = tanN T (T.2.2 c 1) from rfl, bd_of (e_ones hF ht N)]
  by_cases q : pc (leftN T c) < needN T c
  · rw [if_pos q, pk_sub (by omega), if_pos (show (0 : Int32) < nI (needN T c - pc (leftN T c)) from nI_lt (a := 0) (by omega) (by omega))]
    by_cases z : needN T c - pc (leftN T c) ≤ pc (tanN T (T.2.2 c 1) &&& (63 ^^^ T.2.2 c 3))
    · rw [if_pos (nI_le z (by omega)), if_pos z]
    · rw [if_neg (nI_ge (by omega) (by omega)), if_neg z]
  · rw [if_neg q, if_neg (nI_subneg (by omega) (by omega))]
/-- about(c, a), for a convict -/
def abE (T : TA) (c : Nat) (a : Int32) : Int32 := if a = 0 then nI (T.2.2 c 0) else if a = 1 then nI (T.2.2 c 1) else if a = 2 then nI (T.2.2 c 2) else if a = 3 then nI (T.2.2 c 3) else if a = 4 then nI (leftN T c) else if a = 5 then nI (T.2.2 c 4) else if a = 6 then nI (T.2.2 c 5) else if a = 7 then dayE T c else if a = 8 then fdE T c else mI 102
theorem eR_tell (hF : 100 ≤ F) (hB : B ≤ 1000) (hT : RT N T) (hW : Wf B T) {c : Nat} (hc : c < 4) (a : Int32) : f_X6_tell F (nI c) a N = some (abE T c a, N) := by
  have hr := hT.2.2.2.2.2.2.1 c hc
  unfold f_X6_tell abE
  by_cases e0 : a = 0
  · subst e0
    rw [if_pos rfl, if_pos rfl, show (6 : Int32) * nI c + 0 = nI (6 * c + 0) from ix6 (j := 0) hc (by omega), gi6 hc (by omega), cl6 hc (by omega), hr 0 (by omega)]
  rw [if_neg e0, if_neg e0]
  by_cases e1 : a = 1
  · subst e1
    rw [if_pos rfl, if_pos rfl, ix6_1 hc, gi6 hc (by omega), cl6 hc (by omega), hr 1 (by omega)]
  rw [if_neg e1, if_neg e1]
  by_cases e2 : a = 2
  · subst e2
    rw [if_pos rfl, if_pos rfl, ix6_2 hc, gi6 hc (by omega), cl6 hc (by omega), hr 2 (by omega)]
  rw [if_neg e2, if_neg e2]
  by_cases e3 : a = 3
  · subst e3
    rw [if_pos rfl, if_pos rfl, ix6_3 hc, gi6 hc (by omega), cl6 hc (by omega), hr 3 (by omega)]
  rw [if_neg e3, if_neg e3]
  by_cases e4 : a = 4
  · rw [if_pos e4, if_pos e4, bd_of (eR_left hT hW hc)]
  rw [if_neg e4, if_neg e4]
  by_cases e5 : a = 5
  · subst e5
    rw [if_pos rfl, if_pos rfl, ix6_5 hc, i1, pk_sub (by omega), show 6 * c + 5 - 1 = 6 * c + 4 from rfl, gi6 hc (by omega), cl6 hc (by omega), hr 4 (by omega)]
  rw [if_neg e5, if_neg e5]
  by_cases e6 : a = 6
  · subst e6
    rw [if_pos rfl, if_pos rfl, ix6z, i6, nI_add, i1, pk_sub (by omega), show 6 * c + 6 - 1 = 6 * c + 5 from rfl, gi6 hc (by omega), cl6 hc (by omega), hr 5 (by omega)]
  rw [if_neg e6, if_neg e6]
  by_cases e7 : a = 7
  · rw [if_pos e7, if_pos e7, bd_of (eR_days hF hB hT hW hc)]
  rw [if_neg e7, if_neg e7]
  by_cases e8 : a = 8
  · rw [if_pos e8, if_pos e8, bd_of (eR_find hF hB hT hW hc)]
  rw [if_neg e8, if_neg e8]
/-- a switch of the class: a below 0, or above hi, is told first -/
theorem sw_lo {a : Int32} (h : a < 0) (k : Nat) (hk : k < 2 ^ 31) : ¬ a = nI k := fun e => by
  subst e; exact nI_pos hk h
theorem sw_hi {a : Int32} {n : Nat} (h : ¬ a ≤ nI n) (hn : n < 2 ^ 31) (k : Nat) (hk : k ≤ n) : ¬ a = nI k := fun e => by
  subst e; exact h (nI_le hk hn)
theorem sw_in {a : Int32} {n : Nat} (h0 : ¬ a < 0) (h : a ≤ nI n) (hn : n < 2 ^ 31) : ∃ k, k ≤ n ∧ a = nI k := by
  obtain ⟨j, hj, rfl⟩ := nI_of h0
  exact ⟨j, (nI_leI hj hn).mp h, rfl⟩
theorem eC_about (hF : 100 ≤ F) (hB : B ≤ 1000) (hT : CT M 6 T) (hW : Wf B T) {c : Nat} (hc : c < T.1 0) (a : Int32) : f_X5_about F (nI c) a M = some (abE T c a, M) := by
  have h4 := hW.1
  have hc4 : c < 4 := by omega
  have hr := hT.2.2 c hc4
  unfold f_X5_about f_X5_isConvict
  rw [CT_cc hT, if_neg (nI_pos (by omega)), if_neg (nI_ge hc (by omega)), bd_some, if_neg (by decide)]
  unfold abE
  by_cases h0 : a < 0
  · rw [if_pos h0, if_neg (show ¬ a = 0 from sw_lo h0 0 (by omega)), if_neg (show ¬ a = 1 from sw_lo h0 1 (by omega)), if_neg (show ¬ a = 2 from sw_lo h0 2 (by omega)), if_neg (show ¬ a = 3 from sw_lo h0 3 (by omega)), if_neg (show ¬ a = 4 from sw_lo h0 4 (by omega)), if_neg (show ¬ a = 5 from sw_lo h0 5 (by omega)), if_neg (show ¬ a = 6 from sw_lo h0 6 (by omega)), if_neg (show ¬ a = 7 from sw_lo h0 7 (by omega)), if_neg (show ¬ a = 8 from sw_lo h0 8 (by omega))]
  rw [if_neg h0]
  by_cases h8 : a ≤ 8
  · rw [if_pos h8, gi_nI hc4 (by omega), nI_clamp (by omega)]
    obtain ⟨k, hk, rfl⟩ := sw_in (n := 8) h0 h8 (by omega)
    rcases (show k = 0 ∨ k = 1 ∨ k = 2 ∨ k = 3 ∨ k = 4 ∨ k = 5 ∨ k = 6 ∨ k = 7 ∨ k = 8 by omega) with rfl | rfl | rfl | rfl | rfl | rfl | rfl | rfl | rfl
    · rw [if_pos (by decide), if_pos (by decide), hr 0 (by omega)]
    · rw [if_neg (by decide), if_pos (by decide), if_neg (by decide), if_pos (by decide), hr 1 (by omega)]
    · rw [if_neg (by decide), if_neg (by decide), if_pos (by decide), if_neg (by decide), if_neg (by decide), if_pos (by decide), hr 2 (by omega)]
    · rw [if_neg (by decide), if_neg (by decide), if_neg (by decide), if_pos (by decide), if_neg (by decide), if_neg (by decide), if_neg (by decide), if_pos (by decide), hr 3 (by omega)]
    · rw [if_neg (by decide), if_neg (by decide), if_neg (by decide), if_neg (by decide), if_pos (by decide), if_neg (by decide), if_neg (by decide), if_neg (by decide), if_neg (by decide), if_pos (by decide), bd_of (eC_left hT hW hc4)]
    · rw [if_neg (by decide), if_neg (by decide), if_neg (by decide), if_neg (by decide), if_neg (by decide), if_pos (by decide), if_neg (by decide), if_neg (by decide), if_neg (by decide), if_neg (by decide), if_neg (by decide), if_pos (by decide), hr 4 (by omega)]
    · rw [if_neg (by decide), if_neg (by decide), if_neg (by decide), if_neg (by decide), if_neg (by decide), if_neg (by decide), if_pos (by decide), if_neg (by decide), if_neg (by decide), if_neg (by decide), if_neg (by decide), if_neg (by decide), if_neg (by decide), if_pos (by decide), hr 5 (by omega)]
    · rw [if_neg (by decide), if_neg (by decide), if_neg (by decide), if_neg (by decide), if_neg (by decide), if_neg (by decide), if_neg (by decide), if_pos (by decide), if_neg (by decide), if_neg (by decide), if_neg (by decide), if_neg (by decide), if_neg (by decide), if_neg (by decide), if_neg (by decide), if_pos (by decide), bd_of (eC_days hF hB hT hW hc4)]
    · rw [if_neg (by decide), if_neg (by decide), if_neg (by decide), if_neg (by decide), if_neg (by decide), if_neg (by decide), if_neg (by decide), if_neg (by decide), if_neg (by decide), if_neg (by decide), if_neg (by decide), if_neg (by decide), if_neg (by decide), if_neg (by decide), if_neg (by decide), if_neg (by decide), if_pos (by decide), bd_of (eC_find hB hT hW hc4)]
  · rw [if_neg h8, if_neg (show ¬ a = 0 from sw_hi (n := 8) h8 (by omega) 0 (by omega)), if_neg (show ¬ a = 1 from sw_hi (n := 8) h8 (by omega) 1 (by omega)), if_neg (show ¬ a = 2 from sw_hi (n := 8) h8 (by omega) 2 (by omega)), if_neg (show ¬ a = 3 from sw_hi (n := 8) h8 (by omega) 3 (by omega)), if_neg (show ¬ a = 4 from sw_hi (n := 8) h8 (by omega) 4 (by omega)), if_neg (show ¬ a = 5 from sw_hi (n := 8) h8 (by omega) 5 (by omega)), if_neg (show ¬ a = 6 from sw_hi (n := 8) h8 (by omega) 6 (by omega)), if_neg (show ¬ a = 7 from sw_hi (n := 8) h8 (by omega) 7 (by omega)), if_neg (show ¬ a = 8 from sw_hi (n := 8) h8 (by omega) 8 (by omega))]
end S2
