/-! TRUTHS and TRY -/
def okS (t f s : Nat) : Bool := t &&& s == t && f &&& s == 0
def cnt (t f : Nat) : Nat → Nat
  | 0 => 0
  | n + 1 => cnt t f n + (okS t f n).toNat
def cN (t f : Nat) : Nat := if t &&& f = 0 then 2 ^ (6 - pc (t ||| f)) else 0
def stM (t f : Nat) : Nat → Nat
  | 0 => 0
  | d + 1 => stM t f d + (okS t f (63 - d)).toNat
def stL (t f : Nat) : Nat → Int32
  | 0 => mI 1
  | d + 1 => if okS t f (63 - d) then nI (63 - d) else stL t f d
def stA (t f : Nat) : Nat → Nat
  | 0 => 63
  | d + 1 => if okS t f (63 - d) then stA t f d &&& (63 - d) else stA t f d
def stP (t f : Nat) : Bool := stM t f 64 == cN t f && (if cN t f = 0 then stL t f 64 == mI 1 else (stL t f 64 == nI t && stA t f 64 == t)) && cnt t f 64 == cN t f
theorem stP_0 : ∀ t, t < 8 → ∀ f, f < 64 → stP (0 + t) f = true := by decide +kernel
theorem stP_1 : ∀ t, t < 8 → ∀ f, f < 64 → stP (8 + t) f = true := by decide +kernel
theorem stP_2 : ∀ t, t < 8 → ∀ f, f < 64 → stP (16 + t) f = true := by decide +kernel
theorem stP_3 : ∀ t, t < 8 → ∀ f, f < 64 → stP (24 + t) f = true := by decide +kernel
theorem stP_4 : ∀ t, t < 8 → ∀ f, f < 64 → stP (32 + t) f = true := by decide +kernel
theorem stP_5 : ∀ t, t < 8 → ∀ f, f < 64 → stP (40 + t) f = true := by decide +kernel
theorem stP_6 : ∀ t, t < 8 → ∀ f, f < 64 → stP (48 + t) f = true := by decide +kernel
theorem stP_7 : ∀ t, t < 8 → ∀ f, f < 64 → stP (56 + t) f = true := by decide +kernel
theorem stP_all (t f : Nat) (ht : t < 64) (hf : f < 64) : stP t f = true := by
  rcases (show t < 8 ∨ (8 ≤ t ∧ t < 16) ∨ (16 ≤ t ∧ t < 24) ∨ (24 ≤ t ∧ t < 32) ∨ (32 ≤ t ∧ t < 40) ∨ (40 ≤ t ∧ t < 48) ∨ (48 ≤ t ∧ t < 56) ∨ 56 ≤ t by omega) with h | h | h | h | h | h | h | h
  · have := stP_0 (t - 0) (by omega) f hf
    rwa [show 0 + (t - 0) = t by omega] at this
  · have := stP_1 (t - 8) (by omega) f hf
    rwa [show 8 + (t - 8) = t by omega] at this
  · have := stP_2 (t - 16) (by omega) f hf
    rwa [show 16 + (t - 16) = t by omega] at this
  · have := stP_3 (t - 24) (by omega) f hf
    rwa [show 24 + (t - 24) = t by omega] at this
  · have := stP_4 (t - 32) (by omega) f hf
    rwa [show 32 + (t - 32) = t by omega] at this
  · have := stP_5 (t - 40) (by omega) f hf
    rwa [show 40 + (t - 40) = t by omega] at this
  · have := stP_6 (t - 48) (by omega) f hf
    rwa [show 48 + (t - 48) = t by omega] at this
  · have := stP_7 (t - 56) (by omega) f hf
    rwa [show 56 + (t - 56) = t by omega] at this
theorem st_many {t f : Nat} (ht : t < 64) (hf : f < 64) : stM t f 64 = cN t f := by
  have := stP_all t f ht hf
  simp only [stP, Bool.and_eq_true, beq_iff_eq] at this
  exact this.1.1
theorem cnt_cN {t f : Nat} (ht : t < 64) (hf : f < 64) : cnt t f 64 = cN t f := by
  have := stP_all t f ht hf
  simp only [stP, Bool.and_eq_true, beq_iff_eq] at this
  exact this.2
theorem st_none {t f : Nat} (ht : t < 64) (hf : f < 64) (h : cN t f = 0) : stL t f 64 = mI 1 := by
  have := stP_all t f ht hf
  simp only [stP, Bool.and_eq_true, beq_iff_eq, h, if_true] at this
  exact this.1.2
theorem st_some {t f : Nat} (ht : t < 64) (hf : f < 64) (h : ¬ cN t f = 0) : stL t f 64 = nI t ∧ stA t f 64 = t := by
  have := stP_all t f ht hf
  simp only [stP, Bool.and_eq_true, beq_iff_eq, h, if_false] at this
  exact this.1.2
theorem cN_le : ∀ t, t < 64 → ∀ f, f < 64 → cN t f ≤ 64 := by decide +kernel
theorem okT_or : ∀ t, t < 64 → ∀ s, s < 64 → ∀ k, k < 6 → ((t ||| 2 ^ k) &&& s == (t ||| 2 ^ k)) = ((t &&& s == t) && s.testBit k) := by decide +kernel
theorem okF_or : ∀ f, f < 64 → ∀ s, s < 64 → ∀ k, k < 6 → ((f ||| 2 ^ k) &&& s == 0) = ((f &&& s == 0) && !s.testBit k) := by decide +kernel
def ftN (u : Nat) : Nat → Nat → Nat
  | 0, _ => 0
  | d + 1, k => if u.testBit k then ftN u d (k + 1) else k
def tryE (t f : Nat) : Int32 := if cN t f = 0 then mI 1 else nI (ftN (t ||| f) 6 0)
def wsN (t f k : Nat) : Nat := if cN (t ||| 2 ^ k) f ≤ cN t (f ||| 2 ^ k) then cN t (f ||| 2 ^ k) else cN (t ||| 2 ^ k) f
def atL (t f : Nat) : Nat → Nat → Int32 → Nat → Int32
  | 0, _, best, _ => best
  | d + 1, k, best, least => atL t f d (k + 1) (if 0 < wsN t f k ∧ wsN t f k < least then nI k else best) (if wsN t f k < least then wsN t f k else least)
theorem atL_try : ∀ t, t < 64 → ∀ f, f < 64 → atL t f 6 0 (mI 1) 65 = tryE t f := by decide +kernel
