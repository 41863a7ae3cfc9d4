/-! DIGEST -/
def hs (g : Nat → Int32) : Nat → Nat → Int64 → Int64
  | 0, _, h => h
  | d + 1, k, h => hs g d (k + 1) ((31 : Int64) * h + (g k).toInt64)
def hcs (T : TA) : Nat → Nat → Int64 → Int64
  | 0, _, h => h
  | d + 1, c, h => hcs T d (c + 1) (hs (fun k => abE T c (nI k)) 9 0 h)
def frH (N N' : Mem) : Prop := ∀ i, i ≠ 5 → i ≠ 6 → i ≠ 7 → N'.1 i = N.1 i
def SpL (B : Nat) (fC fR : Mem → Option (Int64 × Mem)) : Prop := ∀ M N, Rel B M N → ∃ r M' N', fC M = some (r, M') ∧ fR N = some (r, N') ∧ Rel (B + 1) M' N'
section DI
variable {B : Nat} {M N : Mem} {T : TA} {F v : Nat}
theorem e_note {x h : Int64} : f_X6_note F x (uh N h) = some ((), uh N ((31 : Int64) * h + x)) := rfl
theorem e_with {h : Int64} {x : Int32} : f_X5_with F h x M = some ((31 : Int64) * h + x.toInt64, M) := rfl
theorem RT_h {h : Int64} (hT : RT N T) : RT (uh N h) T := hT
theorem RT_H {N' : Mem} (h : RT N T) (f : frH N N') : RT N' T := RTg_of h (by rw [f 0 (by omega) (by omega) (by omega)]) (by rw [f 0 (by omega) (by omega) (by omega)]) (by rw [f 0 (by omega) (by omega) (by omega)]) (by rw [f 0 (by omega) (by omega) (by omega)]) (f 2 (by omega) (by omega) (by omega)) (f 3 (by omega) (by omega) (by omega)) (f 4 (by omega) (by omega) (by omega)) (f 8 (by omega) (by omega) (by omega))
theorem frH.tr {N1 N2 : Mem} (h1 : frH N N1) (h2 : frH N1 N2) : frH N N2 := fun i a b c => (h2 i a b c).trans (h1 i a b c)
/-! the counts -/
theorem lC_130 (hF : 100 ≤ F) (hT : CT M 6 T) (hW : Wf B T) {n tn : Nat} (hn : M.1 0 1 = nI n) (ht : M.1 0 8 = nI tn) : ∀ d k nC h, k + d = 10 → d < nC → LX5_digest_130 F nC h (nI k) M = some (hs (fun k => coE T n tn (nI k)) d k h, M) := by
  intro d
  induction d with
  | zero =>
    intro k nC h hk hn
    obtain ⟨nC, rfl⟩ : ∃ k, nC = k + 1 := ⟨nC - 1, by omega⟩
    rw [LX5_digest_130_s, if_pos (show (9 : Int32) < nI k from nI_lt (a := 9) (by omega) (by omega))]; rfl
  | succ d ih =>
    intro k nC h hk hn
    obtain ⟨nC, rfl⟩ : ∃ k, nC = k + 1 := ⟨nC - 1, by omega⟩
    rw [LX5_digest_130_s, if_neg (show ¬ (9 : Int32) < nI k from nI_nlt (a := 9) (by omega) (by omega)), bd_of (eC_count' hF hT hW ‹_› ht _), bd_of e_with, nm_eq, nI_1]
    exact ih (k + 1) nC _ (by omega) (by omega)
theorem lR_137 (hF : 100 ≤ F) (hT : RT N T) (hW : Wf B T) {n tn : Nat} (hn : N.1 0 1 = nI n) (ht : N.1 0 5 = nI tn) : ∀ d k nC h, k + d = 10 → d < nC → LX6_digest_137 F nC (nI k) (uh N h) = some (hs (fun k => coE T n tn (nI k)) d k h, uh N (hs (fun k => coE T n tn (nI k)) d k h)) := by
  intro d
  induction d with
  | zero =>
    intro k nC h hk hn
    obtain ⟨nC, rfl⟩ : ∃ k, nC = k + 1 := ⟨nC - 1, by omega⟩
    rw [LX6_digest_137_s, if_pos (show (10 : Int32) ≤ nI k from nI_le (a := 10) (by omega) (by omega))]; rfl
  | succ d ih =>
    intro k nC h hk hn'
    obtain ⟨nC, rfl⟩ : ∃ k, nC = k + 1 := ⟨nC - 1, by omega⟩
    rw [LX6_digest_137_s, if_neg (show ¬ (10 : Int32) ≤ nI k from nI_ge (b := 10) (by omega) (by omega)), bd_of (eR_countOf (N := uh N h) (n := n) (tn := tn) hF (RT_h hT) hW hn ht _), bd_of e_note, nm_eq, nI_1]
    exact ih (k + 1) nC _ (by omega) (by omega)
/-! the page -/
theorem lC_103 {n : Nat} {pg : Nat → Nat} (hP : PgR n pg M N) : ∀ d k nC h, k + d = n → d < nC → LX5_digest_103 F nC h (nI k) M = LX5_digest_130 F F (hs (fun k => nI (pg k)) d k h) 0 M := by
  have h12 := hP.2.2.1
  intro d
  induction d with
  | zero =>
    intro k nC h hk hn
    obtain ⟨nC, rfl⟩ : ∃ k, nC = k + 1 := ⟨nC - 1, by omega⟩
    rw [LX5_digest_103_s, hP.1, if_pos (nI_le (by omega) (by omega))]; rfl
  | succ d ih =>
    intro k nC h hk hn
    obtain ⟨nC, rfl⟩ : ∃ k, nC = k + 1 := ⟨nC - 1, by omega⟩
    rw [LX5_digest_103_s, hP.1, if_neg (nI_ge (by omega) (by omega)), gi_nI (by omega) (by omega), nI_clamp (by omega), (hP.2.2.2 k (by omega)).1, bd_of e_with, nm_eq, nI_1]
    exact ih (k + 1) nC _ (by omega) (by omega)
theorem lR_110 {n : Nat} {pg : Nat → Nat} (hP : PgR n pg M N) : ∀ d k nC h, k + d = n → d < nC → LX6_digest_110 F nC (nI k) (uh N h) = LX6_digest_137 F F 0 (uh N (hs (fun k => nI (pg k)) d k h)) := by
  have h12 := hP.2.2.1
  intro d
  induction d with
  | zero =>
    intro k nC h hk hn
    obtain ⟨nC, rfl⟩ : ∃ k, nC = k + 1 := ⟨nC - 1, by omega⟩
    rw [LX6_digest_110_s, show (uh N h).1 0 1 = nI n from hP.2.1, if_pos (nI_le (by omega) (by omega))]; rfl
  | succ d ih =>
    intro k nC h hk hn
    obtain ⟨nC, rfl⟩ : ∃ k, nC = k + 1 := ⟨nC - 1, by omega⟩
    rw [LX6_digest_110_s, show (uh N h).1 0 1 = nI n from hP.2.1, if_neg (nI_ge (by omega) (by omega)), gi_nI (by omega) (by omega), nI_clamp (by omega), show (uh N h).1 1 k = nI (pg k) from (hP.2.2.2 k (by omega)).2.1, bd_of e_note, nm_eq, nI_1]
    exact ih (k + 1) nC _ (by omega) (by omega)
/-! the convicts -/
theorem lC_70 (hF : 100 ≤ F) (hB : B ≤ 1000) (hT : CT M 6 T) (hW : Wf B T) (q : Int64 → Int32 → Mem → Option (Int64 × Mem)) {c : Nat} (hc : c < T.1 0) : ∀ d k nC h, k + d = 9 → d < nC → LX5_digest_70 F q nC h (nI c) (nI k) M = q (hs (fun k => abE T c (nI k)) d k h) (nI c) M := by
  intro d
  induction d with
  | zero =>
    intro k nC h hk hn
    obtain ⟨nC, rfl⟩ : ∃ k, nC = k + 1 := ⟨nC - 1, by omega⟩
    rw [LX5_digest_70_s, if_pos (show (8 : Int32) < nI k from nI_lt (a := 8) (by omega) (by omega))]; rfl
  | succ d ih =>
    intro k nC h hk hn
    obtain ⟨nC, rfl⟩ : ∃ k, nC = k + 1 := ⟨nC - 1, by omega⟩
    rw [LX5_digest_70_s, if_neg (show ¬ (8 : Int32) < nI k from nI_nlt (a := 8) (by omega) (by omega)), bd_of (eC_about hF hB hT hW hc _), bd_of e_with, nm_eq, nI_1]
    exact ih (k + 1) nC _ (by omega) (by omega)
theorem lR_79 (hF : 100 ≤ F) (hB : B ≤ 1000) (hT : RT N T) (hW : Wf B T) (q : Int32 → Mem → Option (Int64 × Mem)) {c : Nat} (hc : c < 4) : ∀ d k nC h, k + d = 9 → d < nC → LX6_digest_79 F q nC (nI c) (nI k) (uh N h) = q (nI c) (uh N (hs (fun k => abE T c (nI k)) d k h)) := by
  intro d
  induction d with
  | zero =>
    intro k nC h hk hn
    obtain ⟨nC, rfl⟩ : ∃ k, nC = k + 1 := ⟨nC - 1, by omega⟩
    rw [LX6_digest_79_s, if_pos (show (9 : Int32) ≤ nI k from nI_le (a := 9) (by omega) (by omega))]; rfl
  | succ d ih =>
    intro k nC h hk hn
    obtain ⟨nC, rfl⟩ : ∃ k, nC = k + 1 := ⟨nC - 1, by omega⟩
    rw [LX6_digest_79_s, if_neg (show ¬ (9 : Int32) ≤ nI k from nI_ge (b := 9) (by omega) (by omega)), bd_of (eR_tell hF hB (RT_h hT) hW hc _), bd_of e_note, nm_eq, nI_1]
    exact ih (k + 1) nC _ (by omega) (by omega)
theorem lC_56 (hF : 100 ≤ F) (hB : B ≤ 1000) (hT : CT M 6 T) (hW : Wf B T) : ∀ d c nC h, c + d = T.1 0 → d < nC → LX5_digest_56 F nC h (nI c) M = LX5_digest_103 F F (hcs T d c h) 0 M := by
  have h4 := hW.1
  intro d
  induction d with
  | zero =>
    intro k nC h hk hn
    obtain ⟨nC, rfl⟩ : ∃ k, nC = k + 1 := ⟨nC - 1, by omega⟩
    rw [LX5_digest_56_s, CT_cc hT, if_pos (nI_le (by omega) (by omega))]; rfl
  | succ d ih =>
    intro k nC h hk hn
    obtain ⟨nC, rfl⟩ : ∃ k, nC = k + 1 := ⟨nC - 1, by omega⟩
    rw [LX5_digest_56_s, CT_cc hT, if_neg (nI_ge (by omega) (by omega)), i0, lC_70 hF hB hT hW _ (by omega) 9 0 F h (by omega) (by omega), nm_eq, nI_1]
    exact ih (k + 1) nC _ (by omega) (by omega)
theorem lR_69 (hF : 100 ≤ F) (hB : B ≤ 1000) (hT : RT N T) (hW : Wf B T) : ∀ d c nC h, c + d = T.1 0 → d < nC → LX6_digest_69 F nC (nI c) (uh N h) = LX6_digest_110 F F 0 (uh N (hcs T d c h)) := by
  have h4 := hW.1
  intro d
  induction d with
  | zero =>
    intro k nC h hk hn
    obtain ⟨nC, rfl⟩ : ∃ k, nC = k + 1 := ⟨nC - 1, by omega⟩
    rw [LX6_digest_69_s, (RT_h (h := h) hT).1, if_pos (nI_le (by omega) (by omega))]; rfl
  | succ d ih =>
    intro k nC h hk hn
    obtain ⟨nC, rfl⟩ : ∃ k, nC = k + 1 := ⟨nC - 1, by omega⟩
    rw [LX6_digest_69_s, (RT_h (h := h) hT).1, if_neg (nI_ge (by omega) (by omega)), i0, lR_79 hF hB hT hW _ (by omega) 9 0 F h (by omega) (by omega), nm_eq, nI_1]
    exact ih (k + 1) nC _ (by omega) (by omega)
/-- behind the town: convicts, page, counts -/
theorem e_tail (hF : 100 ≤ F) (hB : B ≤ 1000) {n tn : Nat} {pg : Nat → Nat} (hP : PgR n pg M N) (t1 : M.1 0 8 = nI tn) (t2 : N.1 0 5 = nI tn) (hC : CT M 6 T) (hR : RT N T) (hW : Wf B T) (h : Int64) : ∃ H, JX5_digest_54 F h M = some (H, M) ∧ JX6_digest_67 F (uh N h) = some (H, uh N H) := by
  have h4 := hW.1
  have h12 := hP.2.2.1
  refine ⟨hs (fun k => coE T n tn (nI k)) 10 0 (hs (fun k => nI (pg k)) n 0 (hcs T (T.1 0) 0 h)), ?_, ?_⟩
  · unfold JX5_digest_54
    rw [i0, lC_56 hF hB hC hW (T.1 0) 0 F h (by omega) (by omega), i0, lC_103 hP n 0 F _ (by omega) (by omega), i0, lC_130 hF hC hW hP.1 t1 10 0 F _ (by omega) (by omega)]
  · unfold JX6_digest_67
    rw [i0, lR_69 hF hB hR hW (T.1 0) 0 F h (by omega) (by omega), i0, lR_110 hP n 0 F _ (by omega) (by omega), i0, lR_137 hF hR hW hP.2.1 t2 10 0 F _ (by omega) (by omega)]
/-! the victims -/
theorem lC_v6 (hF : 100 ≤ F) (hh : M.1 0 6 = nI 1) (hT : CT M 6 T) (hW : Wf B T) (hv : v < 3) : ∀ d k nC h, k + d = 4 → d < nC → LX5_withVictim_6 F nC (nI v) h (nI k) M = LX5_withVictim_35 F F (nI v) (hs (fun k => tvE T v (nI k)) d k h) 0 M := by
  intro d
  induction d with
  | zero =>
    intro k nC h hk hn
    obtain ⟨nC, rfl⟩ : ∃ k, nC = k + 1 := ⟨nC - 1, by omega⟩
    rw [LX5_withVictim_6_s, if_pos (show (3 : Int32) < nI k from nI_lt (a := 3) (by omega) (by omega))]; rfl
  | succ d ih =>
    intro k nC h hk hn
    obtain ⟨nC, rfl⟩ : ∃ k, nC = k + 1 := ⟨nC - 1, by omega⟩
    rw [LX5_withVictim_6_s, if_neg (show ¬ (3 : Int32) < nI k from nI_nlt (a := 3) (by omega) (by omega)), bd_of (eC_victim hF hh rfl hT hW hv _), bd_of e_with, nm_eq, nI_1]
    exact ih (k + 1) nC _ (by omega) (by omega)
theorem lR_v2 (hF : 100 ≤ F) (hT : RT N T) (hW : Wf B T) (hv : v < 3) : ∀ d k nC h, k + d = 4 → d < nC → LX6_noteVictim_2 F nC (nI v) (nI k) (uh N h) = bd (f_X6_layMost F (nI v) (uh N (hs (fun k => tvE T v (nI k)) d k h))) (fun r1 M2 => LX6_noteVictim_32 F F (nI v) r1 (0 : Int32) M2) := by
  intro d
  induction d with
  | zero =>
    intro k nC h hk hn
    obtain ⟨nC, rfl⟩ : ∃ k, nC = k + 1 := ⟨nC - 1, by omega⟩
    rw [LX6_noteVictim_2_s, if_pos (show (4 : Int32) ≤ nI k from nI_le (a := 4) (by omega) (by omega))]; rfl
  | succ d ih =>
    intro k nC h hk hn
    obtain ⟨nC, rfl⟩ : ∃ k, nC = k + 1 := ⟨nC - 1, by omega⟩
    rw [LX6_noteVictim_2_s, if_neg (show ¬ (4 : Int32) ≤ nI k from nI_ge (b := 4) (by omega) (by omega)), bd_of (eR_tellVictim hF (RT_h hT) hW hv _), bd_of e_note, nm_eq, nI_1]
    exact ih (k + 1) nC _ (by omega) (by omega)
theorem eC_who (hF : 100 ≤ F) (hB : B ≤ 1000) (hh : M.1 0 6 = nI 1) (hT : CT M 6 T) (hW : Wf B T) (hv : v < 3) {w : Nat → Nat} (hw : Best (T.1 0) (LB (lfv T v)) 6 0 (needN T) w) {k : Nat} (hk : k < 6) : ∃ M', f_X5_who F (nI v) (nI k) M = some (nI (w k) - 1, M') ∧ frM M M' := by
  obtain ⟨M1, q1, q2⟩ := eC_sayer (F := F) hF hB hT hW hv hw hk
  refine ⟨M1, ?_, q2⟩
  unfold f_X5_who
  rw [bd_of (eC_isV hh (by omega) _), if_pos (show 1 = 1 ∧ inL (nI v) 3 from ⟨rfl, inL_of hv (by omega)⟩), if_neg (show ¬ (1 : Int32) = 0 by decide), bd_of (eC_isS _), if_pos (inL_of hk (by omega)), if_neg (show ¬ (1 : Int32) = 0 by decide), bd_of q1]
theorem lC_v35 (hF : 100 ≤ F) (hB : B ≤ 1000) (hW : Wf B T) (hv : v < 3) {w : Nat → Nat} (hw : Best (T.1 0) (LB (lfv T v)) 6 0 (needN T) w) : ∀ d k nC h M, k + d = 6 → d < nC → M.1 0 6 = nI 1 → CT M 6 T → ∃ M', LX5_withVictim_35 F nC (nI v) h (nI k) M = LX5_withVictim_65 F F (nI v) (hs (fun k => nI (w k) - 1) d k h) 0 M' ∧ frM M M' := by
  intro d
  induction d with
  | zero =>
    intro k nC h M hk hn hh hT
    obtain ⟨nC, rfl⟩ : ∃ k, nC = k + 1 := ⟨nC - 1, by omega⟩
    refine ⟨M, ?_, fun _ _ _ _ => rfl⟩
    rw [LX5_withVictim_35_s, if_pos (show (6 : Int32) ≤ nI k from nI_le (a := 6) (by omega) (by omega))]; rfl
  | succ d ih =>
    intro k nC h M hk hn hh hT
    obtain ⟨nC, rfl⟩ : ∃ k, nC = k + 1 := ⟨nC - 1, by omega⟩
    obtain ⟨M1, q1, q2⟩ := eC_who (F := F) hF hB hh hT hW hv hw (show k < 6 by omega)
    obtain ⟨M', p1, p2⟩ := ih (k + 1) nC ((31 : Int64) * h + (nI (w k) - 1).toInt64) M1 (by omega) (by omega) (by rw [q2 0 (by omega) (by omega) (by omega)]; exact hh) (CT_M hT q2)
    refine ⟨M', ?_, q2.tr p2⟩
    rw [LX5_withVictim_35_s, if_neg (show ¬ (6 : Int32) ≤ nI k from nI_ge (b := 6) (by omega) (by omega)), bd_of q1, bd_of e_with, nm_eq, nI_1]
    exact p1
theorem lR_v32 {w : Nat → Nat} (h6 : ∀ i, i < 6 → N.1 6 i = nI (w i)) (m : Int32) : ∀ d k nC h, k + d = 6 → d < nC → LX6_noteVictim_32 F nC (nI v) m (nI k) (uh N h) = LX6_noteVictim_59 F F (nI v) m 0 (uh N (hs (fun k => nI (w k) - 1) d k h)) := by
  intro d
  induction d with
  | zero =>
    intro k nC h hk hn
    obtain ⟨nC, rfl⟩ : ∃ k, nC = k + 1 := ⟨nC - 1, by omega⟩
    rw [LX6_noteVictim_32_s, if_pos (show (6 : Int32) ≤ nI k from nI_le (a := 6) (by omega) (by omega))]; rfl
  | succ d ih =>
    intro k nC h hk hn
    obtain ⟨nC, rfl⟩ : ∃ k, nC = k + 1 := ⟨nC - 1, by omega⟩
    rw [LX6_noteVictim_32_s, if_neg (show ¬ (6 : Int32) ≤ nI k from nI_ge (b := 6) (by omega) (by omega)), gi_nI (by omega) (by omega), nI_clamp (by omega), show (uh N h).1 6 k = nI (w k) from h6 k (by omega), bd_of e_note, nm_eq, nI_1]
    exact ih (k + 1) nC _ (by omega) (by omega)
theorem lC_v65 (hF : 100 ≤ F) (hh : M.1 0 6 = nI 1) (hT : CT M 6 T) (hW : Wf B T) (hv : v < 3) : ∀ d k nC h, k + d = 3 → d < nC → LX5_withVictim_65 F nC (nI v) h (nI k) M = some ((31 : Int64) * hs (fun k => trE (T.2.1 v 2) (T.2.1 v 3) (nI k)) d k h + (tryE (T.2.1 v 2) (T.2.1 v 3)).toInt64, M) := by
  intro d
  induction d with
  | zero =>
    intro k nC h hk hn
    obtain ⟨nC, rfl⟩ : ∃ k, nC = k + 1 := ⟨nC - 1, by omega⟩
    rw [LX5_withVictim_65_s, if_pos (show (2 : Int32) < nI k from nI_lt (a := 2) (by omega) (by omega)), bd_of (eC_attempt hF hh rfl hT hW hv), bd_of e_with]; rfl
  | succ d ih =>
    intro k nC h hk hn
    obtain ⟨nC, rfl⟩ : ∃ k, nC = k + 1 := ⟨nC - 1, by omega⟩
    rw [LX5_withVictim_65_s, if_neg (show ¬ (2 : Int32) < nI k from nI_nlt (a := 2) (by omega) (by omega)), bd_of (eC_truths hh rfl hT hW hv (by omega)), bd_of e_with, nm_eq, nI_1]
    exact ih (k + 1) nC _ (by omega) (by omega)
theorem lR_v59 (hF : 100 ≤ F) (hT : RT N T) (hW : Wf B T) (hv : v < 3) (m : Int32) : ∀ d k nC h, k + d = 3 → d < nC → LX6_noteVictim_59 F nC (nI v) m (nI k) (uh N h) = some (m, uh N ((31 : Int64) * hs (fun k => trE (T.2.1 v 2) (T.2.1 v 3) (nI k)) d k h + (tryE (T.2.1 v 2) (T.2.1 v 3)).toInt64)) := by
  intro d
  induction d with
  | zero =>
    intro k nC h hk hn
    obtain ⟨nC, rfl⟩ : ∃ k, nC = k + 1 := ⟨nC - 1, by omega⟩
    rw [LX6_noteVictim_59_s, if_pos (show (3 : Int32) ≤ nI k from nI_le (a := 3) (by omega) (by omega)), bd_of (eR_attempt hF (RT_h hT) hW hv), bd_of e_note]; rfl
  | succ d ih =>
    intro k nC h hk hn
    obtain ⟨nC, rfl⟩ : ∃ k, nC = k + 1 := ⟨nC - 1, by omega⟩
    rw [LX6_noteVictim_59_s, if_neg (show ¬ (3 : Int32) ≤ nI k from nI_ge (b := 3) (by omega) (by omega)), bd_of (eR_truths hF (RT_h hT) hW hv _), bd_of e_note, nm_eq, nI_1]
    exact ih (k + 1) nC _ (by omega) (by omega)
theorem e_victims (hF : 20000 ≤ F) (hB : B ≤ 1000) (hh : M.1 0 6 = nI 1) (hT : CT M 6 T) (hR : RT N T) (hW : Wf B T) (hv : v < 3) {m : Nat} (hm : Op (T.1 0) (LB (lfv T v)) 6 0 (needN T) m) (h : Int64) : ∃ M' N' h', f_X5_withVictim F h (nI v) M = some (h', M') ∧ f_X6_noteVictim F (nI v) (uh N h) = some (nI m, uh N' h') ∧ frM M M' ∧ frH N N' := by
  have hF1 : 100 ≤ F := by omega
  obtain ⟨w, N1, p1, p2, p3, p4, p5⟩ := eR_lay (F := F) (N := uh N (hs (fun k => tvE T v (nI k)) 4 0 h)) hF hB (RT_h hR) hW hv
  have e := Op_un hm (Best_Op p2)
  rw [← e] at p1
  have eN : N1 = uh N1 (hs (fun k => tvE T v (nI k)) 4 0 h) := Prod.ext rfl p3.2
  have fr : frH N N1 := fun i a b c => p3.1 i a b c
  obtain ⟨M', q1, q2⟩ := lC_v35 (F := F) hF1 hB hW hv p2 6 0 F (hs (fun k => tvE T v (nI k)) 4 0 h) M (by omega) (by omega) hh hT
  have p1' : f_X6_layMost F (nI v) (uh N (hs (fun k => tvE T v (nI k)) 4 0 h)) = some (nI m, uh N1 (hs (fun k => tvE T v (nI k)) 4 0 h)) := p1.trans (by rw [← eN])
  refine ⟨M', N1, (31 : Int64) * hs (fun k => trE (T.2.1 v 2) (T.2.1 v 3) (nI k)) 3 0 (hs (fun k => nI (w k) - 1) 6 0 (hs (fun k => tvE T v (nI k)) 4 0 h)) + (tryE (T.2.1 v 2) (T.2.1 v 3)).toInt64, ?_, ?_, q2, fr⟩
  · unfold f_X5_withVictim
    rw [i0, lC_v6 hF1 hh hT hW hv 4 0 F h (by omega) (by omega)]
    refine q1.trans ?_
    rw [i0, lC_v65 hF1 (by rw [q2 0 (by omega) (by omega) (by omega)]; exact hh) (CT_M hT q2) hW hv 3 0 F _ (by omega) (by omega)]
  · unfold f_X6_noteVictim
    rw [i0, lR_v2 hF1 hR hW hv 4 0 F h (by omega) (by omega), bd_of p1', i0, lR_v32 p4 _ 6 0 F _ (by omega) (by omega), i0, lR_v59 hF1 (RT_H hR fr) hW hv _ 3 0 F _ (by omega) (by omega)]
theorem l_13 (hF : 20000 ≤ F) (hB : B ≤ 1000) (hW : Wf B T) {μ : Nat → Nat} (hμ : ∀ v, v < 3 → Op (T.1 0) (LB (lfv T v)) 6 0 (needN T) (μ v)) : ∀ d v nC nR M N h, v + d = 3 → d < nC → d < nR → M.1 0 6 = nI 1 → N.1 0 2 = nI 1 → CT M 6 T → RT N T → ∃ M' N' h', LX5_digest_13 F nC h (nI v) M = LX5_digest_33 F F h' 0 M' ∧ LX6_digest_11 F nR (nI (sm μ v)) (nI v) (uh N h) = JX6_digest_37 F (nI (sm μ 3)) (uh N' h') ∧ frM M M' ∧ frH N N' := by
  intro d
  induction d with
  | zero =>
    intro v nC nR M N h hk hn hn' m6 n2 hT hR
    obtain ⟨nC, rfl⟩ : ∃ k, nC = k + 1 := ⟨nC - 1, by omega⟩
    obtain ⟨nR, rfl⟩ : ∃ k, nR = k + 1 := ⟨nR - 1, by omega⟩
    obtain rfl : v = 3 := by omega
    refine ⟨M, N, h, ?_, ?_, fun _ _ _ _ => rfl, fun _ _ _ _ => rfl⟩
    · rw [LX5_digest_13_s, if_pos (by decide)]
    · rw [LX6_digest_11_s, if_pos (by decide)]
  | succ d ih =>
    intro v nC nR M N h hk hn hn' m6 n2 hT hR
    obtain ⟨nC, rfl⟩ : ∃ k, nC = k + 1 := ⟨nC - 1, by omega⟩
    obtain ⟨nR, rfl⟩ : ∃ k, nR = k + 1 := ⟨nR - 1, by omega⟩
    obtain ⟨M1, N1, h1, p1, p2, p3, p4⟩ := e_victims (F := F) hF hB m6 hT hR hW (show v < 3 by omega) (hμ v (by omega)) h
    obtain ⟨M', N', h', q1, q2, q3, q4⟩ := ih (v + 1) nC nR M1 N1 h1 (by omega) (by omega) (by omega) (by rw [p3 0 (by omega) (by omega) (by omega)]; exact m6) (by rw [p4 0 (by omega) (by omega) (by omega)]; exact n2) (CT_M hT p3) (RT_H hR p4)
    refine ⟨M', N', h', ?_, ?_, p3.tr q3, p4.tr q4⟩
    · rw [LX5_digest_13_s, if_neg (show ¬ (3 : Int32) ≤ nI v from nI_ge (b := 3) (by omega) (by omega)), bd_of p1, nm_eq, nI_1]
      exact q1
    · rw [LX6_digest_11_s, if_neg (show ¬ (3 : Int32) ≤ nI v from nI_ge (b := 3) (by omega) (by omega)), show (uh N h).1 0 2 = nI 1 from n2, if_neg (by decide), bd_of p2, nm_eq, nm_eq, nI_add, nI_1]
      exact q2
theorem PgR_M {n : Nat} {pg : Nat → Nat} {M' N' : Mem} (h : PgR n pg M N) (m0 : M'.1 0 = M.1 0) (m1 : M'.1 1 = M.1 1) (n0 : N'.1 0 = N.1 0) (n1 : N'.1 1 = N.1 1) : PgR n pg M' N' := by
  unfold PgR at h ⊢
  rw [m0, m1, n0, n1]
  exact h
theorem sp_digest (hF : 20000 ≤ F) (hB : B ≤ 1000) : SpL B (f_X5_digest F) (f_X6_digest F) := by
  intro M N h
  have h' := h
  obtain ⟨n, ht, hi, tn, pg, T, K, h1, h2, h3, h4, h5, h6, h7, h8, h9⟩ := h
  have hF1 : 100 ≤ F := by omega
  obtain ⟨F', e⟩ : ∃ k, F = k + 3 := ⟨F - 3, by omega⟩
  have h2c := h2.1
  have h2r := h2.2.1
  by_cases c : ht = 1
  · subst c
    obtain ⟨μ, hμ⟩ := μ_ex T
    obtain ⟨M1, N1, H1, p1, p2, p3, p4⟩ := l_13 (F := F) hF hB h7 hμ 3 0 F F M N 883 (by omega) (by omega) (by omega) h2c h2r h5 h6
    have m6 : M1.1 0 6 = nI 1 := by rw [p3 0 (by omega) (by omega) (by omega)]; exact h2c
    have C1 := CT_M h5 p3
    have R1 := RT_H h6 p4
    obtain ⟨M2, q1, q2⟩ := eC_most (F := F) hF1 hB m6 rfl C1 h7 hμ (show 0 < 2 by omega)
    have m6' : M2.1 0 6 = nI 1 := by rw [q2 0 (by omega) (by omega) (by omega)]; exact m6
    have C2 := CT_M C1 q2
    obtain ⟨M3, r1, r2⟩ := eC_most (F := F) hF1 hB m6' rfl C2 h7 hμ (show 1 < 2 by omega)
    have C3 := CT_M C2 r2
    have fM : frM M M3 := (p3.tr q2).tr r2
    have s1 : sm μ 3 ≤ 3 * 6 := sm_le 3 (fun i hi => μ_le hμ hi)
    have s2 : sm (needN T) (T.1 0) ≤ T.1 0 * 18 := sm_le _ (fun i hi => needN_le h7 (by have := h7.1; omega))
    have w4 := h7.1
    rw [if_pos (show nI 0 = 0 from rfl)] at q1
    rw [if_neg (show ¬ nI 1 = 0 by decide)] at r1
    obtain ⟨H, z1, z2⟩ := e_tail (F := F) (N := N1) hF1 hB (PgR_M h1 (fM 0 (by omega) (by omega) (by omega)) (fM 1 (by omega) (by omega) (by omega)) (p4 0 (by omega) (by omega) (by omega)) (p4 1 (by omega) (by omega) (by omega))) (tn := tn) (by rw [fM 0 (by omega) (by omega) (by omega)]; exact h4.1) (by rw [p4 0 (by omega) (by omega) (by omega)]; exact h4.2.1) C3 R1 h7 ((31 : Int64) * ((31 : Int64) * H1 + (nI (sm μ 3)).toInt64) + (if sm μ 3 = sm (needN T) (T.1 0) then (1 : Int32) else 0).toInt64)
    refine ⟨H, M3, uh N1 H, ?_, ?_, Rel_scr h' (fun i a => fM i (by omega) (by omega) (by omega)) (fun i a => p4 i (by omega) (by omega) (by omega)) (fun j _ => by rw [show (uh N1 H).1 0 = N1.1 0 from rfl, p4 0 (by omega) (by omega) (by omega)])⟩
    · unfold f_X5_digest
      rw [h2c, if_neg (by decide), i0]
      refine p1.trans ?_
      have : LX5_digest_33 F F H1 0 M1 = LX5_digest_33 F (F' + 3) H1 0 M1 := by rw [← e]
      rw [this, LX5_digest_33_s, if_neg (by decide), i0, bd_of q1, bd_of e_with, nm_eq, nI_1, LX5_digest_33_s, if_neg (by decide), bd_of r1, bd_of e_with, nm_eq, nI_1, LX5_digest_33_s, if_pos (by decide)]
      exact z1
    · unfold f_X6_digest
      rw [nm_eq]
      refine Eq.trans (b := JX6_digest_37 F (nI (sm μ 3)) (uh N1 H1)) p2 ?_
      unfold JX6_digest_37
      rw [show (uh N1 H1).1 0 2 = nI 1 by rw [show (uh N1 H1).1 0 = N1.1 0 from rfl, p4 0 (by omega) (by omega) (by omega)]; exact h2r, if_neg (by decide), bd_of e_note, bd_of (eR_needsAll hF1 hB (RT_h R1) h7)]
      by_cases z : sm μ 3 = sm (needN T) (T.1 0)
      · rw [if_pos z] at z2
        rw [if_pos (by rw [z])]
        unfold JX6_digest_64
        rw [bd_of e_note]
        exact z2
      · rw [if_neg z] at z2
        rw [if_neg (fun q => z ((nI_eq (by omega) (by omega)).mp q))]
        unfold JX6_digest_64
        rw [bd_of e_note]
        exact z2
  · have c0 : ht = 0 := by omega
    subst c0
    obtain ⟨H, z1, z2⟩ := e_tail (F := F) hF1 hB h1 h4.1 h4.2.1 h5 h6 h7 883
    refine ⟨H, M, uh N H, ?_, ?_, Rel_up (M := M) (N := uh N H) h'⟩
    · unfold f_X5_digest
      rw [h2c, if_pos (by decide)]
      exact z1
    · unfold f_X6_digest
      rw [nm_eq]
      have : LX6_digest_11 F F 0 0 (uh N 883) = LX6_digest_11 F (F' + 3) 0 0 (uh N 883) := by rw [← e]
      rw [this, LX6_digest_11_s, if_neg (by decide), show (uh N 883).1 0 2 = nI 0 from h2r, if_pos (by decide)]
      unfold JX6_digest_37
      rw [show (uh N 883).1 0 2 = nI 0 from h2r, if_pos (by decide)]
      exact z2
end DI
