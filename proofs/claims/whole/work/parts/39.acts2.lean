/-! trial, forget, image, restore, town -/
section AD
variable {B : Nat} {M N : Mem} {T : TA} {F : Nat}
theorem TrOK_congr {q q' : Nat → Int32} (hW : T.1 3 ≤ 8) (h : ∀ u, u < 24 → q' u = q u) (ht : TrOK q T) : TrOK q' T := by
  obtain ⟨h1, h2⟩ := ht
  refine ⟨fun i hi => ?_, fun v hv k hk => ?_⟩
  · obtain ⟨v, k, b, a1, a2, a3, a4, a5, a6⟩ := h1 i hi
    exact ⟨v, k, b, a1, a2, a3, by rw [h _ (by omega)]; exact a4, by rw [h _ (by omega)]; exact a5, by rw [h _ (by omega)]; exact a6⟩
  · obtain ⟨g1, g2⟩ := h2 v hv k hk
    have e : ∀ (x : Int32) i, i < T.1 3 ∧ q' (3 * i) = nI v ∧ q' (3 * i + 1) = nI k ∧ q' (3 * i + 2) = x ↔ i < T.1 3 ∧ q (3 * i) = nI v ∧ q (3 * i + 1) = nI k ∧ q (3 * i + 2) = x := by
      intro x i
      constructor
      · rintro ⟨b1, b2, b3, b4⟩
        rw [h _ (by omega)] at b2 b3 b4
        exact ⟨b1, b2, b3, b4⟩
      · rintro ⟨b1, b2, b3, b4⟩
        exact ⟨b1, by rw [h _ (by omega)]; exact b2, by rw [h _ (by omega)]; exact b3, by rw [h _ (by omega)]; exact b4⟩
    exact ⟨g1.trans ⟨fun ⟨i, hi⟩ => ⟨i, (e _ i).mpr hi⟩, fun ⟨i, hi⟩ => ⟨i, (e _ i).mp hi⟩⟩, g2.trans ⟨fun ⟨i, hi⟩ => ⟨i, (e _ i).mpr hi⟩, fun ⟨i, hi⟩ => ⟨i, (e _ i).mp hi⟩⟩⟩
theorem or_bit (x k i : Nat) : (x ||| 2 ^ k).testBit i = (x.testBit i || decide (i = k)) := by
  rw [Nat.testBit_or]
  by_cases e : i = k
  · subst e; rw [Nat.testBit_two_pow_self]; simp
  · rw [Nat.testBit_two_pow_of_ne (Ne.symm e)]; simp [e]
/-- a trial more: w = 2, s = 1 (it counts) or w = 3, s = 0 -/
theorem TrOK_add {q : Nat → Int32} (ht : TrOK q T) {v k w s : Nat} (hv : v < 3) (hk : k < 6) (hw : (w = 2 ∧ s = 1) ∨ (w = 3 ∧ s = 0)) : TrOK (upd (upd (upd q (3 * T.1 3) (nI v)) (3 * T.1 3 + 1) (nI k)) (3 * T.1 3 + 2) (nI s)) (sS (sV T v w (T.2.1 v w ||| 2 ^ k)) 3 (T.1 3 + 1)) := by
  obtain ⟨h1, h2⟩ := ht
  have e3 : (sS (sV T v w (T.2.1 v w ||| 2 ^ k)) 3 (T.1 3 + 1)).1 3 = T.1 3 + 1 := by simp [sS]
  have b3 : ∀ x : Nat, x < 6 → x < 2 ^ 31 := fun x hx => by omega
  have ol : ∀ u, u < 3 * T.1 3 → (upd (upd (upd q (3 * T.1 3) (nI v)) (3 * T.1 3 + 1) (nI k)) (3 * T.1 3 + 2) (nI s)) u = q u := fun u hu => by
    rw [pk_un (by omega), pk_un (by omega), pk_un (by omega)]
  have n0 : (upd (upd (upd q (3 * T.1 3) (nI v)) (3 * T.1 3 + 1) (nI k)) (3 * T.1 3 + 2) (nI s)) (3 * T.1 3) = nI v := by rw [pk_un (by omega), pk_un (by omega), pk_us]
  have n1 : (upd (upd (upd q (3 * T.1 3) (nI v)) (3 * T.1 3 + 1) (nI k)) (3 * T.1 3 + 2) (nI s)) (3 * T.1 3 + 1) = nI k := by rw [pk_un (by omega), pk_us]
  have n2 : (upd (upd (upd q (3 * T.1 3) (nI v)) (3 * T.1 3 + 1) (nI k)) (3 * T.1 3 + 2) (nI s)) (3 * T.1 3 + 2) = nI s := pk_us
  generalize (upd (upd (upd q (3 * T.1 3) (nI v)) (3 * T.1 3 + 1) (nI k)) (3 * T.1 3 + 2) (nI s)) = q' at ol n0 n1 n2 ⊢
  unfold TrOK
  rw [e3]
  refine ⟨fun i hi => ?_, fun v' hv' k' hk' => ?_⟩
  · by_cases e : i = T.1 3
    · subst e
      exact ⟨v, k, s, hv, hk, by omega, n0, n1, n2⟩
    · obtain ⟨v0, k0, b0, a1, a2, a3, a4, a5, a6⟩ := h1 i (by omega)
      exact ⟨v0, k0, b0, a1, a2, a3, by rw [ol _ (by omega)]; exact a4, by rw [ol _ (by omega)]; exact a5, by rw [ol _ (by omega)]; exact a6⟩
  · obtain ⟨g1, g2⟩ := h2 v' hv' k' hk'
    have key : ∀ x, x < 2 → ((∃ i, i < T.1 3 + 1 ∧ q' (3 * i) = nI v' ∧ q' (3 * i + 1) = nI k' ∧ q' (3 * i + 2) = nI x) ↔ (∃ i, i < T.1 3 ∧ q (3 * i) = nI v' ∧ q (3 * i + 1) = nI k' ∧ q (3 * i + 2) = nI x) ∨ (v' = v ∧ k' = k ∧ x = s)) := by
      intro x hx
      have hv31 : v < 2 ^ 31 := b3 v (Nat.lt_trans hv (by decide))
      have hv'31 : v' < 2 ^ 31 := b3 v' (Nat.lt_trans hv' (by decide))
      have hk31 : k < 2 ^ 31 := b3 k hk
      have hk'31 : k' < 2 ^ 31 := b3 k' hk'
      have hx31 : x < 2 ^ 31 := b3 x (Nat.lt_trans hx (by decide))
      have hs31 : s < 2 ^ 31 := by rcases hw with ⟨_, rfl⟩ | ⟨_, rfl⟩ <;> decide
      clear g1 g2
      constructor
      · rintro ⟨i, hi, c1, c2, c3⟩
        by_cases e : i = T.1 3
        · subst e
          rw [n0] at c1; rw [n1] at c2; rw [n2] at c3
          exact Or.inr ⟨((nI_eq hv31 hv'31).mp c1).symm, ((nI_eq hk31 hk'31).mp c2).symm, ((nI_eq hs31 hx31).mp c3).symm⟩
        · rw [ol _ (by omega)] at c1 c2 c3
          exact Or.inl ⟨i, by omega, c1, c2, c3⟩
      · rintro (⟨i, hi, c1, c2, c3⟩ | ⟨rfl, rfl, rfl⟩)
        · exact ⟨i, by omega, by rw [ol _ (by omega)]; exact c1, by rw [ol _ (by omega)]; exact c2, by rw [ol _ (by omega)]; exact c3⟩
        · exact ⟨T.1 3, by omega, n0, n1, n2⟩
    have bits : ∀ w', (sS (sV T v w (T.2.1 v w ||| 2 ^ k)) 3 (T.1 3 + 1)).2.1 v' w' = if v' = v ∧ w' = w then T.2.1 v w ||| 2 ^ k else T.2.1 v' w' := fun _ => rfl
    rw [bits, bits, key 1 (by decide), key 0 (by decide), ← g1, ← g2]
    clear g1 g2 key bits h1 h2
    have one : ∀ w' s', (w' = w ↔ s' = s) → (((if v' = v ∧ w' = w then T.2.1 v w ||| 2 ^ k else T.2.1 v' w').testBit k' = true) ↔ (T.2.1 v' w').testBit k' = true ∨ v' = v ∧ k' = k ∧ s' = s) := by
      intro w' s' hws
      by_cases e : v' = v ∧ w' = w
      · rw [if_pos e, or_bit, e.1, e.2]
        simp only [Bool.or_eq_true, decide_eq_true_eq]
        constructor
        · rintro (a | a)
          · exact Or.inl a
          · exact Or.inr ⟨trivial, a, hws.mp e.2⟩
        · rintro (a | a)
          · exact Or.inl a
          · exact Or.inr a.2.1
      · rw [if_neg e]
        constructor
        · exact Or.inl
        · rintro (a | a)
          · exact a
          · exact absurd ⟨a.1, hws.mpr a.2.2⟩ e
    exact ⟨one 2 1 (by omega), one 3 0 (by omega)⟩
theorem u2_row {X : Mem} {i k : Nat} {x : Int32} : (u2 X i k x).1 i = upd (X.1 i) k x := u2_self
theorem RT_trial (hT : RT N T) {v k w s : Nat} (hv : v < 3) (hk : k < 6) (hw : (w = 2 ∧ s = 1) ∨ (w = 3 ∧ s = 0)) : RT (u2 (u2 (u2 (u2 N 8 (3 * T.1 3) (nI v)) 8 (3 * T.1 3 + 1) (nI k)) 8 (3 * T.1 3 + 2) (nI s)) 0 13 (nI (T.1 3 + 1))) (sS (sV T v w (T.2.1 v w ||| 2 ^ k)) 3 (T.1 3 + 1)) := by
  obtain ⟨h1, h2, h3, h4, h5, h6, h7, h8⟩ := hT
  have o : ∀ i, i ≠ 0 → i ≠ 8 → (u2 (u2 (u2 (u2 N 8 (3 * T.1 3) (nI v)) 8 (3 * T.1 3 + 1) (nI k)) 8 (3 * T.1 3 + 2) (nI s)) 0 13 (nI (T.1 3 + 1))).1 i = N.1 i := fun i a b => by
    rw [u2_ne a, u2_ne b, u2_ne b, u2_ne b]
  have o0 : ∀ j, j ≠ 13 → (u2 (u2 (u2 (u2 N 8 (3 * T.1 3) (nI v)) 8 (3 * T.1 3 + 1) (nI k)) 8 (3 * T.1 3 + 2) (nI s)) 0 13 (nI (T.1 3 + 1))).1 0 j = N.1 0 j := fun j a => by
    rw [u2_at, if_neg (fun q => a q.2), u2_ne (by omega), u2_ne (by omega), u2_ne (by omega)]
  have e8 : (u2 (u2 (u2 (u2 N 8 (3 * T.1 3) (nI v)) 8 (3 * T.1 3 + 1) (nI k)) 8 (3 * T.1 3 + 2) (nI s)) 0 13 (nI (T.1 3 + 1))).1 8 = upd (upd (upd (N.1 8) (3 * T.1 3) (nI v)) (3 * T.1 3 + 1) (nI k)) (3 * T.1 3 + 2) (nI s) := by
    rw [u2_ne (by omega), u2_row, u2_row, u2_row]
  refine ⟨by rw [o0 8 (by omega)]; exact h1, by rw [o0 3 (by omega)]; exact h2, by rw [o0 4 (by omega)]; exact h3, by rw [u2_at, if_pos ⟨rfl, rfl⟩]; rfl, fun v' hv' => ?_, fun v' hv' => ?_, fun c hc j hj => by rw [o 4 (by omega) (by omega)]; exact h7 c hc j hj, by rw [e8]; exact TrOK_add h8 hv hk hw⟩
  · rw [o 2 (by omega) (by omega), h5 v' hv']
    exact congrArg nI (if_neg (fun q => by omega)).symm
  · rw [o 3 (by omega) (by omega), h6 v' hv']
    exact congrArg nI (if_neg (fun q => by omega)).symm
theorem sp_trial (a1 a2 a3 : Int32) : Sp B (f_X5_trial F a1 a2 a3) (f_X6_trial F a1 a2 a3) := by
  intro M N h
  have h' := h
  obtain ⟨n, ht, hi, tn, pg, T, K, hx⟩ := h
  have hx' := hx
  obtain ⟨h1, h2, h3, h4, h5, h6, h7, h8, h9⟩ := hx
  have w8 := h7.2.2.2.1
  unfold f_X5_trial f_X6_trial
  rw [bd_of (eC_isV h2.1 h2.2.2 _), bd_of (eR_isV h2.2.1 h2.2.2 _)]
  by_cases c : ht = 1 ∧ inL a1 3
  · obtain ⟨v, hv, rfl⟩ := inL_nI c.2 (by omega)
    rw [if_pos c, if_neg (show ¬ (1 : Int32) = 0 by decide), if_neg (show ¬ (1 : Int32) = 0 by decide), bd_of (eC_isS a2), bd_of (eR_isS a2)]
    by_cases c2 : inL a2 6
    · obtain ⟨k, hk, rfl⟩ := inL_nI c2 (by omega)
      rw [if_pos c2, if_neg (show ¬ (1 : Int32) = 0 by decide), if_neg (show ¬ (1 : Int32) = 0 by decide), CT_q h5, h6.2.2.2.1, i8]
      by_cases e8 : T.1 3 = 8
      · rw [if_neg (nI_nlt (by omega) (by omega)), if_pos (by rw [e8])]
        exact ⟨_, M, N, rfl, rfl, Rel_up h'⟩
      · have hq : T.1 3 < 8 := by omega
        rw [if_pos (nI_lt hq (by omega)), if_neg (fun q => e8 ((nI_eq (by omega) (by omega)).mp q)), gi_nI hv (by omega), nI_clamp (by omega)]
        have x0 : (3 : Int32) * nI (T.1 3) = nI (3 * T.1 3) := by rw [i3, pk_mul]
        have x1 : nI (3 * T.1 3) + 1 = nI (3 * T.1 3 + 1) := nI_1 _
        have x2 : nI (3 * T.1 3) + 2 = nI (3 * T.1 3 + 2) := nI_add _ 2
        have q13 : ∀ (X : Mem) (k : Nat) (x : Int32), (u2 X 8 k x).1 0 13 = X.1 0 13 := fun X k x => by rw [u2_ne (by omega)]
        -- both ways
        have fin : ∀ w s : Nat, ((w = 2 ∧ s = 1) ∨ (w = 3 ∧ s = 0)) → ∃ r M' N', (bd (some ((), u2 M (6 + 3 + v) w (nI (T.2.1 v w ||| 2 ^ k))) : Option (Unit × Mem)) fun _ M7 => nm (M7.1 6 5 + 1) fun x8 => nm (u2 M7 6 5 x8) fun M9 => some (M9.1 6 5, M9)) = some (r, M') ∧ JX6_trial_77 F (nI s) (nI (3 * T.1 3 + 2)) (u2 (u2 N 8 (3 * T.1 3) (nI v)) 8 (3 * T.1 3 + 1) (nI k)) = some (r, N') ∧ Rel (B + 1) M' N' := by
          intro w s hw
          have c1 := CT_V h5 (v0 := v) (i := w) hv (T.2.1 v w ||| 2 ^ k)
          have c2 := CT_S c1 (i := 3) (by omega) (T.1 3 + 1)
          have W1 : Wf (B + 1) (sS (sV T v w (T.2.1 v w ||| 2 ^ k)) 3 (T.1 3 + 1)) := Wf_up (Wf_sS (Wf_sV h7 (or64 (h7.2.2.2.2.1 v hv w (by omega)) (pow64 hk))) (by omega)) (Nat.le_succ B)
          unfold JX6_trial_77
          rw [bd_some, nm_eq, nm_eq, CT_q c1, show (sV T v w (T.2.1 v w ||| 2 ^ k)).1 3 = T.1 3 from rfl, nI_1, gi_nI (by omega) (by omega), nm_eq, nI_clamp (by omega), q13, q13, q13, h6.2.2.2.1, nm_eq, nI_1, nm_eq]
          refine ⟨nI (T.1 3 + 1), _, _, by rw [u2_at, if_pos ⟨rfl, rfl⟩], by rw [u2_at, if_pos ⟨rfl, rfl⟩], Rel_now hx' (fun i hi => by rw [u2_ne (by omega), u2_ne (by omega)]) (fun i hi => by rw [u2_ne (by omega), u2_ne (by omega), u2_ne (by omega), u2_ne (by omega)]) (fun j hj => by rw [u2_at, if_neg (fun q => by omega), u2_ne (by omega), u2_ne (by omega), u2_ne (by omega)]) c2 (RT_trial h6 hv hk hw) W1⟩
        rw [x0, gi_nI (by omega) (by omega), nm_eq, nI_clamp (by omega), q13, h6.2.2.2.1, x0, x1, gi_nI (by omega) (by omega), nm_eq, nI_clamp (by omega), q13, q13, h6.2.2.2.1, x0, x2]
        unfold f_X3_tried
        rw [h5.2.1 v hv 2 (by omega), h5.2.1 v hv 3 (by omega), shl_pow k (by omega), or_nI, or_nI]
        by_cases e3 : a3 = 0
        · rw [if_pos e3, if_pos e3]; exact fin 3 0 (by omega)
        · rw [if_neg e3, if_neg e3]; exact fin 2 1 (by omega)
    · rw [if_neg c2]; exact ⟨_, M, N, rfl, rfl, Rel_up h'⟩
  · rw [if_neg c]; exact ⟨_, M, N, rfl, rfl, Rel_up h'⟩
def fgT (T : TA) (v : Nat) : TA := (T.1, fun v' j => if v' < v ∧ (j = 2 ∨ j = 3) then 0 else T.2.1 v' j, T.2.2)
theorem lC_forget : ∀ d v n M, v + d = 3 → d < n → CT M 6 (fgT T v) → ∃ M', LX2_forgetTrials_2 F n 6 (nI v) M = some ((), M') ∧ CT M' 6 (sS (fgT T 3) 3 0) ∧ ∀ i, (i < 6 ∨ 16 ≤ i) → M'.1 i = M.1 i := by
  intro d
  induction d with
  | zero =>
    intro v n M h hn hT
    obtain ⟨n, rfl⟩ : ∃ k, n = k + 1 := ⟨n - 1, by omega⟩
    rw [LX2_forgetTrials_2_s, i3, if_pos (nI_le (by omega) (by omega)), nm_eq, i0]
    refine ⟨_, rfl, ?_, fun i hi => u2_ne (by omega)⟩
    have e3 : v = 3 := by omega
    subst e3
    exact CT_S hT (i := 3) (by omega) 0
  | succ d ih =>
    intro v n M h hn hT
    obtain ⟨n, rfl⟩ : ∃ k, n = k + 1 := ⟨n - 1, by omega⟩
    have hv : v < 3 := by omega
    have c1 := CT_V (CT_V hT (v0 := v) (i := 2) hv 0) (v0 := v) (i := 3) hv 0
    have e : sV (sV (fgT T v) v 2 0) v 3 0 = fgT T (v + 1) := by
      have : ∀ v' j, (sV (sV (fgT T v) v 2 0) v 3 0).2.1 v' j = (fgT T (v + 1)).2.1 v' j := by
        intro v' j
        show (if v' = v ∧ j = 3 then 0 else if v' = v ∧ j = 2 then 0 else if v' < v ∧ (j = 2 ∨ j = 3) then 0 else T.2.1 v' j) = if v' < v + 1 ∧ (j = 2 ∨ j = 3) then 0 else T.2.1 v' j
        by_cases q : v' < v + 1 ∧ (j = 2 ∨ j = 3)
        · rw [if_pos q]
          split
          · rfl
          · split
            · rfl
            · rw [if_pos (by omega)]
        · rw [if_neg q, if_neg (by omega), if_neg (by omega), if_neg (by omega)]
      exact Prod.ext rfl (Prod.ext (funext fun v' => funext fun j => this v' j) rfl)
    rw [e] at c1
    obtain ⟨M', m1, m2, m3⟩ := ih (v + 1) n _ (by omega) (by omega) c1
    refine ⟨M', ?_, m2, fun i hi => by rw [m3 i hi, u2_ne (by omega), u2_ne (by omega)]⟩
    unfold f_X3_forgetTrials at *
    rw [LX2_forgetTrials_2_s, i3, if_neg (nI_ge (by omega) (by omega)), gi_nI hv (by omega), nI_clamp (by omega)]
    unfold f_X3_forgetTrials
    rw [nm_eq, nm_eq, bd_some, nm_eq, nI_1]
    exact m1
theorem sp_forget (hF : 100 ≤ F) : Sp B (f_X5_forget F) (f_X6_forget F) := by
  intro M N h
  obtain ⟨n, ht, hi, tn, pg, T, K, hx⟩ := h
  have hx' := hx
  obtain ⟨h1, h2, h3, h4, h5, h6, h7, h8, h9⟩ := hx
  have h0 : CT M 6 (fgT T 0) := by
    refine ⟨h5.1, fun v hv j hj => ?_, h5.2.2⟩
    rw [h5.2.1 v hv j hj]
    show _ = nI (if v < 0 ∧ (j = 2 ∨ j = 3) then 0 else T.2.1 v j)
    rw [if_neg (fun q => Nat.not_lt_zero v q.1)]
  obtain ⟨M', m1, m2, m3⟩ := lC_forget (F := F) 3 0 F M (by omega) (by omega) h0
  unfold f_X5_forget f_X6_forget f_X2_forgetTrials
  rw [nm_eq, nm_eq, nm_eq, CT_q h5, h6.2.2.2.1, i0, bd_of m1]
  refine ⟨nI (T.1 3), M', _, rfl, rfl, Rel_now hx' (fun i hi => m3 i (by omega)) (fun i hi => u2_ne (by omega)) (fun j hj => by rw [u2_at, if_neg (fun q => by omega)]) m2 ?_ ?_⟩
  · obtain ⟨r1, r2, r3, r4, r5, r6, r7, r8⟩ := h6
    have z3 : (sS (fgT T 3) 3 0).1 3 = 0 := by simp [sS]
    have zb : ∀ v, v < 3 → ∀ j, j = 2 ∨ j = 3 → (sS (fgT T 3) 3 0).2.1 v j = 0 := fun v hv j hj => if_pos ⟨hv, hj⟩
    refine ⟨by rw [u2_at, if_neg (fun q => by omega)]; exact r1, by rw [u2_at, if_neg (fun q => by omega)]; exact r2, by rw [u2_at, if_neg (fun q => by omega)]; exact r3, by rw [u2_at, if_pos ⟨rfl, rfl⟩]; rfl, fun v hv => ?_, fun v hv => ?_, fun c hc j hj => by rw [u2_ne (by omega)]; exact r7 c hc j hj, ?_⟩
    · rw [u2_ne (by omega), r5 v hv]; exact congrArg nI (if_neg (fun q => by omega)).symm
    · rw [u2_ne (by omega), r6 v hv]; exact congrArg nI (if_neg (fun q => by omega)).symm
    · unfold TrOK
      rw [z3]
      refine ⟨fun i hi => absurd hi (Nat.not_lt_zero i), fun v hv k hk => ?_⟩
      rw [zb v hv 2 (by omega), zb v hv 3 (by omega), Nat.zero_testBit]
      exact ⟨⟨fun q => Bool.noConfusion q, fun ⟨i, q, _⟩ => absurd q (Nat.not_lt_zero i)⟩, ⟨fun q => Bool.noConfusion q, fun ⟨i, q, _⟩ => absurd q (Nat.not_lt_zero i)⟩⟩
  · refine Wf_up (Wf_sS (T := fgT T 3) ⟨h7.1, h7.2.1, h7.2.2.1, h7.2.2.2.1, fun v hv j hj => ?_, h7.2.2.2.2.2⟩ (by omega)) (Nat.le_succ B)
    show (if v < 3 ∧ (j = 2 ∨ j = 3) then 0 else T.2.1 v j) < 64
    split
    · omega
    · exact h7.2.2.2.2.1 v hv j hj
theorem sp_image (hF : 100 ≤ F) : Sp B (f_X5_image F) (f_X6_image F) := by
  intro M N h
  have h' := h
  obtain ⟨n, ht, hi, tn, pg, T, K, hx⟩ := h
  obtain ⟨h1, h2, h3, h4, h5, h6, h7, h8, h9⟩ := hx
  unfold f_X5_image f_X6_image
  rw [h2.1, h2.2.1]
  by_cases e : ht = 0
  · rw [e, if_pos nI_0, if_pos nI_0]
    exact ⟨_, M, N, rfl, rfl, Rel_up h'⟩
  · have := h2.2.2
    rw [if_neg (nI_ne0 (by omega) (by omega)), if_neg (nI_ne0 (by omega) (by omega))]
    obtain ⟨M1, m1, m2, m3⟩ := eC_copy (b := 16) (b' := 6) hF (by omega) M
    obtain ⟨N1, n1, n2, n3, n4⟩ := eR_copy (a1 := 4) (a2 := 11) hF (by decide) (by decide) (by decide) N
    obtain ⟨N2, o1, o2, o3, o4⟩ := eR_copy (a1 := 3) (a2 := 12) hF (by decide) (by decide) (by decide) N1
    obtain ⟨N3, p1, p2, p3, p4⟩ := eR_copy (a1 := 8) (a2 := 13) hF (by decide) (by decide) (by decide) N2
    have z0 : N3.1 0 = N.1 0 := by rw [p2 0 (by omega), o2 0 (by omega), n2 0 (by omega)]
    rw [bd_of m1, bd_of n1, bd_of o1, bd_of p1]
    simp only [nm_eq]
    have m0 : ∀ j, j ≠ 7 → (u2 M1 0 7 1).1 0 j = M.1 0 j := fun j hj => by rw [u2_at, if_neg (fun q => hj q.2), m3 0 (by omega)]
    have mi : ∀ i, i ≠ 0 → (i < 16 ∨ 26 ≤ i) → (u2 M1 0 7 1).1 i = M.1 i := fun i a b => by rw [u2_ne a, m3 i (by omega)]
    generalize hN4 : u2 (u2 (u2 (u2 (u2 N3 0 19 (N3.1 0 3)) 0 20 ((u2 N3 0 19 (N3.1 0 3)).1 0 4)) 0 21 ((u2 (u2 N3 0 19 (N3.1 0 3)) 0 20 ((u2 N3 0 19 (N3.1 0 3)).1 0 4)).1 0 8)) 0 22 ((u2 (u2 (u2 N3 0 19 (N3.1 0 3)) 0 20 ((u2 N3 0 19 (N3.1 0 3)).1 0 4)) 0 21 ((u2 (u2 N3 0 19 (N3.1 0 3)) 0 20 ((u2 N3 0 19 (N3.1 0 3)).1 0 4)).1 0 8)).1 0 13)) 0 18 ((u2 (u2 (u2 (u2 N3 0 19 (N3.1 0 3)) 0 20 ((u2 N3 0 19 (N3.1 0 3)).1 0 4)) 0 21 ((u2 (u2 N3 0 19 (N3.1 0 3)) 0 20 ((u2 N3 0 19 (N3.1 0 3)).1 0 4)).1 0 8)) 0 22 ((u2 (u2 (u2 N3 0 19 (N3.1 0 3)) 0 20 ((u2 N3 0 19 (N3.1 0 3)).1 0 4)) 0 21 ((u2 (u2 N3 0 19 (N3.1 0 3)) 0 20 ((u2 N3 0 19 (N3.1 0 3)).1 0 4)).1 0 8)).1 0 13)).1 0 5) = N4
    have q0 : ∀ j, (j < 18 ∨ 22 < j) → N4.1 0 j = N.1 0 j := fun j hj => by
      rw [← hN4, u2_at, if_neg (fun q => by omega), u2_at, if_neg (fun q => by omega), u2_at, if_neg (fun q => by omega), u2_at, if_neg (fun q => by omega), u2_at, if_neg (fun q => by omega), z0]
    have qi : ∀ i, i ≠ 0 → N4.1 i = N3.1 i := fun i hi => by
      rw [← hN4, u2_ne hi, u2_ne hi, u2_ne hi, u2_ne hi, u2_ne hi]
    have q18 : N4.1 0 18 = N.1 0 5 := by rw [← hN4]; simp only [u2_at]; simp [z0]
    have q19 : N4.1 0 19 = N.1 0 3 := by rw [← hN4]; simp only [u2_at]; simp [z0]
    have q20 : N4.1 0 20 = N.1 0 4 := by rw [← hN4]; simp only [u2_at]; simp [z0]
    have q21 : N4.1 0 21 = N.1 0 8 := by rw [← hN4]; simp only [u2_at]; simp [z0]
    have q22 : N4.1 0 22 = N.1 0 13 := by rw [← hN4]; simp only [u2_at]; simp [z0]
    have qs : ∀ i, i ≠ 0 → i ≠ 11 → i ≠ 12 → i ≠ 13 → N4.1 i = N.1 i := fun i a b c d => by rw [qi i a, p2 i d, o2 i c, n2 i b]
    refine ⟨nI (T.1 2), _, N4, by rw [u2_ne (by omega), m3 6 (by omega), CT_day h5], by rw [q0 4 (by omega), h6.2.2.1], n, ht, 1, tn, pg, T, T, ?_, ?_, ?_, ?_, CT_of h5 (fun i a b => mi i (by omega) (by omega)), ?_, Wf_up h7 (Nat.le_succ B), fun _ => ⟨by rw [q18]; exact h4.2.1, CT_of (m2 T h5) (fun i a b => u2_ne (by omega)), ?_, Wf_up h7 (Nat.le_succ B)⟩, fun q => absurd q (by decide)⟩
    · unfold PgR
      rw [m0 1 (by omega), mi 1 (by omega) (by omega), q0 1 (by omega), qs 1 (by omega) (by omega) (by omega) (by omega)]; exact h1
    · rw [m0 6 (by omega), q0 2 (by omega)]; exact h2
    · exact ⟨by rw [u2_at, if_pos ⟨rfl, rfl⟩]; rfl, by omega⟩
    · rw [m0 8 (by omega), q0 5 (by omega)]; exact ⟨h4.1, h4.2.1, by have := h4.2.2; omega⟩
    · exact RTg_of h6 (q0 8 (by omega)) (q0 3 (by omega)) (q0 4 (by omega)) (q0 13 (by omega)) (qs 2 (by omega) (by omega) (by omega) (by omega)) (qs 3 (by omega) (by omega) (by omega) (by omega)) (qs 4 (by omega) (by omega) (by omega) (by omega)) (qs 8 (by omega) (by omega) (by omega) (by omega))
    · obtain ⟨r1, r2, r3, r4, r5, r6, r7, r8⟩ := h6
      refine ⟨by rw [q21]; exact r1, by rw [q19]; exact r2, by rw [q20]; exact r3, by rw [q22]; exact r4, fun v hv => by rw [qs 2 (by omega) (by omega) (by omega) (by omega)]; exact r5 v hv, fun v hv => ?_, fun c hc j hj => ?_, TrOK_congr h7.2.2.2.1 (fun u hu => ?_) r8⟩
      · rw [qi 12 (by omega), p2 12 (by omega), o3 v hv, n2 3 (by omega)]; exact r6 v hv
      · rw [qi 11 (by omega), p2 11 (by omega), o2 11 (by omega), n3 _ (show 6 * c + j < 24 by omega)]; exact r7 c hc j hj
      · rw [qi 13 (by omega), p3 u hu, o2 8 (by omega), n2 8 (by omega)]
theorem sp_restore (hF : 100 ≤ F) (hB : B ≤ 1000) : Sp B (f_X5_restore F) (f_X6_restore F) := by
  intro M N h
  have h' := h
  obtain ⟨n, ht, hi, tn, pg, T, K, hx⟩ := h
  obtain ⟨h1, h2, h3, h4, h5, h6, h7, h8, h9⟩ := hx
  unfold f_X5_restore f_X6_restore
  have hn5 := h4.2.2
  by_cases e : hi = 0
  · rw [h3.1, e, if_pos nI_0, h4.2.1]
    refine ⟨_, M, N, rfl, ?_, Rel_up h'⟩
    rcases h9 e with q | ⟨k, hk, q⟩
    · rw [q, if_neg (fun z => im1_ne (by omega) z.symm)]
    · rw [q, if_neg (fun z => by have := (nI_eq (by omega) (by omega)).mp z; omega)]
  · have e1 : hi = 1 := by have := h3.2; omega
    obtain ⟨k1, k2, k3, k4⟩ := h8 e1
    rw [h3.1, if_neg (nI_ne0 (by omega) (by omega)), k1, h4.2.1, if_pos rfl]
    obtain ⟨M1, m1, m2, m3⟩ := eC_copy (b := 6) (b' := 16) hF (by omega) M
    obtain ⟨N1, n1, n2, n3, n4⟩ := eR_copy (a1 := 11) (a2 := 4) hF (by decide) (by decide) (by decide) N
    obtain ⟨N2, o1, o2, o3, o4⟩ := eR_copy (a1 := 12) (a2 := 3) hF (by decide) (by decide) (by decide) N1
    obtain ⟨N3, p1, p2, p3, p4⟩ := eR_copy (a1 := 13) (a2 := 8) hF (by decide) (by decide) (by decide) N2
    have z0 : N3.1 0 = N.1 0 := by rw [p2 0 (by omega), o2 0 (by omega), n2 0 (by omega)]
    rw [bd_of m1, bd_of n1, bd_of o1, bd_of p1]
    simp only [nm_eq]
    generalize hN4 : u2 (u2 (u2 (u2 N3 0 3 (N3.1 0 19)) 0 4 ((u2 N3 0 3 (N3.1 0 19)).1 0 20)) 0 8 ((u2 (u2 N3 0 3 (N3.1 0 19)) 0 4 ((u2 N3 0 3 (N3.1 0 19)).1 0 20)).1 0 21)) 0 13 ((u2 (u2 (u2 N3 0 3 (N3.1 0 19)) 0 4 ((u2 N3 0 3 (N3.1 0 19)).1 0 20)) 0 8 ((u2 (u2 N3 0 3 (N3.1 0 19)) 0 4 ((u2 N3 0 3 (N3.1 0 19)).1 0 20)).1 0 21)).1 0 22) = N4
    have q0 : ∀ j, j ≠ 3 → j ≠ 4 → j ≠ 8 → j ≠ 13 → N4.1 0 j = N.1 0 j := fun j a b c d => by
      rw [← hN4, u2_at, if_neg (fun q => by omega), u2_at, if_neg (fun q => by omega), u2_at, if_neg (fun q => by omega), u2_at, if_neg (fun q => by omega), z0]
    have qi : ∀ i, i ≠ 0 → N4.1 i = N3.1 i := fun i hi => by
      rw [← hN4, u2_ne hi, u2_ne hi, u2_ne hi, u2_ne hi]
    have q3 : N4.1 0 3 = N.1 0 19 := by rw [← hN4]; simp only [u2_at]; simp [z0]
    have q4 : N4.1 0 4 = N.1 0 20 := by rw [← hN4]; simp only [u2_at]; simp [z0]
    have q8 : N4.1 0 8 = N.1 0 21 := by rw [← hN4]; simp only [u2_at]; simp [z0]
    have q13 : N4.1 0 13 = N.1 0 22 := by rw [← hN4]; simp only [u2_at]; simp [z0]
    have qs : ∀ i, i ≠ 0 → i ≠ 3 → i ≠ 4 → i ≠ 8 → N4.1 i = N.1 i := fun i a b c d => by rw [qi i a, p2 i d, o2 i b, n2 i c]
    refine ⟨nI (K.1 2), M1, N4, by rw [CT_day (m2 K k2)], by rw [q4]; exact congrArg (fun z => some (z, N4)) k3.2.2.1, Rel_now ⟨h1, h2, h3, h4, h5, h6, h7, h8, h9⟩ (fun i hi => m3 i (by omega)) (fun i hi => qs i (by omega) (by omega) (by omega) (by omega)) (fun j hj => q0 j (by omega) (by omega) (by omega) (by omega)) (m2 K k2) ?_ (Wf_up k4 (Nat.le_succ B))⟩
    obtain ⟨r1, r2, r3, r4, r5, r6, r7, r8⟩ := k3
    refine ⟨by rw [q8]; exact r1, by rw [q3]; exact r2, by rw [q4]; exact r3, by rw [q13]; exact r4, fun v hv => by rw [qs 2 (by omega) (by omega) (by omega) (by omega)]; exact r5 v hv, fun v hv => ?_, fun c hc j hj => ?_, TrOK_congr k4.2.2.2.1 (fun u hu => ?_) r8⟩
    · rw [qi 3 (by omega), p2 3 (by omega), o3 v hv, n2 12 (by omega)]; exact r6 v hv
    · rw [qi 4 (by omega), p2 4 (by omega), o2 4 (by omega), n3 _ (show 6 * c + j < 24 by omega)]; exact r7 c hc j hj
    · rw [qi 8 (by omega), p3 u hu, o2 13 (by omega), n2 13 (by omega)]
end AD
