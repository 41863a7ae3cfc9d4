/-! say, learn, convict, night, trial, forget, image, restore -/
section AC
variable {B : Nat} {M N : Mem} {T : TA} {F : Nat}
theorem frS_now {N' : Mem} (h : frS N N') : (∀ i, i = 1 ∨ i = 2 ∨ i = 11 ∨ i = 12 ∨ i = 13 → N'.1 i = N.1 i) ∧ (∀ j, j = 1 ∨ j = 2 ∨ j = 5 ∨ j = 18 ∨ j = 19 ∨ j = 20 ∨ j = 21 ∨ j = 22 → N'.1 0 j = N.1 0 j) := ⟨fun i hi => h.1 i (by omega) (by omega) (by omega), fun j hj => h.2.1 j (by omega)⟩
theorem sp_say (hB : B ≤ 1000) (a1 a2 : Int32) : Sp B (f_X5_say F a1 a2) (f_X6_say F a1 a2) := by
  intro M N h
  have h' := h
  obtain ⟨n, ht, hi, tn, pg, T, K, hx⟩ := h
  have hx' := hx
  obtain ⟨h1, h2, h3, h4, h5, h6, h7, h8, h9⟩ := hx
  have w := h7.1
  unfold f_X5_say f_X6_say
  rw [bd_of (eC_isC (CT_cc h5) w _), bd_of (eR_isC h6.1 w _)]
  by_cases c : inL a1 (T.1 0)
  · obtain ⟨v, hv, rfl⟩ := inL_nI c (by omega)
    have hv4 : v < 4 := by omega
    obtain ⟨w0, w1, w2, w3, w4, w5⟩ := h7.2.2.2.2.2 v hv4
    rw [if_pos c, if_neg (show ¬ (1 : Int32) = 0 by decide), if_neg (show ¬ (1 : Int32) = 0 by decide), bd_of (eC_isS a2), bd_of (eR_isS a2)]
    by_cases c2 : inL a2 6
    · obtain ⟨k, hk, rfl⟩ := inL_nI c2 (by omega)
      rw [if_pos c2, if_neg (show ¬ (1 : Int32) = 0 by decide), if_neg (show ¬ (1 : Int32) = 0 by decide), gi_nI hv4 (by omega), nI_clamp (by omega), bd_of (eC_paid h5 h7 hv4), ix6_2 hv4, ix6_4 hv4, gi6 hv4 (by omega), cl6 hv4 (by omega), h6.2.2.2.2.2.2.1 v hv4 2 (by omega)]
      by_cases e2 : T.2.2 v 2 = 0
      · rw [if_pos e2, if_neg (show ¬ (1 : Int32) = 0 by decide), e2, if_pos nI_0]
        exact ⟨_, M, N, rfl, rfl, Rel_up h'⟩
      · rw [if_neg e2, if_pos rfl, if_neg (nI_ne0 (by omega) (by omega)), h5.2.2 v hv4 4 (by omega), gi6 hv4 (by omega), cl6 hv4 (by omega), h6.2.2.2.2.2.2.1 v hv4 4 (by omega)]
        by_cases e4 : T.2.2 v 4 = 0
        · rw [e4, if_pos (by decide), if_pos nI_0]
          exact ⟨_, M, N, rfl, rfl, Rel_up h'⟩
        · rw [if_neg (nI_nle (by omega) (by omega)), if_neg (nI_ne0 (by omega) (by omega)), bd_of (eC_knows h5 h7 hv4 hk), bd_of (eR_knows h6 h7 hv4 hk)]
          cases ek : (T.2.2 v 3).testBit k with
          | false =>
            rw [if_pos (by decide), if_pos (by decide)]
            exact ⟨_, M, N, rfl, rfl, Rel_up h'⟩
          | true =>
            have r1 := RT_row h6 (i := 4) hv4 (by omega) (T.2.2 v 4 - 1)
            have W1 : Wf B (sC T v 4 (T.2.2 v 4 - 1)) := Wf_sC h7 (by omega)
            have hf1 : 1 ≤ (sC T v 4 (T.2.2 v 4 - 1)).2.2 v 2 := by
              rw [show (sC T v 4 (T.2.2 v 4 - 1)).2.2 v 2 = T.2.2 v 2 from if_neg (fun q => by omega)]; omega
            have eh : hearB (sC T v 4 (T.2.2 v 4 - 1)) v k = hearB T v k := by
              unfold hearB
              rw [show (sC T v 4 (T.2.2 v 4 - 1)).2.2 v 1 = T.2.2 v 1 from if_neg (fun q => by omega), show (sC T v 4 (T.2.2 v 4 - 1)).2.2 v 0 = T.2.2 v 0 from if_neg (fun q => by omega)]; rfl
            obtain ⟨M', m1, m2, m3⟩ := eC_hear (F := F) hB h5 h7 hv4 hk (by omega) (by omega)
            obtain ⟨N', n1, n2, n3⟩ := eR_says (F := F) hB r1 W1 hv4 hk hf1
            rw [eh] at n1
            rw [if_neg (by decide), if_neg (by decide), bd_of m1, gi6 hv4 (by omega), nm_eq, h6.2.2.2.2.2.2.1 v hv4 4 (by omega), i1, pk_sub (by omega), gi6 hv4 (by omega), nm_eq, bd_of n1]
            refine ⟨nI (hearB T v k).toNat, M', N', ?_, rfl, ?_⟩
            · cases hearB T v k <;> rfl
            · have fr := frS_now (frS_4.tr n3)
              refine Rel_now hx' (fun i hi => m3 i (by omega)) fr.1 fr.2 m2 n2 (Wf_hear W1 hv4 hk)
    · rw [if_neg c2]; exact ⟨_, M, N, rfl, rfl, Rel_up h'⟩
  · rw [if_neg c]; exact ⟨_, M, N, rfl, rfl, Rel_up h'⟩
theorem or_same {x k : Nat} (h : x.testBit k = true) : x ||| 2 ^ k = x := by
  apply Nat.eq_of_testBit_eq
  intro i
  rw [Nat.testBit_or]
  by_cases e : k = i
  · subst e; rw [h]; rfl
  · rw [Nat.testBit_two_pow_of_ne e, Bool.or_false]
theorem sp_learn (hB : B ≤ 1000) (a1 a2 : Int32) : Sp B (f_X5_learn F a1 a2) (f_X6_learn F a1 a2) := by
  intro M N h
  have h' := h
  obtain ⟨n, ht, hi, tn, pg, T, K, hx⟩ := h
  have hx' := hx
  obtain ⟨h1, h2, h3, h4, h5, h6, h7, h8, h9⟩ := hx
  have w := h7.1
  unfold f_X5_learn f_X6_learn
  rw [bd_of (eC_isC (CT_cc h5) w _), bd_of (eR_isC h6.1 w _)]
  by_cases c : inL a1 (T.1 0)
  · obtain ⟨v, hv, rfl⟩ := inL_nI c (by omega)
    have hv4 : v < 4 := by omega
    obtain ⟨w0, w1, w2, w3, w4, w5⟩ := h7.2.2.2.2.2 v hv4
    rw [if_pos c, if_neg (show ¬ (1 : Int32) = 0 by decide), if_neg (show ¬ (1 : Int32) = 0 by decide), bd_of (eC_isS a2), bd_of (eR_isS a2)]
    by_cases c2 : inL a2 6
    · obtain ⟨k, hk, rfl⟩ := inL_nI c2 (by omega)
      rw [if_pos c2, if_neg (show ¬ (1 : Int32) = 0 by decide), if_neg (show ¬ (1 : Int32) = 0 by decide), gi_nI hv4 (by omega), nI_clamp (by omega), bd_of (eC_knows h5 h7 hv4 hk), bd_of (eR_knows h6 h7 hv4 hk)]
      unfold JX6_learn_32
      rw [ix6_3 hv4, gi6 hv4 (by omega), gi6 hv4 (by omega), nm_eq, nm_eq, cl6 hv4 (by omega), h6.2.2.2.2.2.2.1 v hv4 3 (by omega), h5.2.2 v hv4 3 (by omega), shl_pow k (by omega), or_nI]
      simp only [nm_eq, gi6 hv4 (show 3 < 6 by omega)]
      have r1 := RT_row h6 (i := 3) hv4 (by omega) (T.2.2 v 3 ||| 2 ^ k)
      have W1 : Wf (B + 1) (sC T v 3 (T.2.2 v 3 ||| 2 ^ k)) := Wf_sC (Wf_up h7 (Nat.le_succ B)) ⟨by omega, by omega, by omega, fun _ => or64 w3 (pow64 hk), by omega, by omega⟩
      have fr := frS_now (N := N) (frS_4 (k := 6 * v + 3) (x := nI (T.2.2 v 3 ||| 2 ^ k)))
      cases ek : (T.2.2 v 3).testBit k with
      | false =>
        rw [if_pos (by decide), if_pos (by decide)]
        exact ⟨_, _, _, rfl, rfl, Rel_now hx' (fun i hi => u2_ne (by omega)) fr.1 fr.2 (CT_C h5 (i := 3) hv4 _) r1 W1⟩
      | true =>
        rw [if_neg (by decide), if_neg (by decide)]
        refine ⟨_, _, _, rfl, rfl, Rel_now hx' (fun i hi => rfl) fr.1 fr.2 ?_ r1 W1⟩
        rw [sC_same (by rw [or_same ek])]
        exact h5
    · rw [if_neg c2]; exact ⟨_, M, N, rfl, rfl, Rel_up h'⟩
  · rw [if_neg c]; exact ⟨_, M, N, rfl, rfl, Rel_up h'⟩
theorem sp_night (hF : 100 ≤ F) : Sp B (f_X5_night F) (f_X6_night F) := by
  intro M N h
  have h' := h
  obtain ⟨n, ht, hi, tn, pg, T, K, hx⟩ := h
  have hx' := hx
  obtain ⟨h1, h2, h3, h4, h5, h6, h7, h8, h9⟩ := hx
  unfold f_X5_night f_X6_night
  rw [h2.1, h2.2.1]
  by_cases e : ht = 0
  · rw [e, if_pos nI_0, if_pos nI_0]
    exact ⟨_, M, N, rfl, rfl, Rel_up h'⟩
  · have := h2.2.2
    rw [if_neg (nI_ne0 (by omega) (by omega)), if_neg (nI_ne0 (by omega) (by omega))]
    obtain ⟨M', m1, m2, m3⟩ := eC_next (F := F) hF h5 h7
    obtain ⟨N', n1, n2, n3, n4⟩ := eR_sleep (F := F) hF h6 h7
    have r := RT_sc n2 (k := 4) (i := 2) (by omega) (T.1 2 + 1)
    rw [bd_of m1, bd_of n1, nm_eq, nm_eq, n2.2.2.1, show (mayT T (T.1 0)).1 2 = T.1 2 from rfl, nI_1, CT_day m2, show (mayT (sS T 2 (T.1 2 + 1)) (T.1 0)).1 2 = T.1 2 + 1 from rfl]
    refine ⟨nI (T.1 2 + 1), M', _, rfl, by rw [u2_at, if_pos ⟨rfl, rfl⟩], Rel_now hx' (fun i hi => m3 i (by omega)) (fun i hi => by rw [u2_ne (by omega), n3 i (by omega)]) (fun j hj => by rw [u2_at, if_neg (fun q => by omega), n3 0 (by omega)]) m2 r (Wf_may (Wf_sS (Wf_up h7 (Nat.le_succ B)) ⟨by omega, by omega, fun _ => by have := h7.2.2.1; omega, by omega⟩) _)⟩
theorem sp_convict (a1 a2 a3 a4 : Int32) : Sp B (f_X5_convict F a1 a2 a3 a4) (f_X6_convict F a1 a2 a3 a4) := by
  intro M N h
  have h' := h
  obtain ⟨n, ht, hi, tn, pg, T, K, hx⟩ := h
  have hx' := hx
  obtain ⟨h1, h2, h3, h4, h5, h6, h7, h8, h9⟩ := hx
  have w := h7.1
  unfold f_X5_convict f_X6_convict
  rw [bd_of (eC_isK a1), bd_of (e_inL F a1 5 4 N (by decide))]
  by_cases k1 : inL a1 5
  · obtain ⟨d1, hd1, rfl⟩ := inL_nI k1 (by omega)
    rw [if_pos k1, if_neg (show ¬ (1 : Int32) = 0 by decide), if_neg (show ¬ (1 : Int32) = 0 by decide), bd_of (e_in F a3 1 9 1 9 N (by decide) (by decide))]
    by_cases k3 : inR a3 1 9
    · obtain ⟨d3, l3, u3, rfl⟩ := inR_nI k3 (by omega)
      rw [if_pos k3, if_neg (show ¬ (1 : Int32) = 0 by decide), if_neg (show ¬ nI d3 < 1 from nI_nlt l3 (by omega)), if_neg (show ¬ 9 < nI d3 from nI_nlt (a := 9) u3 (by omega)), bd_of (e_inL F a4 64 63 N (by decide))]
      by_cases k4 : inL a4 64
      · obtain ⟨d4, hd4, rfl⟩ := inL_nI k4 (by omega)
        rw [if_pos k4, if_neg (show ¬ (1 : Int32) = 0 by decide), if_neg (show ¬ nI d4 < 0 from nI_pos (by omega)), if_pos (show nI d4 ≤ 63 from nI_le (b := 63) (by omega) (by omega)), bd_of (eC_isV h2.1 h2.2.2 _), bd_of (eR_isV h2.2.1 h2.2.2 _)]
        by_cases k2 : ht = 1 ∧ inL a2 3
        · obtain ⟨d2, hd2, rfl⟩ := inL_nI k2.2 (by omega)
          rw [if_pos k2, if_neg (show ¬ (1 : Int32) = 0 by decide), if_neg (show ¬ (1 : Int32) = 0 by decide), CT_cc h5, h6.1, i4]
          by_cases e4 : T.1 0 = 4
          · rw [if_neg (nI_nlt (by omega) (by omega)), if_pos (by rw [e4])]
            exact ⟨_, M, N, rfl, rfl, Rel_up h'⟩
          · have hc : T.1 0 < 4 := by omega
            rw [if_pos (nI_lt hc (by omega)), if_neg (fun q => e4 ((nI_eq (by omega) (by omega)).mp q)), nm_eq, gi_nI hc (by omega), nI_clamp (by omega)]
            -- the class
            have c1 := CT_C (CT_C (CT_C (CT_C h5 (i := 0) hc d1) (i := 1) hc d2) (i := 2) hc d3) (i := 3) hc d4
            have c2 := CT_C (CT_C c1 (i := 4) hc (adN d1)) (i := 5) hc 0
            have c3 := CT_S c2 (i := 0) (by omega) (T.1 0 + 1)
            have W1 : Wf B (sC (sC (sC (sC T (T.1 0) 0 d1) (T.1 0) 1 d2) (T.1 0) 2 d3) (T.1 0) 3 d4) := Wf_sC (Wf_sC (Wf_sC (Wf_sC h7 (by omega)) (by omega)) (by omega)) (by omega)
            have ek : (sC (sC (sC (sC T (T.1 0) 0 d1) (T.1 0) 1 d2) (T.1 0) 2 d3) (T.1 0) 3 d4).2.2 (T.1 0) 0 = d1 := by simp [sC]
            have had := adN_le d1
            have W2 : Wf (B + 1) (sS (sC (sC (sC (sC (sC (sC T (T.1 0) 0 d1) (T.1 0) 1 d2) (T.1 0) 2 d3) (T.1 0) 3 d4) (T.1 0) 4 (adN d1)) (T.1 0) 5 0) 0 (T.1 0 + 1)) := Wf_up (Wf_sS (Wf_sC (Wf_sC W1 (by omega)) (by omega)) (by omega)) (Nat.le_succ B)
            -- the reference
            have r1 := RT_row (RT_row (RT_row (RT_row h6 (i := 0) hc (by omega) d1) (i := 1) hc (by omega) d2) (i := 2) hc (by omega) d3) (i := 3) hc (by omega) d4
            have r2 := RT_row (RT_row r1 (i := 4) hc (by omega) (adN d1)) (i := 5) hc (by omega) 0
            have r3 := RT_sc r2 (k := 8) (i := 0) (by omega) (T.1 0 + 1)
            have hcc : ∀ (N1 : Mem) (k : Nat) (x : Int32), N1.1 0 8 = nI (T.1 0) → (u2 N1 4 k x).1 0 8 = nI (T.1 0) := fun N1 k x e => by rw [u2_ne (by omega)]; exact e
            refine ⟨nI (T.1 0), _, _, ?_, ?_, Rel_now hx' ?_ ?_ ?_ c3 r3 W2⟩
            · unfold f_X0_begin
              simp only [nm_eq]
              rw [bd_of (bd_of (r := nI (adN d1)) (by rw [eC_may c1 W1 hc, ek])), show ∀ M1 : Mem, (u2 (u2 M1 (6 + 6 + T.1 0) 4 (nI (adN d1))) (6 + 6 + T.1 0) 5 0).1 6 2 = M1.1 6 2 from fun M1 => by rw [u2_ne (by omega), u2_ne (by omega)], CT_cc c1, show (sC (sC (sC (sC T (T.1 0) 0 d1) (T.1 0) 1 d2) (T.1 0) 2 d3) (T.1 0) 3 d4).1 0 = T.1 0 from rfl, nI_1]
              rfl
            · have z0 : N.1 0 8 = nI (T.1 0) := h6.1
              rw [ix6z, gi6z hc, nm_eq, cl6z hc]
              have z1 := hcc _ (6 * T.1 0 + 0) (nI d1) z0
              rw [z1, ix6_1 hc, gi6 hc (by omega), nm_eq, cl6 hc (by omega)]
              have z2 := hcc _ (6 * T.1 0 + 1) (nI d2) z1
              rw [z2, ix6_2 hc, gi6 hc (by omega), nm_eq, cl6 hc (by omega)]
              have z3 := hcc _ (6 * T.1 0 + 2) (nI d3) z2
              rw [z3, ix6_3 hc, gi6 hc (by omega), nm_eq, cl6 hc (by omega)]
              have z4 := hcc _ (6 * T.1 0 + 3) (nI d4) z3
              rw [bd_of (eR_aDay (show d1 ≤ 4 by omega)), z4, ← i4, ix6_4 hc, gi6 hc (by omega), nm_eq, cl6 hc (by omega)]
              have z5 := hcc _ (6 * T.1 0 + 4) (nI (adN d1)) z4
              rw [z5, ix6_5 hc, gi6 hc (by omega), nm_eq, cl6 hc (by omega), nm_eq]
              have z6 := hcc _ (6 * T.1 0 + 5) 0 z5
              rw [z6, nI_1, nm_eq, u2_at, if_pos ⟨rfl, rfl⟩, i1, pk_sub (by omega)]
              rfl
            · intro i hi
              rw [u2_ne (by omega), u2_ne (by omega), u2_ne (by omega), u2_ne (by omega), u2_ne (by omega), u2_ne (by omega), u2_ne (by omega)]
            · intro i hi
              rw [u2_ne (by omega), u2_ne (by omega), u2_ne (by omega), u2_ne (by omega), u2_ne (by omega), u2_ne (by omega), u2_ne (by omega)]
            · intro j hj
              rw [u2_at, if_neg (fun q => by omega), u2_ne (by omega), u2_ne (by omega), u2_ne (by omega), u2_ne (by omega), u2_ne (by omega), u2_ne (by omega)]
        · rw [if_neg k2]; exact ⟨_, M, N, rfl, rfl, Rel_up h'⟩
      · rw [if_neg k4, if_pos rfl]
        refine ⟨mI 102, M, N, ?_, rfl, Rel_up h'⟩
        by_cases c1 : a4 < 0
        · rw [if_pos c1]
        · rw [if_neg c1, if_neg (fun q => k4 ⟨by have := mt lt0_iff.mpr c1; omega, by have := (le_nI (n := 63) (by omega)).mp q; omega⟩)]
    · rw [if_neg k3, if_pos rfl]
      refine ⟨mI 102, M, N, ?_, rfl, Rel_up h'⟩
      by_cases c1 : a3 < 1
      · rw [if_pos c1]
      · rw [if_neg c1, if_pos (by
          apply Classical.byContradiction
          intro q
          exact k3 ⟨by have := mt (lt_nI (n := 1) (by omega)).mpr c1; omega, by have := mt (nI_ltA (n := 9) (by omega)).mpr q; omega⟩)]
  · rw [if_neg k1]; exact ⟨_, M, N, rfl, rfl, Rel_up h'⟩
end AC
