/-! THE LITERAL at the law's entry -/
theorem StrX_narrow {A B : Nat → Prop} {q1 q2 : Nat} {U : State} (h : StrX A q1 q2 U) (hAB : ∀ q, B q → A q) : StrX B q1 q2 U := by
  obtain ⟨h1, h2, h3, h4, h5, h6, v, hv, h7⟩ := h
  exact ⟨h1, h2.narrow hAB, h3.narrow hAB, h4.narrow hAB, h5.narrow hAB, h6.narrow hAB, v, hv, h7.narrow hAB⟩
theorem StrX_same {A : Nat → Prop} {q1 q2 : Nat} {u U : State} (hv : U.vm = u.vm) (hh : U.heap = u.heap) (h : StrX A q1 q2 u) : StrX A q1 q2 U := by
  obtain ⟨h1, h2, h3, h4, h5, h6, v, hv', h7⟩ := h
  have al : u.vm.Alike U.vm := by rw [hv]; exact Vm.Alike.refl _
  refine ⟨h1.same hv, ?_, ?_, ?_, ?_, ?_, v, hv', ?_⟩
  all_goals rw [hh]
  · exact h2.moved al
  · exact h3.moved al
  · exact h4.moved al
  · exact h5.moved al
  · exact h6.moved al
  · exact h7.moved al
theorem StrX_warm {A : Nat → Prop} {q1 q2 : Nat} {u U : State} (hW : u.WarmedH U.vm) (hh : ∀ q : Nat, q < u.heap.size → ¬ A q → U.heap[q]? = u.heap[q]?) (h : StrX A q1 q2 u) : StrX A q1 q2 U := by
  obtain ⟨h1, h2, h3, h4, h5, h6, v, hv', h7⟩ := h
  have al : u.vm.Alike U.vm := hW.alike
  exact ⟨h1.warm hW, (h2.moved al).kept hh, (h3.moved al).kept hh, (h4.moved al).kept hh, (h5.moved al).kept hh, (h6.moved al).kept hh, v, hv', (h7.moved al).kept hh⟩
set_option maxRecDepth 100000 in
theorem str_at {b : Nat} {s : State} (hts : ∀ w ∈ lw_tbl, w.before #[Value.ref b] s = true) (hgv : (Jvm.Cond.and given_1 narrow_1).before #[Value.ref b] s = true) : ∃ q1 q2, StrX (fun q : Nat => s.heap.size ≤ q) q1 q2 s := by
  have hs := flat_of_before _ hgv
  have hA : ∀ a : Nat, a < s.heap.size → ¬ (fun q : Nat => s.heap.size ≤ q) a := fun a h => Nat.not_le.mpr h
  obtain ⟨adK, adV, h1, h2⟩ := vk_Sof (args := #[Value.ref b]) (s := s) (N := 1) (tm := fun _ => .string "KindWords" 45) (len := [10]) (byt := [[55, 55, 44, 55, 55, 44, 55, 55, 59, 57]]) (A := fun q : Nat => s.heap.size ≤ q) (fun i hi => by rw [show i = 0 by omega]; decide) (fun i _ => hs _ (by decide +kernel)) (fun i _ => hs _ (by decide +kernel)) (fun i _ => hs _ (by decide +kernel)) (fun i hi => by
    obtain rfl : i = 0 := by omega
    exact hs _ (by decide +kernel)) (fun i hi j hj => by
    obtain rfl : i = 0 := by omega
    have hj : j < 10 := hj
    obtain (rfl | rfl | rfl | rfl | rfl | rfl | rfl | rfl | rfl | rfl) : j = 0 ∨ j = 1 ∨ j = 2 ∨ j = 3 ∨ j = 4 ∨ j = 5 ∨ j = 6 ∨ j = 7 ∨ j = 8 ∨ j = 9 := by omega
    all_goals exact hs _ (by decide +kernel)) (fun i j h h' n => by omega) hA
  obtain ⟨o1, o2, o3, o4⟩ := h1.1 0 (by decide)
  have z1 : va_Z "java/lang/String" "COMPACT_STRINGS" "Z" (.int 1) (fun q : Nat => s.heap.size ≤ q) s s.heap := va_Zof (hts (.laysStatic "java/lang/String" "COMPACT_STRINGS" "Z") (by decide +kernel)) (hts (.initialized "java/lang/String") (by decide +kernel)) (va_eqt (hs _ (by decide +kernel))) hA
  have z2 : va_Zq "jdk/internal/util/Preconditions" "SIOOBE_FORMATTER" "Ljava/util/function/BiFunction;" (fun q : Nat => s.heap.size ≤ q) s s.heap := va_Zqof (hts (.laysStatic "jdk/internal/util/Preconditions" "SIOOBE_FORMATTER" "Ljava/util/function/BiFunction;") (by decide +kernel)) (hts (.initialized "jdk/internal/util/Preconditions") (by decide +kernel)) (hs _ (by decide +kernel)) hA
  refine ⟨adK 0, adV 0, vk_R.of (hts _ tq_1_203) (h2 0 (by decide)), o1, o2, o3, o4, z1, ?_⟩
  rcases z2 with z | ⟨t, z⟩
  · exact ⟨_, rfl, z⟩
  · exact ⟨_, rfl, z⟩
