/-! What a start gives besides the cells: links between nest mates; for throws the tables' words, the String constants, two statics of Throwable. -/
def xn : List String := ["java/lang/RuntimeException", "java/lang/Exception"]
def xIA : String := "java/lang/IllegalArgumentException"
def xIS : String := "java/lang/IllegalStateException"
def xIB : String := "java/lang/IndexOutOfBoundsException"
def XW : List Cond := vx_atS "PreferenceCount" 38 xIA xn ++ (vx_atS "PreferenceCount" 92 xIS xn ++ vx_atS "PreferenceCount" 157 xIB xn)
def XS : List (Nat × String) := [(36, "2 to 12 candidates, 1 to 4 seats, fewer seats than candidates"), (190, "the count has begun"), (52, "no such candidate, or a number that is not free from 0 to 999"), (69, "no such candidate, withdrawn already, or too few would be left"), (82, "no ranking of 1 to 7 candidates, or not 1 to 50 papers in all"), (90, "there are no papers"), (121, "the count has not begun, or is over"), (155, "no such candidate"), (192, "no such stage or candidate")]
theorem XW_in : ∀ w ∈ XW, w ∈ lw_tbl := by decide +kernel
theorem XW_ok : ∀ w ∈ XW, (w.onTables && w.keepsFace) = true := by decide +kernel
theorem face_at {args a' : Array Value} {s U : State} (hW : s.WarmedH U.vm) {c : Cond} (hc : (c.onTables && c.keepsFace) = true) (h : c.before args s = true) : c.before a' U = true := by
  simp only [Bool.and_eq_true] at hc
  have h1 : c.before args (s.setVm U.vm) = true := Cond.before_shiftedFace (State.Shifted.of_warmed hW) _ hc.2 h
  exact va_tabs (u := s.setVm U.vm) hc.1 rfl h1
def NXn (U : State) : Prop := va_Nw (.methodLinkNest "PreferenceCount$Fractions" 28 y_C_commonDivisor "PreferenceCount") U ∧ va_Nw (.methodLinkNest "PreferenceCount" 11 y_R_init "PreferenceCount") U ∧ va_Nw (.methodLinkNest "PreferenceCount" 18 y_P_init "PreferenceCount") U ∧ va_Nw (.methodLinkNest "PreferenceCount" 29 y_S_init "PreferenceCount") U
def NX (A : Nat → Prop) (U : State) (H : Heap) : Prop := NXn U ∧ (∀ w ∈ XW, va_Nw w U) ∧ (∀ q ∈ XS, ∃ a : Nat, vk_R "PreferenceCount" q.1 q.2 a U) ∧ vx_Zq Bundle.tN "UNASSIGNED_STACK" Bundle.steD A U H ∧ vx_Zq Bundle.tN "SUPPRESSED_SENTINEL" Bundle.listD A U H ∧ va_Nc xIA xIS U ∧ va_AO "PreferenceCount$Stage" U
theorem NX.to {A B : Nat → Prop} {s U : State} {H0 H : Heap} (h : NX A s H0) (hW : s.WarmedH U.vm) (hk : ∀ a : Nat, a < H0.size → ¬ A a → H[a]? = H0[a]?) (hAB : ∀ q, B q → A q) : NX B U H := by
  obtain ⟨⟨n1, n2, n3, n4⟩, hw, hs, z1, z2, z3, z4⟩ := h
  refine ⟨⟨va_Nw.warmM hW n1, va_Nw.warmM hW n2, va_Nw.warmM hW n3, va_Nw.warmM hW n4⟩, fun w h => face_at hW (XW_ok w h) (hw w h), fun q hq => ?_, ?_, ?_, z3.moved hW.alike, z4.moved hW.alike⟩
  · obtain ⟨a, ha⟩ := hs q hq
    exact ⟨a, vk_R.warm hW ha⟩
  · exact ((z1.kept hk).narrow hAB).moved hW.alike
  · exact ((z2.kept hk).narrow hAB).moved hW.alike
theorem NX.blind {A : Nat → Prop} {U V : State} {H : Heap} (hv : V.vm = U.vm) (h : NX A U H) : NX A V H := by
  obtain ⟨⟨n1, n2, n3, n4⟩, hw, hs, z1, z2, z3, z4⟩ := h
  have ha : U.vm.Alike V.vm := by rw [hv]; exact Vm.Alike.refl _
  refine ⟨⟨va_Nw.same rfl hv.symm n1, va_Nw.same rfl hv.symm n2, va_Nw.same rfl hv.symm n3, va_Nw.same rfl hv.symm n4⟩, fun w h => va_Nw.same ?_ hv.symm (hw w h), fun q hq => ?_, z1.moved ha, z2.moved ha, z3.moved ha, z4.moved ha⟩
  · have := XW_ok w h
    simp only [Bool.and_eq_true] at this
    exact this.1
  · obtain ⟨a, ha⟩ := hs q hq
    exact ⟨a, vk_R.same hv ha⟩
