/-! the law's loop: every call, both sides alike -/
def QX0 : Mem → Prop := fun σ => suX σ 2 1 0 0 (fun c => c) (fun _ => 0) 0 (fun _ => 0) (fun _ => 0) 0
def QM0 : Mem → Prop := fun τ => suM τ 2 1 0 0 (fun c => c) (fun _ => 0) (fun _ => 0) (fun _ => 0) (fun _ => 0) 0
theorem sem_X : ∀ σ : Mem, wp_C_startAnew QX0 2 1 σ := fun σ => (startX_su (n := 2) (k := 1) (fun _ h => h) : wp_C_startAnew QX0 (nI 2) (nI 1) σ)
theorem sem_M : wp_M_clear QM0 2 1 σM0 := (clearM_su (n := 2) (k := 1) (fun _ _ h => h) : wp_M_clear QM0 (nI 2) (nI 1) σM0)
theorem law_go {xs : Nat → Int32} {L : Nat} (hL : L ≤ 2048) : ∀ (t i : Nat) (σ τ : Mem) (ou : Nat → Int64), L < i + 4 * t + 4 → i ≤ 4096 → RR σ τ → wp_law xs L (t + 1) (nI i) σ τ ou := by
  have stop : ∀ i, i ≤ 4096 → ¬ (Int32.ofNat L) - (4 : Int32) < nI i → i + 4 ≤ L := fun i hi q => by
    have q : ¬ nI L - nI 4 < nI i := q
    rcases Nat.lt_or_ge L 4 with z | z
    · exact absurd (Int32.lt_of_lt_of_le (pk_sneg (by decide) z) (nI_pos' (by omega))) q
    · rw [pk_sub z, nI_ltI (by omega) (by omega)] at q
      omega
  intro t
  induction t with
  | zero =>
    intro i σ τ ou hi hi2 h
    refine ⟨fun _ => trivial, fun q => ?_⟩
    have := stop i hi2 q
    omega
  | succ t ih =>
    intro i σ τ ou hi hi2 h
    refine ⟨fun _ => trivial, fun q => ?_⟩
    have hL4 := stop i hi2 q
    have hend : ∀ (σ' τ' : Mem) (ou' : Nat → Int64), RR σ' τ' → ∀ v : Int32, v = nI i + 4 → wp_law xs L (t + 1) v σ' τ' ou' := fun σ' τ' ou' hr v e => by
      rw [show (4 : Int32) = nI 4 by decide, nI_add] at e
      subst e
      exact ih (i + 4) σ' τ' ou' (by omega) (by omega) hr
    have v0 : vp_in (nI i) L := vp_in_nI (by omega) (by omega)
    have v1 : vp_in (nI i + (1 : Int32)) L := by rw [nI_1]; exact vp_in_nI (by omega) (by omega)
    have v2 : vp_in (nI i + (2 : Int32)) L := by rw [show (2 : Int32) = nI 2 by decide, nI_add]; exact vp_in_nI (by omega) (by omega)
    have v3 : vp_in (nI i + (3 : Int32)) L := by rw [show (3 : Int32) = nI 3 by decide, nI_add]; exact vp_in_nI (by omega) (by omega)
    refine ⟨v0, fun _ => ?_, fun _ => ⟨fun _ => ?_, fun _ => ⟨fun _ => ?_, fun _ => ⟨fun _ => ?_, fun _ => ⟨fun _ => ?_, fun _ => ⟨fun _ => ?_, fun _ => ⟨fun _ => ?_, fun _ => ⟨fun _ => ?_, fun _ => ⟨fun _ => ?_, fun _ => ⟨fun _ => ?_, fun _ => ⟨fun _ => ?_, fun _ => ⟨fun _ => ?_, fun _ => ?_⟩⟩⟩⟩⟩⟩⟩⟩⟩⟩⟩⟩
    · exact ⟨v1, v2, begin_law h (fun r σ' hm => ⟨v1, v2, hm _ (fun τ' hr h0 => ⟨fun _ => hend σ' τ' ou hr, fun q => absurd h0 q⟩)⟩)⟩
    · exact ⟨v1, v2, draw_law h (fun r σ' hm => ⟨v1, v2, hm _ (fun τ' hr h0 => ⟨fun _ => hend σ' τ' ou hr, fun q => absurd h0 q⟩)⟩)⟩
    · exact ⟨v1, withdraw_law h (fun r σ' hm => ⟨v1, hm _ (fun τ' hr h0 => ⟨fun _ => hend σ' τ' ou hr, fun q => absurd h0 q⟩)⟩)⟩
    · unfold wp_law_c3
      generalize (((Int32.toInt64 (xs (Int32.toNatClampNeg (nI i + (1 : Int32))))) <<< (Int32.toInt64 (32 : Int32) &&& 63)) ||| ((Int32.toInt64 (xs (Int32.toNatClampNeg (nI i + (2 : Int32))))) &&& (4294967295 : Int64))) = y
      obtain ⟨m, hm64, rfl⟩ := wb_of y
      exact ⟨v1, v2, v3, lay_law hm64 h (fun r σ' ou' hm => ⟨v1, v2, v3, hm _ (fun b τ' hr h0 ho => ⟨fun _ => ⟨fun q => ⟨fun _ => hend σ' τ' ou' hr, fun q2 => absurd ((lg_cmp_eq _ _).mpr (ho q)) q2⟩, fun _ => hend σ' τ' ou' hr⟩, fun q => absurd h0 q⟩)⟩)⟩
    · exact open_LL h (fun r σ' ou' hm => hm _ (fun b τ' hr h0 ho => ⟨fun _ => ⟨fun q => ⟨fun _ => hend σ' τ' ou' hr, fun q2 => absurd ((lg_cmp_eq _ _).mpr (ho q)) q2⟩, fun _ => hend σ' τ' ou' hr⟩, fun q => absurd h0 q⟩))
    · exact step_LL h (fun r σ' ou' hm => hm _ (fun b τ' hr h0 ho => ⟨fun _ => ⟨fun q => ⟨fun _ => hend σ' τ' ou' hr, fun q2 => absurd ((lg_cmp_eq _ _).mpr (ho q)) q2⟩, fun _ => hend σ' τ' ou' hr⟩, fun q => absurd h0 q⟩))
    · exact over_law h (fun r hm => hm _ (fun τ' hr => ⟨fun _ => hend σ τ' ou hr, fun q => absurd rfl q⟩))
    · exact ⟨v1, state_law h (fun r hm => ⟨v1, hm _ (fun τ' hr => ⟨fun _ => hend σ τ' ou hr, fun q => absurd rfl q⟩)⟩)⟩
    · exact ⟨v1, status_law h (fun r σ' ou' hm => ⟨v1, hm _ (fun b τ' hr h0 ho => ⟨fun _ => ⟨fun q => ⟨fun _ => hend σ' τ' ou' hr, fun q2 => absurd ((lg_cmp_eq _ _).mpr (ho q)) q2⟩, fun _ => hend σ' τ' ou' hr⟩, fun q => absurd h0 q⟩)⟩)⟩
    · refine ⟨v1, v2, v3, fun z => total_law h (fun r σ' ou' hm => ⟨v1, v2, v3, fun _ => hm _ (fun b τ' hr h0 ho => ⟨fun _ => ⟨fun q => ⟨fun _ => hend σ' τ' ou' hr, fun q2 => absurd ((lg_cmp_eq _ _).mpr (ho q)) q2⟩, fun _ => hend σ' τ' ou' hr⟩, fun q => absurd h0 q⟩), fun z2 => absurd z z2⟩), fun z => total_law h (fun r σ' ou' hm => ⟨v1, v2, v3, fun z2 => absurd z2 z, fun _ => hm _ (fun b τ' hr h0 ho => ⟨fun _ => ⟨fun q => ⟨fun _ => hend σ' τ' ou' hr, fun q2 => absurd ((lg_cmp_eq _ _).mpr (ho q)) q2⟩, fun _ => hend σ' τ' ou' hr⟩, fun q => absurd h0 q⟩)⟩)⟩
    · exact ⟨v1, papers_law h (fun r σ' ou' hm => ⟨v1, hm _ (fun b τ' hr h0 ho => ⟨fun _ => ⟨fun q => ⟨fun _ => hend σ' τ' ou' hr, fun q2 => absurd ((lg_cmp_eq _ _).mpr (ho q)) q2⟩, fun _ => hend σ' τ' ou' hr⟩, fun q => absurd h0 q⟩)⟩)⟩
    · exact ⟨v1, v2, moved_law h (fun r σ' ou' hm => ⟨v1, v2, hm _ (fun b τ' hr h0 ho => ⟨fun _ => ⟨fun q => ⟨fun _ => hend σ' τ' ou' hr, fun q2 => absurd ((lg_cmp_eq _ _).mpr (ho q)) q2⟩, fun _ => hend σ' τ' ou' hr⟩, fun q => absurd h0 q⟩)⟩)⟩
    · exact hend σ τ ou h
theorem sem_law {xs : Nat → Int32} {L : Nat} (hL : L ≤ 2048) {σ τ : Mem} {ou : Nat → Int64} (h1 : QX0 σ) (h2 : QM0 τ) : ∃ n, n ≤ 1000 ∧ wp_law xs L n 0 σ τ ou :=
  ⟨513, by decide, by
    rw [nI_0']
    exact law_go hL 512 0 σ τ ou (by omega) (by omega) (Or.inl ⟨2, 1, 0, 0, _, _, 0, _, _, _, _, 0, suI_0 (by omega) (by omega) (by omega) (by omega) (by omega), h1, h2⟩)⟩
