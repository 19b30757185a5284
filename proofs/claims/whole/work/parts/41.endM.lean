/-! the reference's endStage whole -/
section EM
variable {n k el ex : Nat} {dr : Nat → Nat} {st : Nat → Int} {s : Nat} {P : Nat} {to : Nat → Nat → Nat} {dn : Nat → Nat}
theorem totM_go {Q : Mem → Prop} {τ0 : Mem} {wb v : Nat → Nat} {ke : Nat → Bool} {de : Nat} (hn : n ≤ 12) (h1 : τ0.1 0 1 = nI n) (h15 : τ0.1 0 15 = nI s) (hs : s < 13) (hq : mq τ0 P k de) (hk : keM τ0 ke) (hke : ∀ c, ke c = true → c < n) (h6 : ∀ p, p < P → τ0.1 6 p = nI (cM n (wb p)) ∧ wb p ≤ n) (h7 : ∀ p, p < P → τ0.2 7 p = lN (v p)) (hQ : ∀ τ, τ.1 = τ0.1 → (∀ o, o ≠ 9 → τ.2 o = τ0.2 o) → (∀ j, j < 13 * s → τ.2 9 j = τ0.2 9 j) → (∀ c, c ≤ n → τ.2 9 (13 * s + cM n c) = lN (smP P k de ke wb v c)) → wp_M_first (fun r71 σ71 => ∃ k75 : Nat, wp_M_endStage_75 Q k75 r71 σ71) (1 : Int32) (1 : Int32) τ) : ∀ (t i : Nat) (τ : Mem), i + t = 13 → τ.1 = τ0.1 → (∀ o, o ≠ 9 → τ.2 o = τ0.2 o) → (∀ j, j < 13 * s → τ.2 9 j = τ0.2 9 j) → (∀ c, c ≤ n → cM n c < i → τ.2 9 (13 * s + cM n c) = lN (smP P k de ke wb v c)) → wp_M_endStage_19 Q (t + 1) (nI i) τ := by
  intro t
  induction t with
  | zero =>
    intro i τ hi a1 a2 a3 a4
    have : i = 13 := by omega
    subst this
    exact ⟨fun _ => hQ τ a1 a2 a3 (fun c hc => a4 c hc (by have := cM_le hc hn; omega)), fun q => absurd (by decide) q⟩
  | succ t ih =>
    intro i τ hi a1 a2 a3 a4
    have h61 : ∀ u : Int64, (∀ c, c ≤ n → cM n c = i → u = lN (smP P k de ke wb v c)) → wp_M_endStage_61 Q (wp_M_endStage_19 Q (t + 1)) (nI i) u (nI (13 * s + i)) τ := fun u hu => by
      refine ⟨vp_in_nI (by omega) (by decide), fun τ1 e1 w e => ?_⟩
      rw [nI_1] at e
      subst e
      rw [nI_clamp (by omega)] at e1
      subst e1
      refine ih (i + 1) _ (by omega) a1 (fun o o9 => ?_) (fun j hj => ?_) (fun c hc hci => ?_)
      · rw [(mL_ne o o9).2]
        exact a2 o o9
      · rw [mL_at, if_neg (by omega)]
        exact a3 j hj
      · rw [mL_at]
        by_cases e : cM n c = i
        · rw [if_pos ⟨rfl, by omega⟩]
          exact hu c hc e
        · rw [if_neg (by omega)]
          exact a4 c hc (by omega)
    have h52 : ∀ c, c ≤ n → cM n c = i → wp_M_endStage_52 Q (wp_M_endStage_19 Q (t + 1)) (nI i) (nI (13 * s + i)) τ := fun c hc e => by
      have hq' : mq τ P k de := by
        obtain ⟨b1, b2, b3, b4, b5, b6, b7⟩ := hq
        exact ⟨by rw [a1]; exact b1, b2, by rw [a2 0 (by decide)]; exact b3, b4, b5, b6, by rw [a1]; exact b7⟩
      have := sumM_spec (Q := fun r54 σ54 => wp_M_endStage_61 Q (wp_M_endStage_19 Q (t + 1)) (nI i) r54 (nI (13 * s + i)) σ54) (wb := wb) (v := v) hn hq' (fun c hc => by rw [a1]; exact hk c hc) hke (fun p hp => by rw [a1]; exact h6 p hp) (fun p hp => by rw [a2 7 (by decide)]; exact h7 p hp) hc (h61 _ (fun c' hc' e' => by
        have := (cM_inj hc hc' hn).mp (by omega)
        rw [this]))
      rw [e] at this
      exact this
    refine ⟨fun q => absurd q (nI_ge (b := 13) (by omega) (by decide)), fun _ => ?_⟩
    rw [a1, h1, h15, i13, nI_ltI (by omega) (by omega)]
    refine ⟨fun q => h52 i (by omega) (cM_lt q), fun q => ?_⟩
    rw [show (12 : Int32) = nI 12 by decide, nI_eq (by omega) (by decide)]
    refine ⟨fun e => h52 n (Nat.le_refl _) (by rw [show cM n n = 12 from if_pos rfl]; exact e.symm), fun e => h61 0 (fun c hc e' => ?_)⟩
    by_cases z : c = n
    · rw [z, show cM n n = 12 from if_pos rfl] at e'
      omega
    · rw [cM_lt (by omega)] at e'
      omega
theorem endStageM_spec {Q : Mem → Prop} {τ : Mem} {wb v : Nat → Nat} {ke : Nat → Bool} {de el2 : Nat} {st2 : Nat → Int} {ov : Bool} (hI : rlI n k el ex dr st) (hM : rlM τ n k el ex dr st) (h15 : τ.1 0 15 = nI s) (hs : s < 13) (h7 : τ.1 0 7 = nI P) (hP : P ≤ 50) (h14 : τ.2 0 14 = lN de) (hde : de < 2 ^ 63) (hg0 : 0 < de / (k + 1)) (hv : ∀ p, p < P → τ.2 7 p = lN (v p) ∧ v p < 2 ^ 63) (hk : keM τ ke) (hke : ∀ c, ke c = true → c < n) (h6 : ∀ p, p < P → τ.1 6 p = nI (cM n (wb p)) ∧ wb p ≤ n) (hds : dn s = de / gf v P (de / (k + 1))) (hqt : qt P k (dn s) < 2 ^ 63) (hB : tB n s to dn) (hlow : ∀ s', s' < s → ∀ c, c ≤ n → τ.2 9 (13 * s' + cM n c) = lN (to s' c)) (hTs : ∀ c, c ≤ n → to s c = smP P k (dn s) ke wb (fun p => v p / gf v P (de / (k + 1))) c) (hst : stl to dr s n k (qt P k (dn s)) st el st2 el2 ov) (hQ : ∀ τ', oM τ' n k el2 ex dr st2 s to dn → (∀ o, o ≠ 0 → o ≠ 2 → τ'.1 o = τ.1 o) → (∀ i, i ≠ 5 → i ≠ 19 → τ'.1 0 i = τ.1 0 i) → τ'.1 0 19 = ovI ov → τ'.2 0 14 = lN (dn s) → (∀ p, p < P → τ'.2 7 p = lN (v p / gf v P (de / (k + 1)))) → τ'.2 10 s = lN (dn s) → (∀ j, j ≠ s → τ'.2 10 j = τ.2 10 j) → Q τ') : wp_M_endStage Q τ := by
  have hn := hI.2.1
  have hk4 := hI.2.2.2.1
  refine lessM_spec h7 hP hM.2.1 hk4 h14 hde hg0 hv (fun τ1 b1 b2 b3 b4 => ?_)
  rw [b1, h15, nI_clamp (by omega), b3, ← hds]
  refine ⟨vp_in_nI (by omega) (by decide), fun τ2 e2 => ⟨14, ?_⟩⟩
  have c1 : τ2.1 = τ.1 := by rw [e2]; exact b1
  have c14 : τ2.2 0 14 = lN (dn s) := by rw [e2, mL_at, if_neg (by omega), b3, hds]
  have hq2 : mq τ2 P k (dn s) := ⟨by rw [c1]; exact h7, hP, c14, (hB s (Nat.le_refl _)).2.1, hqt, hk4, by rw [c1]; exact hM.2.1⟩
  rw [nI_0']
  refine totM_go (k := k) (de := dn s) (wb := wb) (v := fun p => v p / gf v P (de / (k + 1))) (ke := ke) hn (by rw [c1]; exact hM.1) (by rw [c1]; exact h15) hs hq2 (fun c hc => by rw [c1]; exact hk c hc) hke (fun p hp => by rw [c1]; exact h6 p hp) (fun p hp => by rw [e2, mL_at, if_neg (by omega)]; exact b4 p hp) (fun τ3 d1 d2 d3 d4 => ?_) 13 0 τ2 (by omega) rfl (fun _ _ => rfl) (fun _ _ => rfl) (fun c _ h => absurd h (by omega))
  have f1 : τ3.1 = τ.1 := d1.trans c1
  have hM3 : rlM τ3 n k el ex dr st := by unfold rlM; rw [f1]; exact hM
  have hq3 : mq τ3 P k (dn s) := by
    obtain ⟨z1, z2, z3, z4, z5, z6, z7⟩ := hq2
    exact ⟨by rw [d1]; exact z1, z2, by rw [d2 0 (by decide)]; exact z3, z4, z5, z6, by rw [d1]; exact z7⟩
  have ho : oM τ3 n k el ex dr st s to dn := by
    refine ⟨hI, hM3, by rw [f1]; exact h15, hs, fun s' hs' c hc => ?_, hB⟩
    by_cases e : s' = s
    · subst e
      rw [d4 c hc, hTs c hc]
    · have h12 := cM_le hc hn
      rw [d3 _ (by omega), e2, (mL_ne 9 (by decide)).2, b2 9 (by decide) (by decide)]
      exact hlow s' (by omega) c hc
  refine endM_spec ho hq3 hst (fun τ4 g1 g2 g3 => hQ τ4 g1 (fun o o0 o2 => ?_) (fun i i5 i19 => ?_) g3 ?_ (fun p hp => ?_) ?_ (fun j hj => ?_))
  · rw [g2.2.1 o o0 o2, f1]
  · rw [g2.2.2 i i5 i19, f1]
  · rw [g2.1, d2 0 (by decide)]
    exact c14
  · rw [g2.1, d2 7 (by decide), e2, mL_at, if_neg (by omega)]
    exact b4 p hp
  · rw [g2.1, d2 10 (by decide), e2, mL_at, if_pos ⟨rfl, rfl⟩]
  · rw [g2.1, d2 10 (by decide), e2, mL_at, if_neg (by omega), b2 10 (by decide) (by decide)]
end EM
