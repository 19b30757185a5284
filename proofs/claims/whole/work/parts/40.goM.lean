/-! papers go on, the stage's sums: the reference -/
def plM (τ : Mem) (rw' ln bo : Nat → Nat) (P : Nat) : Prop := τ.1 0 7 = nI P ∧ (∀ p, p < P → τ.1 4 p = nI (ln (bo p))) ∧ ∀ p, p < P → ∀ j, j < ln (bo p) → τ.1 3 (7 * p + j) = nI (nb (rw' (bo p)) j - 1)
theorem i7 (a b : Nat) : (7 : Int32) * nI a + nI b = nI (7 * a + b) := by rw [show (7 : Int32) = nI 7 by decide, pk_mul, nI_add]
def gO (τ : Mem) (s p f w : Nat) : Mem := mI (mI (mI τ 5 p (nI f)) 6 p (nI w)) 11 (13 * s + w) (τ.1 11 (13 * s + w) + 1)
section GO
variable {n k el ex : Nat} {dr : Nat → Nat} {st : Nat → Int} {s : Nat} {B P : Nat} {ct rw' ln bo : Nat → Nat}
theorem goM_spec {Q : Mem → Prop} {τ : Mem} {p fo : Nat} (hI : rlI n k el ex dr st) (hst : ∀ c, c < 12 → τ.1 2 c = sI (st c)) (h15 : τ.1 0 15 = nI s) (hs : s < 13) (hpI : plI n B ct rw' ln bo P) (hpM : plM τ rw' ln bo P) (hp : p < P) (hfo : fo ≤ fx st (rw' (bo p)) (ln (bo p))) (hQ : Q (gO τ s p (fx st (rw' (bo p)) (ln (bo p))) (cM n (fc n st (rw' (bo p)) (ln (bo p)))))) : wp_M_goOn Q (nI p) (nI fo) τ := by
  have hn := hI.2.1
  have hP := hpI.1
  obtain ⟨-, -, hg⟩ := hpI.2.1 _ (hpI.2.2.1 p hp)
  have h7 := hg.2.1
  have hl := hpM.2.1 p hp
  have hr := hpM.2.2 p hp
  have hfl := fx_le (st := st) (m := rw' (bo p)) (L := ln (bo p))
  have h75 : ∀ w, w ≤ 12 → Q (gO τ s p (fx st (rw' (bo p)) (ln (bo p))) w) → wp_M_goOn_75 Q (nI p) (nI w) (nI p) (mI τ 5 p (nI (fx st (rw' (bo p)) (ln (bo p))))) := fun w hw hq => by
    refine ⟨vp_in_nI (by omega) (by decide), fun τ2 e2 => ?_⟩
    rw [nI_clamp (by omega)] at e2
    have e15 : τ2.1 0 15 = nI s := by rw [e2, mI_at, if_neg (by omega), mI_at, if_neg (by omega)]; exact h15
    have e6 : τ2.1 6 p = nI w := by rw [e2, mI_at, if_pos ⟨rfl, rfl⟩]
    rw [nI_clamp (by omega), e15, e6, i13, nI_clamp (by omega)]
    refine ⟨vp_in_nI (by omega) (by decide), vp_in_nI (by omega) (by decide), vp_in_nI (by omega) (by decide), fun τ3 e3 => ?_⟩
    have e11 : τ2.1 11 (13 * s + w) = τ.1 11 (13 * s + w) := by rw [e2, mI_at, if_neg (by omega), mI_at, if_neg (by omega)]
    rw [e11, e2] at e3
    rw [e3]
    exact hq
  have h37 : wp_M_goOn_37 Q (nI p) (nI (fx st (rw' (bo p)) (ln (bo p)))) τ := by
    refine ⟨vp_in_nI (by omega) (by decide), fun τ1 e1 => ⟨vp_in_nI (by omega) (by decide), ?_⟩⟩
    rw [nI_clamp (by omega)] at e1
    have e4 : τ1.1 4 p = nI (ln (bo p)) := by rw [e1, mI_at, if_neg (by omega)]; exact hl
    rw [nI_clamp (by omega), e4, nI_leI (by omega) (by omega)]
    refine ⟨fun q => ?_, fun q => ?_⟩
    · have e : fc n st (rw' (bo p)) (ln (bo p)) = n := if_neg (by omega)
      rw [e, show cM n n = 12 from if_pos rfl] at hQ
      rw [e1, show (12 : Int32) = nI 12 by decide]
      exact h75 12 (by omega) hQ
    · have e : fc n st (rw' (bo p)) (ln (bo p)) = nb (rw' (bo p)) (fx st (rw' (bo p)) (ln (bo p))) - 1 := if_pos (by omega)
      have hb := hg.2.2.1 (fx st (rw' (bo p)) (ln (bo p))) (by omega)
      rw [e, cM_lt (by omega)] at hQ
      have e3 : τ1.1 3 (7 * p + fx st (rw' (bo p)) (ln (bo p))) = nI (nb (rw' (bo p)) (fx st (rw' (bo p)) (ln (bo p))) - 1) := by rw [e1, mI_at, if_neg (by omega)]; exact hr _ (by omega)
      rw [i7, nI_clamp (by omega), e3]
      refine ⟨vp_in_nI (by omega) (by decide), ?_⟩
      rw [e1]
      exact h75 _ (by omega) hQ
  have hgo : ∀ t i, i + t = fx st (rw' (bo p)) (ln (bo p)) → wp_M_goOn_2 Q (t + 1) (nI p) (nI i) τ := by
    intro t
    induction t with
    | zero =>
      intro i hi
      have : i = fx st (rw' (bo p)) (ln (bo p)) := by omega
      refine ⟨vp_in_nI (by omega) (by decide), ?_⟩
      rw [nI_clamp (show p < 2 ^ 31 by omega), hl, nI_leI (by omega) (by omega), this]
      refine ⟨fun _ => h37, fun q => ?_⟩
      have hb := hg.2.2.1 (fx st (rw' (bo p)) (ln (bo p))) (by omega)
      have hsI := hI.2.2.2.2.2.2.2.1 (nb (rw' (bo p)) (fx st (rw' (bo p)) (ln (bo p))) - 1) (by omega)
      rw [i7, nI_clamp (show 7 * p + fx st (rw' (bo p)) (ln (bo p)) < 2 ^ 31 by omega), hr _ (by omega), nI_clamp (show nb (rw' (bo p)) (fx st (rw' (bo p)) (ln (bo p))) - 1 < 2 ^ 31 by omega), hst _ (by omega), sI_eq0 (by omega) (by omega)]
      exact ⟨vp_in_nI (by omega) (by decide), vp_in_nI (by omega) (by decide), fun _ => h37, fun w => absurd (fx_at (by omega)) w⟩
    | succ t ih =>
      intro i hi
      have hb := hg.2.2.1 i (by omega)
      have hsI := hI.2.2.2.2.2.2.2.1 (nb (rw' (bo p)) i - 1) (by omega)
      refine ⟨vp_in_nI (by omega) (by decide), ?_⟩
      rw [nI_clamp (show p < 2 ^ 31 by omega), hl, nI_leI (by omega) (by omega)]
      refine ⟨fun q => absurd q (by omega), fun _ => ?_⟩
      rw [i7, nI_clamp (show 7 * p + i < 2 ^ 31 by omega), hr _ (by omega), nI_clamp (show nb (rw' (bo p)) i - 1 < 2 ^ 31 by omega), hst _ (by omega), sI_eq0 (by omega) (by omega)]
      refine ⟨vp_in_nI (by omega) (by decide), vp_in_nI (by omega) (by decide), fun w => absurd w (fx_lo (L := ln (bo p)) (by omega)), fun _ v e => ?_⟩
      rw [nI_1] at e
      subst e
      exact ih (i + 1) (by omega)
  exact ⟨fx st (rw' (bo p)) (ln (bo p)) - fo + 1, hgo _ fo (by omega)⟩
def gL (τ0 : Mem) (n s P : Nat) (bo : Nat → Nat) (fr : Nat → Bool) (fb pb : Nat → Nat) (i : Nat) (τ : Mem) : Prop :=
  (∀ o, o ≠ 5 → o ≠ 6 → o ≠ 11 → τ.1 o = τ0.1 o) ∧
  (∀ p, p < P → τ.1 5 p = if fr (bo p) = true ∧ p < i then nI (pb (bo p)) else τ0.1 5 p) ∧
  (∀ p, p < P → τ.1 6 p = if fr (bo p) = true ∧ p < i then nI (cM n (fb (bo p))) else τ0.1 6 p) ∧
  (∀ j, j < 13 * s → τ.1 11 j = τ0.1 11 j) ∧
  ∀ c, c ≤ n → τ.1 11 (13 * s + cM n c) = nI (sm (fun p => if fr (bo p) = true ∧ fb (bo p) = c then 1 else 0) i)
theorem gL_0 {τ0 : Mem} {fr : Nat → Bool} {fb pb : Nat → Nat} (h : ∀ c, c ≤ n → τ0.1 11 (13 * s + cM n c) = 0) : gL τ0 n s P bo fr fb pb 0 τ0 :=
  ⟨fun _ _ _ _ => rfl, fun _ _ => by rw [if_neg (by omega)], fun _ _ => by rw [if_neg (by omega)], fun _ _ => rfl, fun c hc => by rw [h c hc]; exact nI_0.symm⟩
theorem gL_no {τ0 τ : Mem} {fr : Nat → Bool} {fb pb : Nat → Nat} {i : Nat} (h : gL τ0 n s P bo fr fb pb i τ) (hf : ¬ fr (bo i) = true) : gL τ0 n s P bo fr fb pb (i + 1) τ := by
  obtain ⟨f1, h5, h6, h11, hw⟩ := h
  have hx : ∀ p, (fr (bo p) = true ∧ p < i + 1) ↔ (fr (bo p) = true ∧ p < i) := fun p => by
    constructor
    · rintro ⟨a, b⟩
      by_cases e : p = i
      · subst e
        exact absurd a hf
      · exact ⟨a, by omega⟩
    · rintro ⟨a, b⟩
      exact ⟨a, by omega⟩
  refine ⟨f1, fun p hp => ?_, fun p hp => ?_, h11, fun c hc => ?_⟩
  · rw [h5 p hp]
    simp only [hx p]
  · rw [h6 p hp]
    simp only [hx p]
  · rw [hw c hc]
    show nI _ = nI (_ + (if fr (bo i) = true ∧ fb (bo i) = c then 1 else 0))
    rw [if_neg (fun w => hf w.1), Nat.add_zero]
theorem gL_go {τ0 τ : Mem} {fr : Nat → Bool} {fb pb : Nat → Nat} {i : Nat} (hn : n ≤ 12) (hi : i < P) (hfb : fb (bo i) ≤ n) (h : gL τ0 n s P bo fr fb pb i τ) (hf : fr (bo i) = true) : gL τ0 n s P bo fr fb pb (i + 1) (gO τ s i (pb (bo i)) (cM n (fb (bo i)))) := by
  obtain ⟨f1, h5, h6, h11, hw⟩ := h
  have h12 := cM_le hfb hn
  have q : ∀ o j, (gO τ s i (pb (bo i)) (cM n (fb (bo i)))).1 o j = if o = 11 ∧ j = 13 * s + cM n (fb (bo i)) then τ.1 11 (13 * s + cM n (fb (bo i))) + 1 else if o = 6 ∧ j = i then nI (cM n (fb (bo i))) else if o = 5 ∧ j = i then nI (pb (bo i)) else τ.1 o j := fun o j => by
    unfold gO
    rw [mI_at, mI_at, mI_at]
  refine ⟨fun o o5 o6 o11 => ?_, fun p hp => ?_, fun p hp => ?_, fun j hj => ?_, fun c hc => ?_⟩
  · rw [← f1 o o5 o6 o11]
    funext j
    rw [q, if_neg (by omega), if_neg (by omega), if_neg (by omega)]
  · rw [q, if_neg (by omega), if_neg (by omega)]
    by_cases e : p = i
    · subst e
      rw [if_pos ⟨rfl, rfl⟩, if_pos ⟨hf, by omega⟩]
    · rw [if_neg (by omega), h5 p hp]
      by_cases w : fr (bo p) = true ∧ p < i
      · rw [if_pos w, if_pos ⟨w.1, by omega⟩]
      · rw [if_neg w, if_neg (fun z => w ⟨z.1, by omega⟩)]
  · rw [q, if_neg (by omega)]
    by_cases e : p = i
    · subst e
      rw [if_pos ⟨rfl, rfl⟩, if_pos ⟨hf, by omega⟩]
    · rw [if_neg (by omega), if_neg (by omega), h6 p hp]
      by_cases w : fr (bo p) = true ∧ p < i
      · rw [if_pos w, if_pos ⟨w.1, by omega⟩]
      · rw [if_neg w, if_neg (fun z => w ⟨z.1, by omega⟩)]
  · rw [q, if_neg (by omega), if_neg (by omega), if_neg (by omega)]
    exact h11 j hj
  · show _ = nI (_ + (if fr (bo i) = true ∧ fb (bo i) = c then 1 else 0))
    rw [q]
    by_cases e : fb (bo i) = c
    · subst e
      rw [if_pos ⟨rfl, rfl⟩, if_pos ⟨hf, rfl⟩, hw _ hfb, nI_1]
    · rw [if_neg (fun w => e ((cM_inj hfb hc hn).mp (by omega))), if_neg (by omega), if_neg (by omega), if_neg (fun w => e w.2), hw c hc, Nat.add_zero]
theorem begM_spec {Q : Mem → Prop} {τ : Mem} (h15 : τ.1 0 15 + 1 = nI s) (hs : s < 13) (hQ : ∀ τ', τ'.2 = τ.2 → (∀ o, o ≠ 0 → o ≠ 11 → τ'.1 o = τ.1 o) → (∀ i, i ≠ 15 → τ'.1 0 i = τ.1 0 i) → τ'.1 0 15 = nI s → (∀ j, j < 13 * s → τ'.1 11 j = τ.1 11 j) → (∀ c, c < 13 → τ'.1 11 (13 * s + c) = 0) → Q τ') : wp_M_beginStage Q τ := by
  intro τ1 e1
  rw [h15] at e1
  have hgo : ∀ t i τ2, i + t = 13 → τ2.2 = τ.2 → (∀ o, o ≠ 0 → o ≠ 11 → τ2.1 o = τ.1 o) → (∀ i, i ≠ 15 → τ2.1 0 i = τ.1 0 i) → τ2.1 0 15 = nI s → (∀ j, j < 13 * s → τ2.1 11 j = τ.1 11 j) → (∀ c, c < i → τ2.1 11 (13 * s + c) = 0) → wp_M_beginStage_12 Q (t + 1) (nI i) τ2 := by
    intro t
    induction t with
    | zero =>
      intro i τ2 hi a1 a2 a3 a4 a5 a6
      have : i = 13 := by omega
      subst this
      exact ⟨fun _ => hQ τ2 a1 a2 a3 a4 a5 a6, fun q => absurd (by decide) q⟩
    | succ t ih =>
      intro i τ2 hi a1 a2 a3 a4 a5 a6
      refine ⟨fun q => absurd q (nI_ge (b := 13) (by omega) (by decide)), fun _ => ?_⟩
      rw [a4, i13, nI_clamp (by omega)]
      refine ⟨vp_in_nI (by omega) (by decide), fun τ3 e3 v e => ?_⟩
      rw [nI_1] at e
      subst e
      subst e3
      refine ih (i + 1) _ (by omega) a1 (fun o o0 o11 => ?_) (fun j hj => ?_) ?_ (fun j hj => ?_) (fun c hc => ?_)
      · rw [(mI_ne o o11).1]
        exact a2 o o0 o11
      · rw [mI_at, if_neg (by omega)]
        exact a3 j hj
      · rw [mI_at, if_neg (by omega)]
        exact a4
      · rw [mI_at, if_neg (by omega)]
        exact a5 j hj
      · rw [mI_at]
        by_cases e : c = i
        · rw [if_pos ⟨rfl, by omega⟩]
        · rw [if_neg (by omega)]
          exact a6 c (by omega)
  refine ⟨14, ?_⟩
  rw [nI_0']
  refine hgo 13 0 τ1 (by omega) (by rw [e1]; rfl) (fun o o0 _ => by rw [e1, (mI_ne o o0).1]) (fun i hi => by rw [e1, mI_at, if_neg (by omega)]) (by rw [e1, mI_at, if_pos ⟨rfl, rfl⟩]) (fun j _ => by rw [e1, mI_at, if_neg (by omega)]) (fun c hc => absurd hc (by omega))
end GO
/-- the common divisor of them all -/
def gf (v : Nat → Nat) : Nat → Nat → Nat
  | 0, g => g
  | i + 1, g => Nat.gcd (gf v i g) (v i)
theorem gf_spec {v : Nat → Nat} {g : Nat} (hg : 0 < g) : ∀ i, 0 < gf v i g ∧ gf v i g ∣ g ∧ ∀ j, j < i → gf v i g ∣ v j
  | 0 => ⟨hg, Nat.dvd_refl _, fun j h => absurd h (by omega)⟩
  | i + 1 => by
    obtain ⟨a, b, c⟩ := gf_spec (v := v) hg i
    unfold gf
    refine ⟨Nat.gcd_pos_of_pos_left _ a, Nat.dvd_trans (Nat.gcd_dvd_left _ _) b, fun j hj => ?_⟩
    by_cases e : j = i
    · subst e
      exact Nat.gcd_dvd_right _ _
    · exact Nat.dvd_trans (Nat.gcd_dvd_left _ _) (c j (by omega))
theorem lessM_spec {Q : Mem → Prop} {τ : Mem} {P k de : Nat} {v : Nat → Nat} (h7 : τ.1 0 7 = nI P) (hP : P ≤ 50) (h2 : τ.1 0 2 = nI k) (hk : k ≤ 4) (h14 : τ.2 0 14 = lN de) (hde : de < 2 ^ 63) (hg0 : 0 < de / (k + 1)) (hv : ∀ p, p < P → τ.2 7 p = lN (v p) ∧ v p < 2 ^ 63) (hQ : ∀ τ', τ'.1 = τ.1 → (∀ o, o ≠ 0 → o ≠ 7 → τ'.2 o = τ.2 o) → τ'.2 0 14 = lN (de / gf v P (de / (k + 1))) → (∀ p, p < P → τ'.2 7 p = lN (v p / gf v P (de / (k + 1)))) → Q τ') : wp_M_lessen Q τ := by
  have hg63 : de / (k + 1) < 2 ^ 63 := Nat.lt_of_le_of_lt (Nat.div_le_self _ _) hde
  have hgb : ∀ i, gf v i (de / (k + 1)) < 2 ^ 63 := fun i => Nat.lt_of_le_of_lt (Nat.le_of_dvd hg0 (gf_spec hg0 i).2.1) hg63
  have gp := (gf_spec (v := v) hg0 P).1
  have gb := hgb P
  have hgo2 : ∀ t i τ2, i + t = P → τ2.1 = τ.1 → (∀ o, o ≠ 0 → o ≠ 7 → τ2.2 o = τ.2 o) → τ2.2 0 14 = lN (de / gf v P (de / (k + 1))) → (∀ p, p < i → τ2.2 7 p = lN (v p / gf v P (de / (k + 1)))) → (∀ p, i ≤ p → p < P → τ2.2 7 p = τ.2 7 p) → wp_M_lessen_52 Q (t + 1) (lN (gf v P (de / (k + 1)))) (nI i) τ2 := by
    intro t
    induction t with
    | zero =>
      intro i τ2 hi a1 a2 a3 a4 a5
      have : i = P := by omega
      subst this
      refine ⟨fun _ => hQ τ2 a1 a2 a3 a4, fun q => ?_⟩
      rw [a1, h7] at q
      exact absurd (nI_le (Nat.le_refl _) (by omega)) q
    | succ t ih =>
      intro i τ2 hi a1 a2 a3 a4 a5
      refine ⟨fun q => ?_, fun _ => ⟨vp_in_nI (by omega) (by decide), lN_ne gp gb, vp_in_nI (by omega) (by decide), fun τ3 e3 w e => ?_⟩⟩
      · rw [a1, h7] at q
        exact absurd q (nI_ge (by omega) (by omega))
      · rw [nI_1] at e
        subst e
        rw [nI_clamp (by omega), a5 i (Nat.le_refl _) (by omega), (hv i (by omega)).1, pk_lDiv (hv i (by omega)).2 gp gb] at e3
        subst e3
        refine ih (i + 1) _ (by omega) a1 (fun o o0 o7 => ?_) ?_ (fun p hp => ?_) (fun p h1 h2 => ?_)
        · rw [(mL_ne o o7).2]
          exact a2 o o0 o7
        · rw [mL_at, if_neg (by omega)]
          exact a3
        · rw [mL_at]
          by_cases e : p = i
          · subst e
            rw [if_pos ⟨rfl, rfl⟩]
          · rw [if_neg (by omega)]
            exact a4 p (by omega)
        · rw [mL_at, if_neg (by omega)]
          exact a5 p (by omega) h2
  have hgo1 : ∀ t i, i + t = P → wp_M_lessen_15 Q (t + 1) (lN (gf v i (de / (k + 1)))) (nI i) τ := by
    intro t
    induction t with
    | zero =>
      intro i hi
      have : i = P := by omega
      subst this
      refine ⟨fun _ => ⟨lN_ne gp gb, fun τ1 e1 => ⟨i + 1, ?_⟩⟩, fun q => ?_⟩
      · rw [h14, pk_lDiv hde gp gb] at e1
        subst e1
        rw [nI_0']
        refine hgo2 i 0 _ (by omega) rfl (fun o o0 _ => by rw [(mL_ne o o0).2]) (by rw [mL_at, if_pos ⟨rfl, rfl⟩]) (fun p hp => absurd hp (by omega)) (fun p _ _ => by rw [mL_at, if_neg (by omega)])
      · rw [h7] at q
        exact absurd (nI_le (Nat.le_refl _) (by omega)) q
    | succ t ih =>
      intro i hi
      refine ⟨fun q => ?_, fun _ => ⟨vp_in_nI (by omega) (by decide), ?_⟩⟩
      · rw [h7] at q
        exact absurd q (nI_ge (by omega) (by omega))
      · rw [nI_clamp (by omega), (hv i (by omega)).1]
        refine common_spec (hgb i) (hv i (by omega)).2 (fun w e => ?_)
        rw [nI_1] at e
        subst e
        exact ih (i + 1) (by omega)
  unfold wp_M_lessen
  rw [k1 h2 hk, h14, pk_lDiv hde (by omega) (by omega)]
  refine ⟨lN_ne (by omega) (by omega), fun w e => ⟨P + 1, ?_⟩⟩
  subst e
  rw [nI_0']
  exact hgo1 P 0 (by omega)
def keM (τ : Mem) (ke : Nat → Bool) : Prop := ∀ c, c < 12 → τ.1 8 c = if ke c = true then 1 else 0
section SU
variable {n k : Nat} {P de : Nat} {wb v : Nat → Nat} {ke : Nat → Bool}
/-- the sum of a column, paper by paper -/
def smP (P k de : Nat) (ke : Nat → Bool) (wb v : Nat → Nat) (c : Nat) : Nat := (if ke c = true then qt P k de else 0) + sm (fun p => if wb p = c then v p else 0) P
theorem sumM_spec {Q : Int64 → Mem → Prop} {τ : Mem} {c : Nat} (hn : n ≤ 12) (hq : mq τ P k de) (hk : keM τ ke) (hke : ∀ c, ke c = true → c < n) (h6 : ∀ p, p < P → τ.1 6 p = nI (cM n (wb p)) ∧ wb p ≤ n) (h7 : ∀ p, p < P → τ.2 7 p = lN (v p)) (hc : c ≤ n) (hQ : Q (lN (smP P k de ke wb v c)) τ) : wp_M_sumOf Q (nI (cM n c)) τ := by
  have h12 := cM_le hc hn
  have hP := hq.2.1
  have hgo : ∀ a t i, i + t = P → (a = if ke c = true then qt P k de else 0) → wp_M_sumOf_27 Q (t + 1) (nI (cM n c)) (lN (a + sm (fun p => if wb p = c then v p else 0) i)) (nI i) τ := by
    intro a t
    induction t with
    | zero =>
      intro i hi ha
      have : i = P := by omega
      subst this
      refine ⟨fun _ => ?_, fun q => ?_⟩
      · rw [ha]
        exact hQ
      · rw [hq.1] at q
        exact absurd (nI_le (Nat.le_refl _) (by omega)) q
    | succ t ih =>
      intro i hi ha
      have hw := h6 i (by omega)
      have hw12 := cM_le hw.2 hn
      refine ⟨fun q => ?_, fun _ => ⟨vp_in_nI (by omega) (by decide), ?_⟩⟩
      · rw [hq.1] at q
        exact absurd q (nI_ge (by omega) (by omega))
      · rw [nI_clamp (by omega), hw.1, nI_eq (by omega) (by omega), cM_inj hw.2 hc hn, h7 i (by omega)]
        refine ⟨fun e => ⟨vp_in_nI (by omega) (by decide), fun w1 e1 w2 e2 => ?_⟩, fun e w1 e1 w2 e2 => ?_⟩
        · rw [lN_add] at e1
          rw [nI_1] at e2
          subst e1
          subst e2
          have := ih (i + 1) (by omega) ha
          rw [show a + sm (fun p => if wb p = c then v p else 0) (i + 1) = a + sm (fun p => if wb p = c then v p else 0) i + v i by
            show a + (_ + (if wb i = c then v i else 0)) = _
            rw [if_pos e, Nat.add_assoc]] at this
          exact this
        · rw [show (0 : Int64) = lN 0 by decide, lN_add] at e1
          rw [nI_1] at e2
          subst e1
          subst e2
          have := ih (i + 1) (by omega) ha
          rw [show a + sm (fun p => if wb p = c then v p else 0) (i + 1) = a + sm (fun p => if wb p = c then v p else 0) i + 0 by
            show a + (_ + (if wb i = c then v i else 0)) = _
            rw [if_neg e, Nat.add_assoc]] at this
          exact this
  have h23 : ∀ a, (a = if ke c = true then qt P k de else 0) → wp_M_sumOf_23 Q (nI (cM n c)) (lN a) τ := fun a ha => ⟨P + 1, by
    rw [nI_0']
    exact hgo a P 0 (by omega) ha⟩
  refine ⟨fun q => ?_, fun q => ⟨vp_in_nI (n := cM n c) (N := 12) ?_ (by decide), ?_⟩⟩
  · refine h23 0 ?_
    rw [show (12 : Int32) = nI 12 by decide, nI_leI (by decide) (by omega)] at q
    rw [if_neg (fun w => ?_)]
    have := hke c w
    rw [cM_lt this] at q
    omega
  · rw [show (12 : Int32) = nI 12 by decide, nI_leI (by decide) (by omega)] at q
    omega
  · rw [show (12 : Int32) = nI 12 by decide, nI_leI (by decide) (by omega)] at q
    have hcn : c < n := by
      rcases Nat.lt_or_ge c n with w | w
      · exact w
      · rw [show c = n by omega, show cM n n = 12 from if_pos rfl] at q
        omega
    rw [nI_clamp (by omega), cM_lt hcn, hk c (by omega)]
    refine ⟨fun w => ?_, fun w => quotaM_spec hq ?_⟩
    · have := h23 0 (by
        by_cases z : ke c = true
        · rw [if_pos z] at w
          exact absurd w (by decide)
        · rw [if_neg z])
      rwa [cM_lt hcn] at this
    · have := h23 (qt P k de) (by
        by_cases z : ke c = true
        · rw [if_pos z]
        · rw [if_neg z] at w
          exact absurd rfl w)
      rwa [cM_lt hcn] at this
end SU
