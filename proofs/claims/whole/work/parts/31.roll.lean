/-! candidates: what both sides hold of them, and the methods on them -/
def sI (z : Int) : Int32 := Int32.ofInt z
theorem sI_toInt {z : Int} (h1 : -1000 ≤ z) (h2 : z ≤ 1000) : (sI z).toInt = z := by
  unfold sI
  rw [Int32.toInt_ofInt, show Int32.size = 4294967296 from rfl]
  exact Int.bmod_eq_of_le (by omega) (by omega)
theorem sI_eq0 {z : Int} (h1 : -1000 ≤ z) (h2 : z ≤ 1000) : sI z = 0 ↔ z = 0 := by
  rw [← Int32.toInt_inj, sI_toInt h1 h2]
  exact Iff.rfl
theorem sI_le0 {z : Int} (h1 : -1000 ≤ z) (h2 : z ≤ 1000) : sI z ≤ 0 ↔ z ≤ 0 := by
  rw [Int32.le_iff_toInt_le, sI_toInt h1 h2]
  exact Iff.rfl
theorem sI_nat {n : Nat} : sI (n : Int) = nI n := rfl
theorem sI_neg {n : Nat} (h : n ≤ 1000) : sI (-(n : Int)) = -nI n := by
  rw [← Int32.toInt_inj, sI_toInt (by omega) (by omega), sb_negT (by omega)]
theorem m1_ne {j : Nat} (h : j < 2 ^ 31) : ¬ nI j = -1 := fun e => by
  have := congrArg Int32.toInt e
  rw [nI_toInt h] at this
  exact absurd this (by have : (-1 : Int32).toInt = -1 := by decide
                        omega)
theorem ix_cases (x : Int32) : x < 0 ∨ ∃ j : Nat, j < 2 ^ 31 ∧ x = nI j := by
  by_cases h : x < 0
  · exact Or.inl h
  · exact Or.inr (nI_of h)
/-- how many of the first n stand so -/
def cnz (st : Nat → Int) : Nat → Nat
  | 0 => 0
  | n + 1 => cnz st n + if st n = 0 then 1 else 0
theorem cnz_le (st : Nat → Int) (n : Nat) : cnz st n ≤ n := by
  induction n with
  | zero => exact Nat.le_refl _
  | succ n ih => unfold cnz; split <;> omega
theorem cnz_up {st : Nat → Int} {c : Nat} {v : Int} (hv : v ≠ 0) (h0 : st c = 0) : ∀ n, cnz (va_up st c v) n + (if c < n then 1 else 0) = cnz st n := by
  intro n
  induction n with
  | zero => rfl
  | succ n ih =>
    unfold cnz
    by_cases hc : n = c
    · subst hc
      rw [if_neg (by omega)] at ih
      rw [va_up_self, if_neg hv, h0, if_pos rfl, if_pos (by omega)]
      omega
    · rw [va_up_ne _ _ hc]
      by_cases h1 : c < n
      · simp only [if_pos h1, if_pos (show c < n + 1 by omega)] at ih ⊢
        omega
      · simp only [if_neg h1, if_neg (show ¬ c < n + 1 by omega)] at ih ⊢
        omega
def rlI (n k el ex : Nat) (dr : Nat → Nat) (st : Nat → Int) : Prop := 2 ≤ n ∧ n ≤ 12 ∧ 1 ≤ k ∧ k ≤ 4 ∧ k < n ∧ (∀ c, c < 12 → dr c ≤ 999) ∧ (∀ c d, c < n → d < n → dr c = dr d → c = d) ∧ (∀ c, c < 12 → -12 ≤ st c ∧ st c ≤ 12) ∧ cnz st n + el + ex = n
def rlX (σ : Mem) (n el ex : Nat) (dr : Nat → Nat) (st : Nat → Int) : Prop := σ.1 1 2 = nI n ∧ σ.1 1 3 = nI el ∧ σ.1 1 4 = nI ex ∧ (∀ c, c < 12 → σ.1 2 c = nI (dr c)) ∧ ∀ c, c < 12 → σ.1 3 c = sI (st c)
def rlM (τ : Mem) (n k el ex : Nat) (dr : Nat → Nat) (st : Nat → Int) : Prop := τ.1 0 1 = nI n ∧ τ.1 0 2 = nI k ∧ τ.1 0 5 = nI el ∧ τ.1 0 6 = nI ex ∧ (∀ c, c < 12 → τ.1 1 c = nI (dr c)) ∧ ∀ c, c < 12 → τ.1 2 c = sI (st c)
-- the class
theorem has_spec {Q : Int32 → Mem → Prop} {x : Int32} {σ : Mem} {n : Nat} (hn : σ.1 1 2 = nI n) (hl : n < 2 ^ 31) (h1 : ∀ c, c < n → x = nI c → Q 1 σ) (h0 : (∀ c, c < n → x ≠ nI c) → Q 0 σ) : wp_R_has Q x σ := by
  refine ⟨fun hx => ⟨Or.inl rfl, h0 (fun c hc e => nI_pos (n := c) (by omega) (e ▸ hx))⟩, fun hx => ?_⟩
  obtain ⟨j, hj, rfl⟩ := nI_of hx
  rw [hn, nI_leI hl hj]
  exact ⟨fun h => ⟨Or.inl rfl, h0 (fun c hc e => by have := (nI_eq hj (by omega)).mp e; omega)⟩, fun h => ⟨Or.inr rfl, h1 j (by omega) rfl⟩⟩
theorem hasN_spec {Q : Int32 → Mem → Prop} {x : Int32} {σ : Mem} {n : Nat} (hn : σ.1 1 2 = nI n) (hl : n < 2 ^ 30) (h1 : ∀ c, c ≤ n → x = nI c → Q 1 σ) (h0 : (∀ c, c ≤ n → x ≠ nI c) → Q 0 σ) : wp_R_hasOrIsNobody Q x σ := by
  refine ⟨fun hx => ⟨Or.inl rfl, h0 (fun c hc e => nI_pos (n := c) (by omega) (e ▸ hx))⟩, fun hx => ?_⟩
  obtain ⟨j, hj, rfl⟩ := nI_of hx
  rw [hn, nI_ltI (by omega) hj]
  exact ⟨fun h => ⟨Or.inl rfl, h0 (fun c hc e => by have := (nI_eq hj (by omega)).mp e; omega)⟩, fun h => ⟨Or.inr rfl, h1 j (by omega) rfl⟩⟩
theorem isCont_spec {Q : Int32 → Mem → Prop} {c : Nat} {σ : Mem} {n el ex : Nat} {dr : Nat → Nat} {st : Nat → Int} {k : Nat} (hI : rlI n k el ex dr st) (hX : rlX σ n el ex dr st) (hc : c < 12) (h1 : st c = 0 → Q 1 σ) (h0 : st c ≠ 0 → Q 0 σ) : wp_R_isContinuing Q (nI c) σ := by
  have hs := hI.2.2.2.2.2.2.2.1 c hc
  refine ⟨vp_in_nI hc (by decide), ?_⟩
  rw [nI_clamp (by omega), hX.2.2.2.2 c hc, sI_eq0 (by omega) (by omega)]
  exact ⟨fun h => ⟨Or.inr rfl, h1 h⟩, fun h => ⟨Or.inl rfl, h0 h⟩⟩
theorem isEl_spec {Q : Int32 → Mem → Prop} {c : Nat} {σ : Mem} {n el ex : Nat} {dr : Nat → Nat} {st : Nat → Int} {k : Nat} (hI : rlI n k el ex dr st) (hX : rlX σ n el ex dr st) (hc : c < 12) (h1 : 0 < st c → Q 1 σ) (h0 : ¬ 0 < st c → Q 0 σ) : wp_R_isElected Q (nI c) σ := by
  have hs := hI.2.2.2.2.2.2.2.1 c hc
  refine ⟨vp_in_nI hc (by decide), ?_⟩
  rw [nI_clamp (by omega), hX.2.2.2.2 c hc, sI_le0 (by omega) (by omega)]
  exact ⟨fun h => ⟨Or.inl rfl, h0 (by omega)⟩, fun h => ⟨Or.inr rfl, h1 (by omega)⟩⟩
theorem contX_spec {Q : Int32 → Mem → Prop} {σ : Mem} {n el ex : Nat} {dr : Nat → Nat} {st : Nat → Int} {k : Nat} (hI : rlI n k el ex dr st) (hX : rlX σ n el ex dr st) (h : Q (nI (cnz st n)) σ) : wp_R_continuing Q σ := by
  have hc := hI.2.2.2.2.2.2.2.2
  show Q (σ.1 1 2 - σ.1 1 3 - σ.1 1 4) σ
  rw [hX.1, hX.2.1, hX.2.2.1, pk_sub (by omega), pk_sub (by omega), show n - el - ex = cnz st n by omega]
  exact h
theorem electX_spec {Q : Mem → Prop} {c : Nat} {σ : Mem} {el : Nat} (he : σ.1 1 3 = nI el) (hc : c < 12) (h : Q (mI (mI σ 1 3 (nI (el + 1))) 3 c (nI (el + 1)))) : wp_R_elect Q (nI c) σ := by
  intro σ1 e1
  rw [he, show (1 : Int32) = nI 1 by decide, nI_add] at e1
  subst e1
  refine ⟨vp_in_nI hc (by decide), fun σ2 e2 => ?_⟩
  rw [nI_clamp (by omega), mI_at, if_pos ⟨rfl, rfl⟩] at e2
  subst e2
  exact h
theorem exclX_spec {Q : Mem → Prop} {c : Nat} {σ : Mem} {ex : Nat} (he : σ.1 1 4 = nI ex) (hx : ex ≤ 900) (hc : c < 12) (h : Q (mI (mI σ 1 4 (nI (ex + 1))) 3 c (sI (-((ex + 1 : Nat) : Int))))) : wp_R_exclude Q (nI c) σ := by
  intro σ1 e1
  rw [he, show (1 : Int32) = nI 1 by decide, nI_add] at e1
  subst e1
  refine ⟨vp_in_nI hc (by decide), fun σ2 e2 => ?_⟩
  rw [nI_clamp (by omega), mI_at, if_pos ⟨rfl, rfl⟩, ← sI_neg (by omega)] at e2
  subst e2
  exact h
theorem clearX_go {Q : Mem → Prop} : ∀ (m i : Nat) (σ : Mem), i + m = 12 → (∀ σ' : Mem, σ'.2 = σ.2 → (∀ b, b ≠ 2 → b ≠ 3 → σ'.1 b = σ.1 b) → (∀ c, c < i → σ'.1 2 c = σ.1 2 c ∧ σ'.1 3 c = σ.1 3 c) → (∀ c, i ≤ c → c < 12 → σ'.1 2 c = nI c ∧ σ'.1 3 c = 0) → Q σ') → wp_R_clear_17 Q (m + 1) (nI i) σ := by
  intro m
  induction m with
  | zero =>
    intro i σ hi h
    have : i = 12 := by omega
    subst this
    exact ⟨fun _ => h σ rfl (fun _ _ _ => rfl) (fun _ _ => ⟨rfl, rfl⟩) (fun c h1 h2 => absurd h1 (by omega)), fun h => absurd (by decide) h⟩
  | succ m ih =>
    intro i σ hi h
    refine ⟨fun h => absurd h (nI_ge (b := 12) (by omega) (by decide)), fun _ => ⟨vp_in_nI (by omega) (by decide), fun σ1 e1 => ⟨vp_in_nI (by omega) (by decide), fun σ2 e2 v e3 => ?_⟩⟩⟩
    rw [nI_clamp (by omega)] at e1 e2
    rw [nI_1] at e3
    subst e3
    refine ih (i + 1) σ2 (by omega) (fun σ' h1 h2 h3 h4 => h σ' ?_ ?_ ?_ ?_)
    · rw [h1, e2, e1]; rfl
    · intro b hb hb2
      rw [h2 b hb hb2, e2, (mI_ne b hb2).1, e1, (mI_ne b hb).1]
    · intro c hc
      obtain ⟨q1, q2⟩ := h3 c (by omega)
      rw [q1, q2, e2, e1]
      simp only [mI_at]
      constructor
      · rw [if_neg (by omega), if_neg (by omega)]
      · rw [if_neg (by omega), if_neg (by omega)]
    · intro c hc hc2
      by_cases hci : c = i
      · subst hci
        obtain ⟨q1, q2⟩ := h3 c (by omega)
        rw [q1, q2, e2, e1]
        simp only [mI_at]
        constructor
        · rw [if_neg (by omega), if_pos ⟨trivial, trivial⟩]
        · rw [if_pos ⟨trivial, trivial⟩]
      · exact h4 c (by omega) hc2
theorem startX_spec {Q : Mem → Prop} {n k : Nat} {σ : Mem} (h : ∀ σ' : Mem, rlX σ' n 0 0 (fun c => c) (fun _ => 0) → σ'.1 4 4 = nI 0 → σ'.1 4 5 = nI 0 → σ'.1 0 3 = nI k → σ'.1 0 4 = -1 → σ'.1 0 5 = 0 → σ'.2 0 7 = 0 → Q σ') : wp_C_startAnew Q (nI n) (nI k) σ := by
  intro σ1 e1 σ2 e2 σ3 e3
  refine ⟨13, ?_⟩
  rw [nI_0']
  refine clearX_go 12 0 σ3 (by omega) (fun σ4 h1 h2 _ h4 => ?_)
  intro σ5 e5 σ6 e6 σ7 e7 σ8 e8
  refine ⟨Or.inl rfl, fun σ9 e9 σ10 e10 σ11 e11 => ?_⟩
  have r1 : σ4.1 1 = σ3.1 1 := h2 1 (by decide) (by decide)
  subst e11 e10 e9 e8 e7 e6 e5
  refine h _ ⟨?_, ?_, ?_, ?_, ?_⟩ ?_ ?_ ?_ ?_ ?_ ?_
  · simp [mI_at, mL_at1, r1, e3, e2, e1]
  · simp [mI_at, mL_at1, r1, e3, e2, e1]; decide
  · simp [mI_at, mL_at1, r1, e3, e2, e1]; decide
  · intro c hc
    simp [mI_at, mL_at1, (h4 c (by omega) hc).1]
  · intro c hc
    simp [mI_at, mL_at1, (h4 c (by omega) hc).2]
    decide
  · simp [mI_at, mL_at1]; decide
  · simp [mI_at, mL_at1]; decide
  · simp [mI_at, mL_at1]
  · simp [mI_at, mL_at1]
  · simp [mI_at, mL_at1]; decide
  · simp [mL_at]
