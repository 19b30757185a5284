/-! rows: whether one is a ranking, on both sides; laying papers -/
theorem nx_or (a b : Nat) : nI a ||| nI b = nI (a ||| b) := by
  apply Int32.toBitVec_inj.1
  show BitVec.ofNat 32 a ||| BitVec.ofNat 32 b = BitVec.ofNat 32 (a ||| b)
  apply BitVec.eq_of_getLsbD_eq
  intro i hi
  simp [hi]
theorem shl_spec : ∀ c, c < 16 → (1 : Int32) <<< (nI c &&& 31) = nI (2 ^ c) := by decide +kernel
theorem or_lt : ∀ {s c : Nat}, s < 65536 → c < 16 → s ||| 2 ^ c < 65536 := fun {s c} hs hc => Nat.or_lt_two_pow (n := 16) hs (Nat.pow_lt_pow_right (by decide) hc)
theorem and_pw (s c : Nat) : s &&& 2 ^ c = (s.testBit c).toNat * 2 ^ c := by
  apply Nat.eq_of_testBit_eq
  intro i
  rw [Nat.testBit_and, Nat.testBit_two_pow]
  by_cases h : c = i
  · subst h
    cases s.testBit c <;> simp [Nat.testBit_two_pow]
  · cases s.testBit c <;> simp [h, Nat.testBit_two_pow]
theorem rank_go {Q : Int32 → Mem → Prop} {m n : Nat} {σ : Mem} (hm : m < 2 ^ 64) (hn : σ.1 1 2 = nI n) (hl : n ≤ 12) (h1 : ∀ L, gRow n m L → Q 1 σ) (h0 : (∀ L, ¬ gRow n m L) → Q 0 σ) : ∀ (t i s : Nat), i + t = 8 → (∀ j, j < i → 1 ≤ nb m j ∧ nb m j ≤ n) → (∀ a b, a < b → b < i → nb m a ≠ nb m b) → s < 65536 → (∀ c, s.testBit c = true ↔ ∃ j, j < i ∧ nb m j = c + 1) → wp_C_isRanking_5 Q (t + 1) (lN m) (nI s) (nI i) σ := by
  intro t
  induction t with
  | zero =>
    intro i s hi hp hd hs hb
    have : i = 8 := by omega
    subst this
    exact ⟨fun _ => ⟨Or.inl rfl, h0 (fun L hL => by have := hp L (by have := hL.2.1; omega); have := hL.2.2.2.1; omega)⟩, fun h => absurd (by decide) h⟩
  | succ t ih =>
    intro i s hi hp hd hs hb
    have hlen : ∀ L, gRow n m L → nb m i ≠ 0 → i < L := fun L hL hi0 => by
      rcases Nat.lt_trichotomy L i with h | h | h
      · have := hp L h
        have := hL.2.2.2.1
        omega
      · subst h
        exact absurd hL.2.2.2.1 hi0
      · exact h
    refine ⟨fun h => absurd h (nI_nlt (a := 7) (b := i) (by omega) (by decide)), fun _ => cat_spec hm (by omega) ⟨fun hr => ?_, fun hr => ?_⟩⟩
    · have hz : nb m i = 0 := by
        rcases Nat.eq_zero_or_pos (nb m i) with h | h
        · exact h
        · rw [nI_m1 h] at hr
          exact absurd hr (m1_ne (by have := nb_lt m i; omega))
      refine ⟨fun hx => ⟨Or.inl rfl, h0 (fun L hL => ?_)⟩, fun hx => ⟨Or.inr rfl, h1 i ⟨?_, by omega, hp, hz, hd⟩⟩⟩
      · rw [nI_0', nI_leI (by omega) (by decide)] at hx
        have hi0 : i = 0 := by omega
        have := hL.2.2.1 0 (by have := hL.1; omega)
        rw [hi0] at hz
        omega
      · rw [nI_0', nI_leI (by omega) (by decide)] at hx
        omega
    · have hz : 0 < nb m i := by
        rcases Nat.eq_zero_or_pos (nb m i) with h | h
        · rw [h] at hr
          exact absurd nI_z1 hr
        · exact h
      have h16 := nb_lt m i
      rw [nI_m1 hz]
      intro v1 e1
      rw [shl_spec _ (by omega)] at e1
      subst e1
      refine has_spec hn (by omega) (fun c hc e => ?_) (fun hno => ?_)
      · have ec := (nI_eq (by omega) (by omega)).mp e
        refine ⟨fun h => absurd h (by decide), fun _ => ?_⟩
        rw [nx_and, and_pw]
        refine ⟨fun hx v2 e2 v3 e3 => ?_, fun hx => ⟨Or.inl rfl, h0 (fun L hL => ?_)⟩⟩
        · rw [nx_or] at e2
          rw [nI_1] at e3
          subst e2 e3
          have hbit : s.testBit (nb m i - 1) = false := by
            cases hq : s.testBit (nb m i - 1) with
            | false => rfl
            | true =>
              rw [hq] at hx
              simp only [Bool.toNat_true, Nat.one_mul] at hx
              rw [nI_0', nI_eq (Nat.lt_trans (Nat.pow_lt_pow_right (by decide) (show nb m i - 1 < 16 by omega)) (by decide)) (by decide)] at hx
              exact absurd hx (Nat.ne_of_gt (Nat.two_pow_pos _))
          have hnew : ∀ j, j < i → nb m j ≠ nb m i := fun j hj hq => by
            have := (hb (nb m i - 1)).mpr ⟨j, hj, by omega⟩
            rw [hbit] at this
            exact absurd this (by decide)
          refine ih (i + 1) _ (by omega) (fun j hj => ?_) (fun a b hab hbi => ?_) (or_lt hs (by omega)) (fun c' => ?_)
          · by_cases hji : j = i
            · subst hji
              exact ⟨hz, by omega⟩
            · exact hp j (by omega)
          · by_cases hbi2 : b = i
            · subst hbi2
              exact hnew a hab
            · exact hd a b hab (by omega)
          · rw [Nat.testBit_or, Nat.testBit_two_pow, Bool.or_eq_true, hb c']
            constructor
            · rintro (⟨j, hj, hq⟩ | h)
              · exact ⟨j, by omega, hq⟩
              · have := of_decide_eq_true h
                exact ⟨i, by omega, by omega⟩
            · rintro ⟨j, hj, hq⟩
              by_cases hji : j = i
              · subst hji
                exact Or.inr (decide_eq_true (by omega))
              · exact Or.inl ⟨j, by omega, hq⟩
        · have hil := hlen L hL (by omega)
          have hbit : s.testBit (nb m i - 1) = true := by
            cases hq : s.testBit (nb m i - 1) with
            | true => rfl
            | false =>
              rw [hq] at hx
              exact absurd (by simp; decide) hx
          obtain ⟨j, hj, hq⟩ := (hb _).mp hbit
          exact hL.2.2.2.2 j i hj hil (by omega)
      · refine ⟨fun _ => ⟨Or.inl rfl, h0 (fun L hL => ?_)⟩, fun h => absurd rfl h⟩
        have := hL.2.2.1 i (hlen L hL (by omega))
        exact hno (nb m i - 1) (by omega) rfl
theorem ranking_spec {Q : Int32 → Mem → Prop} {m n : Nat} {σ : Mem} (hm : m < 2 ^ 64) (hn : σ.1 1 2 = nI n) (hl : n ≤ 12) (h1 : ∀ L, gRow n m L → Q 1 σ) (h0 : (∀ L, ¬ gRow n m L) → Q 0 σ) : wp_C_isRanking Q (lN m) σ :=
  ⟨9, by
    have := rank_go hm hn hl h1 h0 8 0 0 (by omega) (fun j h => absurd h (by omega)) (fun a b _ h => absurd h (by omega)) (by decide) (fun c => by simp)
    rw [nI_0']
    exact this⟩
def fl (x : Int32) (p : Prop) : Prop := (x = 1 ∧ p) ∨ (x = 0 ∧ ¬ p)
theorem lay81 {Q : Int32 → Mem → Prop} {K : Int64 → Int32 → Int32 → Int32 → Mem → Prop} {m i : Nat} {x3 : Int32} {τ : Mem} {g : Prop} (hm : m < 2 ^ 64) (hi : i < 16) (hp : ∀ j, j ≤ i → 1 ≤ nb m j) (hK : ∀ x5, fl x5 (g ∧ ∀ b, b < i → nb m b ≠ nb m i) → K (lN m) x3 (nI (i + 1)) x5 τ) : ∀ (t a : Nat) (x5 : Int32), a + t = i → fl x5 (g ∧ ∀ b, b < a → nb m b ≠ nb m i) → wp_M_lay_81 Q K (t + 1) (lN m) x3 (nI i) x5 (nI a) τ := by
  intro t
  induction t with
  | zero =>
    intro a x5 ha hf
    have : a = i := by omega
    subst this
    refine ⟨fun _ v e => ?_, fun h => absurd (nI_le (Nat.le_refl a) (by omega)) h⟩
    rw [nI_1] at e
    subst e
    exact hK x5 hf
  | succ t ih =>
    intro a x5 ha hf
    refine ⟨fun h => absurd h (nI_ge (by omega) (by omega)), fun _ => ⟨fun h => ?_, fun h => ?_⟩⟩
    · intro v e
      rw [nI_1] at e
      subst e
      refine ih (a + 1) 0 (by omega) (Or.inr ⟨rfl, fun q => ?_⟩)
      rcases hf with ⟨e1, -⟩ | ⟨-, hn⟩
      · rw [e1] at h
        exact absurd h (by decide)
      · exact hn ⟨q.1, fun b hb => q.2 b (by omega)⟩
    · have hg : g ∧ ∀ b, b < a → nb m b ≠ nb m i := by
        rcases hf with ⟨-, q⟩ | ⟨e1, -⟩
        · exact q
        · exact absurd e1 h
      refine rank_spec hm (by omega) (rank_spec hm hi ⟨fun he v e => ?_, fun he v e => ?_⟩)
      · rw [nI_1] at e
        subst e
        rw [nI_m1 (hp a (by omega)), nI_m1 (hp i (by omega)), nI_eq (by have := nb_lt m a; omega) (by have := nb_lt m i; omega)] at he
        have := hp a (by omega)
        have := hp i (by omega)
        exact ih (a + 1) 0 (by omega) (Or.inr ⟨rfl, fun q => q.2 a (by omega) (by omega)⟩)
      · rw [nI_1] at e
        subst e
        rw [nI_m1 (hp a (by omega)), nI_m1 (hp i (by omega)), nI_eq (by have := nb_lt m a; omega) (by have := nb_lt m i; omega)] at he
        refine ih (a + 1) 1 (by omega) (Or.inl ⟨rfl, hg.1, fun b hb => ?_⟩)
        by_cases hba : b = a
        · subst hba
          intro q
          exact he (by omega)
        · exact hg.2 b (by omega)
def Pr (n m i : Nat) : Prop := i ≤ 7 ∧ (∀ j, j < i → nb m j ≤ n) ∧ ∀ a b, a < b → b < i → nb m a ≠ nb m b
theorem Pr_succ {n m i : Nat} : Pr n m (i + 1) ↔ (Pr n m i ∧ i < 7 ∧ nb m i ≤ n) ∧ ∀ b, b < i → nb m b ≠ nb m i := by
  constructor
  · rintro ⟨h1, h2, h3⟩
    exact ⟨⟨⟨by omega, fun j hj => h2 j (by omega), fun a b hab hb => h3 a b hab (by omega)⟩, by omega, h2 i (by omega)⟩, fun b hb => h3 b i hb (by omega)⟩
  · rintro ⟨⟨⟨h1, h2, h3⟩, h4, h5⟩, h6⟩
    refine ⟨by omega, fun j hj => ?_, fun a b hab hb => ?_⟩
    · by_cases h : j = i
      · subst h
        exact h5
      · exact h2 j (by omega)
    · by_cases h : b = i
      · subst h
        exact h6 a hab
      · exact h3 a b hab (by omega)
theorem lay30 {Q : Int32 → Mem → Prop} {m n : Nat} {x3 : Int32} {τ : Mem} {g : Prop} (hm : m < 2 ^ 64) (hn : τ.1 0 1 = nI n) (hl : n ≤ 12) (hpost : ∀ (L : Nat) (x5 : Int32), L ≤ 16 → (∀ j, j < L → 1 ≤ nb m j) → (L = 16 ∨ nb m L = 0) → fl x5 (g ∧ Pr n m L) → wp_M_lay_127 Q (lN m) x3 (nI L) x5 τ) : ∀ (t i : Nat) (x5 : Int32), i + t = 16 → (∀ j, j < i → 1 ≤ nb m j) → fl x5 (g ∧ Pr n m i) → wp_M_lay_30 Q (t + 1) (lN m) x3 (nI i) x5 τ := by
  intro t
  induction t with
  | zero =>
    intro i x5 hi hp hf
    have : i = 16 := by omega
    subst this
    exact ⟨fun _ => hpost 16 x5 (by omega) hp (Or.inl rfl) hf, fun h => absurd (by decide) h⟩
  | succ t ih =>
    intro i x5 hi hp hf
    refine ⟨fun h => absurd h (nI_ge (b := 16) (by omega) (by decide)), fun _ => rank_spec hm (by omega) ⟨fun hr => ?_, fun hr => ?_⟩⟩
    · have hz : nb m i = 0 := by
        rcases Nat.eq_zero_or_pos (nb m i) with h | h
        · exact h
        · rw [nI_m1 h] at hr
          exact absurd hr (nI_pos (by have := nb_lt m i; omega))
      exact hpost i x5 (by omega) hp (Or.inr hz) hf
    · have hz : 0 < nb m i := by
        rcases Nat.eq_zero_or_pos (nb m i) with h | h
        · rw [h] at hr
          exact absurd (by decide) hr
        · exact h
      have h16 := nb_lt m i
      have hp' : ∀ j, j ≤ i → 1 ≤ nb m j := fun j hj => by
        by_cases h : j = i
        · subst h
          exact hz
        · exact hp j (by omega)
      have hin : ∀ y5, fl y5 (g ∧ Pr n m i ∧ i < 7 ∧ nb m i ≤ n) → wp_M_lay_76 Q (wp_M_lay_30 Q (t + 1)) (lN m) x3 (nI i) y5 τ := fun y5 hy => by
        refine ⟨i + 1, ?_⟩
        rw [nI_0']
        refine lay81 (g := g ∧ Pr n m i ∧ i < 7 ∧ nb m i ≤ n) hm (by omega) hp' (fun x5 hx => ih (i + 1) x5 (by omega) (fun j hj => hp' j (by omega)) ?_) i 0 y5 (by omega) ?_
        · rcases hx with ⟨e, q⟩ | ⟨e, q⟩
          · exact Or.inl ⟨e, q.1.1, Pr_succ.mpr ⟨q.1.2, q.2⟩⟩
          · exact Or.inr ⟨e, fun z => q ⟨⟨z.1, (Pr_succ.mp z.2).1⟩, (Pr_succ.mp z.2).2⟩⟩
        · rcases hy with ⟨e, q⟩ | ⟨e, q⟩
          · exact Or.inl ⟨e, q, fun b hb => absurd hb (by omega)⟩
          · exact Or.inr ⟨e, fun z => q z.1⟩
      refine ⟨fun h => hin 0 (Or.inr ⟨rfl, fun z => ?_⟩), fun h => ⟨fun h7 => hin 0 (Or.inr ⟨rfl, fun z => ?_⟩), fun h7 => rank_spec hm (by omega) ⟨fun hc => hin 0 (Or.inr ⟨rfl, fun z => ?_⟩), fun hc => hin 1 (Or.inl ⟨rfl, ?_⟩)⟩⟩⟩
      · rcases hf with ⟨e, -⟩ | ⟨-, q⟩
        · rw [e] at h
          exact absurd h (by decide)
        · exact q ⟨z.1, z.2.1⟩
      · exact absurd h7 (nI_ge (b := 7) z.2.2.1 (by decide))
      · rw [hn, nI_m1 hz, nI_leI (by omega) (by omega)] at hc
        have := z.2.2.2
        omega
      · rw [hn, nI_m1 hz, nI_leI (by omega) (by omega)] at hc
        have hlt : i < 7 := by
          rcases Nat.lt_or_ge i 7 with q | q
          · exact q
          · exact absurd (nI_le (a := 7) q (by omega)) h7
        rcases hf with ⟨-, q⟩ | ⟨e, -⟩
        · exact ⟨q.1, q.2, hlt, by omega⟩
        · exact absurd e h
