/-! withdraw -/
section WD
variable {n k el ex : Nat} {dr : Nat → Nat} {st : Nat → Int} {B : Nat} {ct rw' ln bo : Nat → Nat} {P s : Nat} {σ τ : Mem}
theorem wdM_spec {Q : Mem → Prop} {a : Int32} (hI : rlI n k el ex dr st) (hM : rlM τ n k el ex dr st) (hend : ∀ t0, fl t0 (∃ c, c < n ∧ a = nI c ∧ st c = 0 ∧ k + 1 < cnz st n) → wp_M_withdraw_47 Q a t0 τ) : wp_M_withdraw Q a τ := by
  have hn := hI.2.1
  have hk4 := hI.2.2.2.1
  have hsum := hI.2.2.2.2.2.2.2.2
  refine isCand_spec hM.1 (by omega) (fun c hc e => ⟨fun q => absurd q (by decide), fun _ => isCand_spec hM.1 (by omega) (fun c2 hc2 e2 => ⟨fun q => absurd q (by decide), fun _ => ?_⟩) (fun hno => absurd e (hno c hc))⟩) (fun hno => ⟨fun _ => hend 0 (Or.inr ⟨rfl, fun w => by
    obtain ⟨c, hc, e, -⟩ := w
    exact hno c hc e⟩), fun q => absurd rfl q⟩)
  subst e
  have hsI := hI.2.2.2.2.2.2.2.1 c (by omega)
  refine ⟨vp_in_nI (by omega) (by decide), ?_⟩
  rw [nI_clamp (by omega), hM.2.2.2.2.2 c (by omega), sI_eq0 (by omega) (by omega)]
  refine ⟨fun q => contM_spec hI hM ?_, fun q => hend 0 (Or.inr ⟨rfl, fun w => ?_⟩)⟩
  · rw [hM.2.1, nI_1, nI_leI (by omega) (by omega)]
    refine ⟨fun z => hend 0 (Or.inr ⟨rfl, fun w => ?_⟩), fun z => hend 1 (Or.inl ⟨rfl, c, hc, rfl, q, by omega⟩)⟩
    obtain ⟨d, -, -, -, y⟩ := w
    omega
  · obtain ⟨d, hd, e, y, -⟩ := w
    have := (nI_eq (by omega) (by omega)).mp e
    subst this
    exact q y
theorem withdraw_law {Q : Int32 → Mem → Prop} {a : Int32} (h : RR σ τ) (hQ : ∀ r σ', (∀ QM : Mem → Prop, (∀ τ', RR σ' τ' → τ'.1 0 0 = r → QM τ') → wp_M_withdraw QM a τ) → Q r σ') : wp_L_withdraw Q a σ := by
  have h' := h
  have hsay : ∀ (QM : Mem → Prop) (v : Int32), ¬ v = 0 → QM (mI τ 0 0 v) → wp_M_withdraw_69 QM a v τ := fun QM v hv hq => says_spec (fun q => absurd q hv) (fun _ => ⟨fun _ => hq, fun q => absurd rfl q⟩)
  rcases h with ⟨n, k, el, ex, dr, st, B, ct, rw', ln, bo, P, h1, h2, h3⟩ | ⟨n, k, el, ex, dr, st, B, ct, rw', ln, bo, P, s, ov, wb, pl, vb, de, ke, to, dn, wn, h1, h2, h3⟩
  · have hI := h1.1
    have hn := hI.2.1
    have hk4 := hI.2.2.2.1
    have hsum := hI.2.2.2.2.2.2.2.2
    obtain ⟨hX, hpX, hx3, hx4, hx5, hx7, hxb⟩ := h2
    have h15 : τ.1 0 15 < 0 := by rw [h3.2.2.1]; decide
    have hbad : ¬ (∃ c, c < n ∧ a = nI c ∧ st c = 0 ∧ k + 1 < cnz st n) → wp_C_withdraw_42 (fun σ1 => Q 0 σ1) (fun X σ1 => (X = xIS ∧ Q 1 σ1) ∨ (X = xIA ∧ Q 2 σ1)) σ := fun hg => Or.inr ⟨rfl, hQ 2 σ (fun QM hM => wdM_spec hI h3.1 (fun t0 ht => ⟨fun _ => ⟨fun _ => hsay QM 2 (by decide) (hM _ (RR_says h') (by rw [mI_at, if_pos ⟨rfl, rfl⟩])), fun q => by
      rcases ht with ⟨-, hx⟩ | ⟨e, -⟩
      · exact absurd hx hg
      · exact absurd e q⟩, fun q => absurd h15 q⟩))⟩
    refine ⟨fun _ => ⟨Or.inl rfl, fun _ => has_spec hX.1 (by omega) (fun c hc e => ⟨fun q => absurd q (by decide), fun _ => ?_⟩) (fun hno => ⟨fun _ => hbad (fun w => by
      obtain ⟨c, hc, e, -⟩ := w
      exact hno c hc e), fun q => absurd rfl q⟩), fun q => absurd rfl q⟩, fun q => absurd hx4 q⟩
    subst e
    refine isCont_spec hI hX (by omega) (fun h0 => ⟨fun q => absurd q (by decide), fun _ => contX_spec hI hX ?_⟩) (fun h0 => ⟨fun _ => hbad (fun w => ?_), fun q => absurd rfl q⟩)
    · rw [hx3, nI_1, nI_ltI (by omega) (by omega)]
      refine ⟨fun hlt => exclX_spec hX.2.2.1 (by omega) (by omega) ?_, fun hnl => hbad (fun w => ?_)⟩
      · generalize hσ' : mI (mI σ 1 4 (nI (ex + 1))) 3 c (sI (-((ex + 1 : Nat) : Int))) = σ'
        have z1 : ∀ o i, ¬ (o = 3 ∧ i = c) → ¬ (o = 1 ∧ i = 4) → σ'.1 o i = σ.1 o i := fun o i q q2 => by rw [← hσ', mI_at, if_neg q, mI_at, if_neg q2]
        have z2 : σ'.2 = σ.2 := by rw [← hσ']; rfl
        have hI' := excl_rl hI hc h0
        have hcn : cnp (va_up st c (-((ex + 1 : Nat) : Int))) n = 0 := by
          rw [← h1.2.2.2]
          refine sm_congr (fun d _ => ?_)
          by_cases e : d = c
          · subst e
            rw [va_up_self, h0, if_neg (by omega), if_neg (by omega)]
          · rw [va_up_ne _ _ e]
        have hsX : suX σ' n k el (ex + 1) dr (va_up st c (-((ex + 1 : Nat) : Int))) B ct rw' P := by
          refine ⟨⟨?_, ?_, ?_, fun d hd => ?_, fun d hd => ?_⟩, ⟨?_, ?_, fun b hb => ?_, fun b hb => ?_⟩, ?_, ?_, ?_, ?_, fun b hb => ⟨?_, ?_⟩⟩
          · rw [z1 _ _ (by omega) (by omega)]; exact hX.1
          · rw [z1 _ _ (by omega) (by omega)]; exact hX.2.1
          · rw [← hσ', mI_at, if_neg (by omega), mI_at, if_pos ⟨rfl, rfl⟩]
          · rw [z1 _ _ (by omega) (by omega)]; exact hX.2.2.2.1 d hd
          · by_cases z : d = c
            · subst z
              rw [← hσ', mI_at, if_pos ⟨rfl, rfl⟩, va_up_self]
            · rw [z1 _ _ (by omega) (by omega), va_up_ne _ _ z]; exact hX.2.2.2.2 d hd
          · rw [z1 _ _ (by omega) (by omega)]; exact hpX.1
          · rw [z1 _ _ (by omega) (by omega)]; exact hpX.2.1
          · rw [z1 _ _ (by omega) (by omega)]; exact hpX.2.2.1 b hb
          · rw [z2]; exact hpX.2.2.2 b hb
          · rw [z1 _ _ (by omega) (by omega)]; exact hx3
          · rw [z1 _ _ (by omega) (by omega)]; exact hx4
          · rw [z1 _ _ (by omega) (by omega)]; exact hx5
          · rw [z2]; exact hx7
          · rw [z1 _ _ (by omega) (by omega)]; exact (hxb b hb).1
          · exact isF_f (hxb b hb).2 (by rw [z2]) (by rw [z2])
        refine hQ 0 σ' (fun QM hM => wdM_spec hI h3.1 (fun t0 ht => ⟨fun _ => ⟨fun q0 => ?_, fun _ => says_spec (fun _ => ⟨fun q => absurd q (by decide), fun _ => ?_⟩) (fun q => absurd rfl q)⟩, fun q => absurd h15 q⟩))
        · rcases ht with ⟨e, -⟩ | ⟨-, hx⟩
          · rw [e] at q0
            exact absurd q0 (by decide)
          · exact absurd ⟨c, hc, rfl, h0, hlt⟩ hx
        · have hm3 := suM_says (v := 0) h3
          obtain ⟨⟨m1, m2, m3, m4, m5, m6⟩, ⟨p1, p2, p3⟩, q15, q19, q8⟩ := hm3
          refine exclM_spec m4 (by omega) (by omega) ?_
          generalize hτ' : mI (mI (mI τ 0 0 0) 0 6 (nI (ex + 1))) 2 c (sI (-((ex + 1 : Nat) : Int))) = τ2
          have y1 : ∀ o i, ¬ (o = 2 ∧ i = c) → ¬ (o = 0 ∧ i = 6) → τ2.1 o i = (mI τ 0 0 0).1 o i := fun o i q q2 => by rw [← hτ', mI_at, if_neg q, mI_at, if_neg q2]
          refine hM τ2 (Or.inl ⟨n, k, el, ex + 1, dr, va_up st c (-((ex + 1 : Nat) : Int)), B, ct, rw', ln, bo, P, ⟨hI', h1.2.1, h1.2.2.1, hcn⟩, hsX, ⟨?_, ?_, ?_, ?_, fun d hd => ?_, fun d hd => ?_⟩, ⟨?_, fun p hp => ?_, fun p hp j hj => ?_⟩, ?_, ?_, fun d hd => ?_⟩) (by rw [y1 _ _ (by omega) (by omega), mI_at, if_pos ⟨rfl, rfl⟩])
          · rw [y1 _ _ (by omega) (by omega)]; exact m1
          · rw [y1 _ _ (by omega) (by omega)]; exact m2
          · rw [y1 _ _ (by omega) (by omega)]; exact m3
          · rw [← hτ', mI_at, if_neg (by omega), mI_at, if_pos ⟨rfl, rfl⟩]
          · rw [y1 _ _ (by omega) (by omega)]; exact m5 d hd
          · by_cases z : d = c
            · subst z
              rw [← hτ', mI_at, if_pos ⟨rfl, rfl⟩, va_up_self]
            · rw [y1 _ _ (by omega) (by omega), va_up_ne _ _ z]; exact m6 d hd
          · rw [y1 _ _ (by omega) (by omega)]; exact p1
          · rw [y1 _ _ (by omega) (by omega)]; exact p2 p hp
          · rw [y1 _ _ (by omega) (by omega)]; exact p3 p hp j hj
          · rw [y1 _ _ (by omega) (by omega)]; exact q15
          · rw [y1 _ _ (by omega) (by omega)]; exact q19
          · rw [y1 _ _ (by omega) (by omega)]; exact q8 d hd
      · obtain ⟨d, -, -, -, y⟩ := w
        omega
    · obtain ⟨d, hd, e, y, -⟩ := w
      have := (nI_eq (by omega) (by omega)).mp e
      subst this
      exact h0 y
  · have hs := s13 h1.1
    have h15 : ¬ τ.1 0 15 < 0 := by rw [h3.2.2.1]; exact nI_pos (by omega)
    refine ⟨fun q => ?_, fun _ => ⟨Or.inr rfl, fun q => absurd q (by decide), fun _ => Or.inl ⟨rfl, hQ 1 σ (fun QM hM => wdM_spec h1.1.1 h3.1 (fun t0 ht => ⟨fun q => absurd q h15, fun _ => hsay QM 1 (by decide) (hM _ (RR_says h') (by rw [mI_at, if_pos ⟨rfl, rfl⟩]))⟩))⟩⟩⟩
    rw [h2.2.2.2.1] at q
    exact absurd q (m1_ne (by omega))
end WD
