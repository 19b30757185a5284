/-! constructors: worlds as lists of cells; a row for a new array, for a call of a constructor; what fill does -/
abbrev cB (D : va_G) (cl : List vw_C) (tys : List (ClassId × FieldType)) (A : Nat → Prop) (ws : va_W) (t : State) : Prop := va_P D cl ws t.heap ∧ va_K D cl tys t ∧ va_D A ws
abbrev cPc (D : va_G) (cl : List vw_C) (tys : List (ClassId × FieldType)) (ws : va_W) (sz : Nat) (av : List Value) : Array Value → State → Prop := va_Pc av (fun U => U.heap.size = sz ∧ va_P D cl ws U.heap ∧ va_K D cl tys U ∧ va_D (fun _ => True) ws ∧ NX (va_A ws sz) U U.heap)
section KROW
variable {p : Program} {l : Launch} {e : Env} {R : Room} {s : State} {m : MethodId} {args : Array Value} {below : List Frame} {meth : Method} {c : Code} {H : Heap} {locs : List Loc} {cells slots : Nat} {Q : State → Prop}
variable {own : String} {cc : ByteArray} {nL : Nat} {ret : Option FieldType} {D : va_G} {cl : List vw_C} {tys : List (ClassId × FieldType)} {A : Nat → Prop} {ws wc wr : va_W} {pc : Nat} {ls : Array Slot} {rest : List Value} {mc ms : Nat}
theorem k_blind {sz : Nat} {av : List Value} : FrameBlind (cPc D cl tys ws sz av) := fun a U g mk q => by
  obtain ⟨q0, q1, qP, qK, qD, qN⟩ := q
  exact ⟨q0, q1, qP, va_K.moved (u := U) (U := U.calling g mk a) (Vm.Alike.refl U.vm) qK, qD, NX.blind (U := U) (V := U.calling g mk a) (H := U.heap) rfl qN⟩
theorem k_free (C : wC TB own cc nL ret D cl tys A p s m args meth c) (hD : va_D A ws) (hS : va_S A s.heap H locs) (isC : List Nat) (hC : isC.map (fun i => ws[i]?) = wc.map some) : ∀ q, va_A wc H.size q → A q := va_free hD hS C.2.2.2.2.2.2.2.2.2 isC hC
theorem k_pre (C : wC TB own cc nL ret D cl tys A p s m args meth c) (hP : va_P D cl ws H) (hD : va_D A ws) (hS : va_S A s.heap H locs) (isC : List Nat) (hC : isC.map (fun i => ws[i]?) = wc.map some) (hc : isC.filterMap (fun i => ws[i]?) = wc) (hn : va_nd isC = true) {av : List Value} : PreS s H (cPc D cl tys wc H.size av) av :=
  ⟨k_blind, fun U hU hW => ⟨rfl, by rw [hU], by rw [hU]; exact hP.sub isC hc, va_K.moved hW.alike C.2.2.2.2.2.2.2.1, (hD.sub isC hn hC).weaken (fun _ _ _ _ => trivial), by rw [hU]; exact C.2.2.2.2.2.2.2.2.1.to hW hS.2.1 (k_free C hD hS isC hC)⟩⟩
theorem k_call {S : Type} {post : S → Prop} {w1 : S → va_W} {st0 : List Value} {a : Array Value} (C : wC TB own cc nL ret D cl tys A p s m args meth c) (hP : va_P D cl ws H) (hD : va_D A ws) (hS : va_S A s.heap H locs) (isC isR : List Nat) (hC : isC.map (fun i => ws[i]?) = wc.map some) (hR : isR.map (fun i => ws[i]?) = wr.map some) (hn : va_nd isR = true) (hdis : ∀ i ∈ isR, i ∉ isC)
    (hr : va_Run p l e R s m args below meth c H locs cells slots mc ms (F0 m pc ls st0) rest (va_Qv post (fun u t => cB D cl tys (va_A wc H.size) (w1 u) t) (va_A wc H.size) a) (va_A wc H.size))
    (kk : ∀ (u : S) (H1 : Heap) (locs1 : List Loc), post u → va_P D cl (wr ++ w1 u) H1 → va_D A (wr ++ w1 u) → va_S A s.heap H1 locs1 → W p l e R s m args below meth c H1 locs1 (cells + mc) (slots + ms) Q (F0 m (pc + 3) ls rest)) : W p l e R s m args below meth c H locs cells slots Q (F0 m pc ls st0) :=
  va_callv hr hS (fun q _ h => k_free C hD hS isC hC q h) (k_free C hD hS isC hC) (fun u t H1 locs1 ht hvm hq hB hz hk hS1 => by
    obtain ⟨hP1, hK1, hD1⟩ := hB
    rw [ht] at hP1
    obtain ⟨h1, h2⟩ := va_join hP hD isC isR hC hR hn hdis hk (k_free C hD hS isC hC) hP1 hD1
    exact kk u H1 locs1 hq h1 h2 hS1)
theorem k_newa {atype : ArrayType} {ty : FieldType} {cA0 : ClassId} (C : wC TB own cc nL ret D cl tys A p s m args meth c) (harr : Cond.arrayClass (newarray.typeOf atype) ∈ TB) (hty : newarray.typeOf atype = ty) (t0 : Nat) (ht : tys[t0]? = some (cA0, ty)) (hRA : ∀ c0, va_RA s c0 ty → s.vm.findClass ("[" ++ ty.toString) = some c0) (hP : va_P D cl ws H) (hD : va_D A ws) (hS : va_S A s.heap H locs)
    {n : Int32} {N' : Nat} {a0 : vp_A} (ha : ∀ cA : ClassId, vp_cell cA a0 = arrV cA N' (fun _ => defaultValue ty)) (hn : ¬ n < 0) (hN : n.toNatClampNeg = N') (hbytes : N' * componentBytes ty ≤ 536870912) (hcells : cells + 1 ≤ R.cells) (hslots : slots + N' ≤ R.slots) (hdg : decode cc pc = .ok (.newarray atype, 2))
    (kk : ∀ (q : Nat) (H1 : Heap), va_P D cl (ws ++ [(q, .inl (cA0, a0))]) H1 → va_D A (ws ++ [(q, .inl (cA0, a0))]) → va_S A s.heap H1 locs → W p l e R s m args below meth c H1 locs (cells + 1) (slots + N') Q (F0 m (pc + 2) ls (.ref q :: rest))) : W p l e R s m args below meth c H locs cells slots Q (F0 m pc ls (.int n :: rest)) :=
  va_newa C.1 C.2.1 (C.2.2.2.2.1 _ harr) hty C.2.2.2.2.2.2.2.1 hP hD hS C.2.2.2.2.2.2.2.2.2 ha hn hN hbytes hcells hslots hdg (fun q cA H1 hK1 hP1 hD1 hS1 => by
    have e1 := hRA _ (C.2.2.2.2.2.2.2.1.2 t0 _ ht).2
    have e2 := hRA _ (hK1.2 tys.length (cA, ty) (by simp)).2
    cases Option.some.inj (e1.symm.trans e2)
    exact kk q H1 hP1 hD1 hS1)
end KROW
theorem nI_0' : (0 : Int32) = nI 0 := by decide
theorem fillJ_go {Q : Mem → Prop} {a n : Nat} {v : Int64} (hn : n < 2 ^ 31) : ∀ (k i : Nat) (σ : Mem), i + k = n → (∀ σ' : Mem, σ'.1 = σ.1 → (∀ b, b ≠ a → σ'.2 b = σ.2 b) → (∀ j, j < i → σ'.2 a j = σ.2 a j) → (∀ j, i ≤ j → j < n → σ'.2 a j = v) → Q σ') → wp_A_fillJ_6 Q a n (k + 1) v (nI i) (nI n) σ := by
  intro k
  induction k with
  | zero =>
    intro i σ hi hq
    have : i = n := by omega
    subst this
    exact ⟨fun _ => hq σ rfl (fun _ _ => rfl) (fun _ _ => rfl) (fun j h1 h2 => absurd h1 (by omega)), fun h => absurd (nI_le (Nat.le_refl i) hn) h⟩
  | succ k ih =>
    intro i σ hi hq
    refine ⟨fun h => absurd h (nI_ge (by omega) hn), fun _ => ⟨vp_in_nI (by omega) hn, fun σ1 e1 v1 e2 => ?_⟩⟩
    rw [nI_clamp (by omega)] at e1
    rw [nI_1] at e2
    subst e2
    refine ih (i + 1) σ1 (by omega) (fun σ' h1 h2 h3 h4 => hq σ' ?_ ?_ ?_ ?_)
    · rw [h1, e1]; rfl
    · intro b hb
      rw [h2 b hb, e1]
      exact (mL_ne b hb).2
    · intro j hj
      rw [h3 j (by omega), e1, mL_at, if_neg (by omega)]
    · intro j hj hjn
      by_cases hji : j = i
      · subst hji
        rw [h3 j (by omega), e1, mL_at, if_pos ⟨rfl, rfl⟩]
      · exact h4 j (by omega) hjn
theorem fillJ_spec {Q : Mem → Prop} {a n : Nat} {v : Int64} {σ : Mem} (hn : n < 2 ^ 31) (hq : ∀ σ' : Mem, σ'.1 = σ.1 → (∀ b, b ≠ a → σ'.2 b = σ.2 b) → (∀ j, j < n → σ'.2 a j = v) → Q σ') : wp_A_fillJ Q a n v σ := by
  intro v4 e4
  subst e4
  refine ⟨n + 1, ?_⟩
  rw [nI_0']
  exact fillJ_go hn n 0 σ (by omega) (fun σ' h1 h2 _ h4 => hq σ' h1 h2 (fun j hj => h4 j (by omega) hj))
theorem fillI_go {Q : Mem → Prop} {a n : Nat} {v : Int32} (hn : n < 2 ^ 31) : ∀ (k i : Nat) (σ : Mem), i + k = n → (∀ σ' : Mem, σ'.2 = σ.2 → (∀ b, b ≠ a → σ'.1 b = σ.1 b) → (∀ j, j < i → σ'.1 a j = σ.1 a j) → (∀ j, i ≤ j → j < n → σ'.1 a j = v) → Q σ') → wp_A_fillI_5 Q a n (k + 1) v (nI i) (nI n) σ := by
  intro k
  induction k with
  | zero =>
    intro i σ hi hq
    have : i = n := by omega
    subst this
    exact ⟨fun _ => hq σ rfl (fun _ _ => rfl) (fun _ _ => rfl) (fun j h1 h2 => absurd h1 (by omega)), fun h => absurd (nI_le (Nat.le_refl i) hn) h⟩
  | succ k ih =>
    intro i σ hi hq
    refine ⟨fun h => absurd h (nI_ge (by omega) hn), fun _ => ⟨vp_in_nI (by omega) hn, fun σ1 e1 v1 e2 => ?_⟩⟩
    rw [nI_clamp (by omega)] at e1
    rw [nI_1] at e2
    subst e2
    refine ih (i + 1) σ1 (by omega) (fun σ' h1 h2 h3 h4 => hq σ' ?_ ?_ ?_ ?_)
    · rw [h1, e1]; rfl
    · intro b hb
      rw [h2 b hb, e1]
      exact (mI_ne b hb).1
    · intro j hj
      rw [h3 j (by omega), e1, mI_at, if_neg (by omega)]
    · intro j hj hjn
      by_cases hji : j = i
      · subst hji
        rw [h3 j (by omega), e1, mI_at, if_pos ⟨rfl, rfl⟩]
      · exact h4 j (by omega) hjn
theorem fillI_spec {Q : Mem → Prop} {a n : Nat} {v : Int32} {σ : Mem} (hn : n < 2 ^ 31) (hq : ∀ σ' : Mem, σ'.2 = σ.2 → (∀ b, b ≠ a → σ'.1 b = σ.1 b) → (∀ j, j < n → σ'.1 a j = v) → Q σ') : wp_A_fillI Q a n v σ := by
  intro v4 e4
  subst e4
  refine ⟨n + 1, ?_⟩
  rw [nI_0']
  exact fillI_go hn n 0 σ (by omega) (fun σ' h1 h2 _ h4 => hq σ' h1 h2 (fun j hj => h4 j (by omega) hj))
