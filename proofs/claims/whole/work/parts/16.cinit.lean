/-! PreferenceCount(): the row of stages grows by five cells a turn -/
section CIN
variable {p : Program} {l : Launch} {e : Env} {R : Room} {s : State} {m : MethodId} {args : Array Value} {below : List Frame} {meth : Method} {c : Code} {H : Heap} {locs : List Loc} {cells slots : Nat} {Q : State → Prop}
variable {own : String} {cc : ByteArray} {nL : Nat} {ret : Option FieldType} {D : va_G} {cl : List vw_C} {tys : List (ClassId × FieldType)} {A : Nat → Prop} {ws wc w0 : va_W} {pc : Nat} {ls : Array Slot} {rest : List Value} {mc ms : Nat}
theorem k_newq {index : Nat} {C' : String} {cA0 : ClassId} (C : wC TB own cc nL ret D cl tys A p s m args meth c) (hlink : Cond.classLink own index C' ∈ TB) (hover : va_AO C' s) (t0 : Nat) (ht : tys[t0]? = some (cA0, .object C')) (hP : va_P D cl ws H) (hD : va_D A ws) (hS : va_S A s.heap H locs)
    {n : Int32} {N' : Nat} (hn : ¬ n < 0) (hN : n.toNatClampNeg = N') (hbytes : N' * 4 ≤ 536870912) (hcells : cells + 1 ≤ R.cells) (hslots : slots + N' ≤ R.slots) (hdg : decode cc pc = .ok (.anewarray index, 3))
    (kk : ∀ (q : Nat) (H1 : Heap), va_P D cl (ws ++ [(q, .inl (cA0, N', .inr (.inr (.inr (.inr (fun _ => none))))))]) H1 → va_D A (ws ++ [(q, .inl (cA0, N', .inr (.inr (.inr (.inr (fun _ => none))))))]) → va_S A s.heap H1 locs → W p l e R s m args below meth c H1 locs (cells + 1) (slots + N') Q (F0 m (pc + 3) ls (.ref q :: rest))) : W p l e R s m args below meth c H locs cells slots Q (F0 m pc ls (.int n :: rest)) :=
  va_newq C.1 C.2.1 C.2.2.2.2.2.1 (C.2.2.2.2.1 _ hlink) hover C.2.2.2.2.2.2.2.1 hP hD hS C.2.2.2.2.2.2.2.2.2 hn hN hbytes hcells hslots hdg (fun q cA H1 hK1 hP1 hD1 hS1 => by
    obtain ⟨_, _, -, -, -, e1⟩ := (C.2.2.2.2.2.2.2.1.2 t0 _ ht).2
    obtain ⟨_, _, -, -, -, e2⟩ := (hK1.2 tys.length (cA, .object C') (by simp)).2
    cases Option.some.inj (e1.symm.trans e2)
    exact kk q H1 hP1 hD1 hS1)
/-- a call whose cells stand last -/
theorem k_callA {S : Type} {post : S → Prop} {w1 : S → va_W} {st0 : List Value} {a : Array Value} (C : wC TB own cc nL ret D cl tys A p s m args meth c) (hP : va_P D cl (w0 ++ wc) H) (hD : va_D A (w0 ++ wc)) (hS : va_S A s.heap H locs)
    (hr : va_Run p l e R s m args below meth c H locs cells slots mc ms (F0 m pc ls st0) rest (va_Qv post (fun u t => cB D cl tys (va_A wc H.size) (w1 u) t) (va_A wc H.size) a) (va_A wc H.size))
    (kk : ∀ (u : S) (H1 : Heap) (locs1 : List Loc), post u → va_P D cl (w0 ++ w1 u) H1 → va_D A (w0 ++ w1 u) → va_S A s.heap H1 locs1 → W p l e R s m args below meth c H1 locs1 (cells + mc) (slots + ms) Q (F0 m (pc + 3) ls rest)) : W p l e R s m args below meth c H locs cells slots Q (F0 m pc ls st0) := by
  have hin : ∀ (k : Nat) (q : Nat × va_E), wc[k]? = some q → (w0 ++ wc)[w0.length + k]? = some q := fun k q h => by
    rw [List.getElem?_append_right (by omega)]
    simpa using h
  have hin0 : ∀ (k : Nat) (q : Nat × va_E), w0[k]? = some q → (w0 ++ wc)[k]? = some q := fun k q h => by
    rw [List.getElem?_append_left (List.getElem?_eq_some_iff.mp h).1]
    exact h
  have hF : ∀ q, va_A wc H.size q → A q := fun q h => by
    rcases h with ⟨k, e0, hk⟩ | h
    · exact hD.2 _ _ (hin k _ hk)
    · exact C.2.2.2.2.2.2.2.2.2 q (Nat.le_trans hS.1 h)
  have hout : ∀ (k : Nat) (q : Nat × va_E), w0[k]? = some q → q.1 < H.size ∧ ¬ va_A wc H.size q.1 := fun k q hk => by
    have hlt := (hP _ _ (hin0 k q hk)).lt
    refine ⟨hlt, fun h => ?_⟩
    rcases h with ⟨j, e0, hj⟩ | h
    · have := hD.1 _ _ _ _ (hin0 k q hk) (hin j _ hj) rfl
      have h2 := (List.getElem?_eq_some_iff.mp hk).1
      omega
    · omega
  refine va_callv hr hS (fun q _ h => hF q h) hF (fun u t H1 locs1 ht hvm hq hB hz hk hS1 => ?_)
  obtain ⟨hP1, hK1, hD1⟩ := hB
  rw [ht] at hP1
  refine kk u H1 locs1 hq (va_P.app (fun k q hk' => (hP _ _ (hin0 k q hk')).kept (hk _ (hout k q hk').1 (hout k q hk').2)) hP1) (va_D.app ⟨fun i j a b hi hj e0 => hD.1 _ _ _ _ (hin0 i a hi) (hin0 j b hj) e0, fun k q hk' => hD.2 _ _ (hin0 k q hk')⟩ (hD1.weaken (fun _ _ _ h => hF _ h)) (fun i j a b hi hj e0 => ?_)) hS1
  exact (hout i a hi).2 (by rw [e0]; exact hD1.2 _ _ hj)
end CIN
def fXk (k : Nat) (cI cL cS : ClassId) (ad : Nat → Nat) : WF := fun j r q => if j = 11 then .inl (cS, 13, .inr (.inr (.inr (.inr (fun i => if i < k then some (ad (12 + 5 * i)) else none))))) else fX cI cL cS ad j r q
theorem fXk_ne {k j : Nat} {cI cL cS : ClassId} {ad : Nat → Nat} {r : Nat → Int32} {q : Nat → Int64} (h : j ≠ 11) : fXk k cI cL cS ad j r q = fX cI cL cS ad j r q := if_neg h
theorem fX_congr {k j : Nat} {cI cL cS : ClassId} {ad ad' : Nat → Nat} {r : Nat → Int32} {q : Nat → Int64} (h : ∀ i, i < 12 + 5 * k → ad' i = ad i) (hj : j < 12 + 5 * k) (h11 : j ≠ 11) : fX cI cL cS ad' j r q = fX cI cL cS ad j r q := by
  unfold fX
  by_cases h12 : j < 12
  · rw [if_pos h12, if_pos h12]
    match j, h12, h11 with
    | 0, _, _ => simp only [h 1 (by omega), h 4 (by omega), h 11 (by omega)]
    | 1, _, _ => simp only [h 2 (by omega), h 3 (by omega)]
    | 2, _, _ => rfl
    | 3, _, _ => rfl
    | 4, _, _ => simp only [h 5 (by omega), h 6 (by omega), h 7 (by omega), h 8 (by omega)]
    | 5, _, _ => rfl
    | 6, _, _ => rfl
    | 7, _, _ => rfl
    | 8, _, _ => simp only [h 9 (by omega), h 10 (by omega)]
    | 9, _, _ => rfl
    | 10, _, _ => rfl
    | 11, _, h11 => exact absurd rfl h11
    | j + 12, h, _ => exact absurd h (by omega)
  · rw [if_neg h12, if_neg h12]
    have hm : (j - 12) % 5 < 5 := Nat.mod_lt _ (by omega)
    generalize hx : (j - 12) % 5 = x at hm
    match x, hm with
    | 0, _ => simp only [h (j + 1) (by omega), h (j + 4) (by omega)]
    | 1, _ => simp only [h (j + 1) (by omega), h (j + 2) (by omega)]
    | 2, _ => rfl
    | 3, _ => rfl
    | 4, _ => rfl
    | x + 5, h => exact absurd h (by omega)
def adk (k : Nat) (ad : Nat → Nat) (q u1 u2 u3 u4 : Nat) : Nat → Nat := fun j => if j < 12 + 5 * k then ad j else match j - (12 + 5 * k) with | 0 => q | 1 => u1 | 2 => u2 | 3 => u3 | _ => u4
def sgk (k : Nat) (σ : Mem) (g : Nat → Int64) : Mem := (σ.1, fun j => if j = 15 + 5 * k then g else σ.2 j)
theorem cin_grow {k : Nat} {cI cL cS : ClassId} {ad : Nat → Nat} {σ : Mem} {q u1 u2 u3 u4 : Nat} {g : Nat → Int64} (hk : k < 13) (h1 : ∀ j, σ.1 j = fun _ => 0) (h2 : ∀ j, 12 + 5 * k ≤ j → σ.2 j = fun _ => 0) :
    ((wW (12 + 5 * k) (fXk k cI cL cS ad) ad σ ++ []) ++ ([(q, .inr (3, [.ref u1, .ref u4])), (u1, .inr (0, [.ref u2, .ref u3])), (u2, .inl (cL, (13, .inr (.inl (fun _ => 0))))), (u3, .inl (cL, (13, .inr (.inl g)))), (u4, .inl (cI, (13, .inl (fun _ => 0))))] : va_W)).set 11 (ad 11, .inl (cS, 13, .inr (.inr (.inr (.inr (va_up (fun i => if i < k then some (ad (12 + 5 * i)) else none) k (some q)))))))
      = wW (12 + 5 * (k + 1)) (fXk (k + 1) cI cL cS (adk k ad q u1 u2 u3 u4)) (adk k ad q u1 u2 u3 u4) (sgk k σ g) ++ [] := by
  have hlen : (wW (12 + 5 * k) (fXk k cI cL cS ad) ad σ).length = 12 + 5 * k := by simp [wW]
  have hold : ∀ i, i < 12 + 5 * k → adk k ad q u1 u2 u3 u4 i = ad i := fun i hi => if_pos hi
  have hst : isSt (12 + 5 * k) := ⟨by omega, by omega, by omega⟩
  rw [List.append_nil, List.append_nil]
  apply List.ext_getElem?
  intro j
  by_cases hj : j < 12 + 5 * k
  · have hj' : j < 12 + 5 * (k + 1) := by omega
    rw [show (wW (12 + 5 * (k + 1)) (fXk (k + 1) cI cL cS (adk k ad q u1 u2 u3 u4)) (adk k ad q u1 u2 u3 u4) (sgk k σ g))[j]? = some (adk k ad q u1 u2 u3 u4 j, fXk (k + 1) cI cL cS (adk k ad q u1 u2 u3 u4) j ((sgk k σ g).1 j) ((sgk k σ g).2 j)) from by simp [wW, hj']]
    by_cases h11 : j = 11
    · subst h11
      rw [List.getElem?_set_self (by simp [hlen]; omega)]
      rw [hold 11 hj]
      have hf : va_up (fun i => if i < k then some (ad (12 + 5 * i)) else none) k (some q) = (fun i => if i < k + 1 then some (adk k ad q u1 u2 u3 u4 (12 + 5 * i)) else none) := by
        funext i
        by_cases hik : i = k
        · subst hik
          rw [va_up_self, if_pos (by omega)]
          simp [adk]
        · rw [va_up_ne _ _ hik]
          by_cases hi : i < k
          · rw [if_pos hi, if_pos (by omega), hold _ (by omega)]
          · rw [if_neg hi, if_neg (by omega)]
      rw [hf]
      rfl
    · rw [List.getElem?_set_ne (fun h => h11 h.symm), List.getElem?_append_left (by rw [hlen]; exact hj)]
      rw [show (wW (12 + 5 * k) (fXk k cI cL cS ad) ad σ)[j]? = some (ad j, fXk k cI cL cS ad j (σ.1 j) (σ.2 j)) from by simp [wW, hj]]
      rw [hold j hj, fXk_ne h11, fXk_ne h11, fX_congr hold hj h11]
      simp only [sgk, if_neg (show ¬ j = 15 + 5 * k by omega)]
  · rw [List.getElem?_set_ne (by omega), List.getElem?_append_right (by rw [hlen]; omega), hlen]
    by_cases hj5 : j < 12 + 5 * (k + 1)
    · rw [show (wW (12 + 5 * (k + 1)) (fXk (k + 1) cI cL cS (adk k ad q u1 u2 u3 u4)) (adk k ad q u1 u2 u3 u4) (sgk k σ g))[j]? = some (adk k ad q u1 u2 u3 u4 j, fXk (k + 1) cI cL cS (adk k ad q u1 u2 u3 u4) j ((sgk k σ g).1 j) ((sgk k σ g).2 j)) from by simp [wW, hj5]]
      rw [fXk_ne (by omega)]
      obtain ⟨t, ht, rfl⟩ : ∃ t, t < 5 ∧ j = 12 + 5 * k + t := ⟨j - (12 + 5 * k), by omega, by omega⟩
      have had : ∀ i, adk k ad q u1 u2 u3 u4 (12 + 5 * k + i) = match i with | 0 => q | 1 => u1 | 2 => u2 | 3 => u3 | _ => u4 := fun i => by
        rw [adk, if_neg (by omega), show 12 + 5 * k + i - (12 + 5 * k) = i by omega]
      rw [show 12 + 5 * k + t - (12 + 5 * k) = t by omega]
      match t, ht with
      | 0, _ =>
        rw [show 12 + 5 * k + 0 = 12 + 5 * k from rfl, st_cell hst]
        simp [had 0, had 1, had 4, show adk k ad q u1 u2 u3 u4 (12 + 5 * k) = q from had 0]
      | 1, _ =>
        rw [fr_cell (st_fr hst)]
        simp [had 1, show adk k ad q u1 u2 u3 u4 (12 + 5 * k + 1 + 1) = u2 from had 2, show adk k ad q u1 u2 u3 u4 (12 + 5 * k + 1 + 2) = u3 from had 3]
      | 2, _ =>
        rw [show 12 + 5 * k + 2 = 12 + 5 * k + 1 + 1 from rfl, fr_cell1 (st_fr hst)]
        simp [show adk k ad q u1 u2 u3 u4 (12 + 5 * k + 1 + 1) = u2 from had 2, frLen, sgk, show ¬ 12 + 5 * k + 1 = 8 by omega, show ¬ 12 + 5 * k + 1 + 1 = 15 + 5 * k by omega, h2 (12 + 5 * k + 1 + 1) (by omega)]
      | 3, _ =>
        rw [show 12 + 5 * k + 3 = 12 + 5 * k + 1 + 2 from rfl, fr_cell2 (st_fr hst)]
        simp [show adk k ad q u1 u2 u3 u4 (12 + 5 * k + 1 + 2) = u3 from had 3, frLen, sgk, show ¬ 12 + 5 * k + 1 = 8 by omega, show 12 + 5 * k + 1 + 2 = 15 + 5 * k by omega, show adk k ad q u1 u2 u3 u4 (15 + 5 * k) = u3 from by rw [show 15 + 5 * k = 12 + 5 * k + 3 by omega]; exact had 3]
      | 4, _ =>
        rw [st_cell4 hst]
        simp [had 4, sgk, h1]
      | t + 5, h => exact absurd h (by omega)
    · rw [show (wW (12 + 5 * (k + 1)) (fXk (k + 1) cI cL cS (adk k ad q u1 u2 u3 u4)) (adk k ad q u1 u2 u3 u4) (sgk k σ g))[j]? = none from by simp [wW]; omega]
      simp
      omega
