/-! Throwing: what a method that throws leaves; the rows of a throw, of a call that may throw, of the ends. -/
def wX (D : va_G) (cl : List vw_C) (tys : List (ClassId × FieldType)) (n : Nat) (f : WF) (ad : Nat → Nat) (wr : va_W) (A : Nat → Prop) (E : String → Mem → Prop) : String → State → State → Prop := vx_X (fun _ : Mem => True) (fun X σ t => E X σ ∧ wB D cl tys n f ad wr A σ t) A
section THR
variable {p : Program} {l : Launch} {e : Env} {R : Room} {s : State} {m : MethodId} {args : Array Value} {below : List Frame} {meth : Method} {c : Code} {H : Heap} {locs : List Loc} {cells slots : Nat} {Q : State → Prop}
variable {own : String} {cc : ByteArray} {nL : Nat} {ret : Option FieldType} {D : va_G} {cl : List vw_C} {tys : List (ClassId × FieldType)} {A : Nat → Prop} {n : Nat} {f : WF} {ad : Nat → Nat} {wr : va_W} {σ : Mem}
variable {E : String → Mem → Prop} {mc ms : Nat} {pc : Nat} {ls : Array Slot} {rest : List Value}
theorem x_vret {Qp : Mem → Prop} (hc : cells ≤ mc) (hs : slots ≤ ms) (C : wC TB own cc nL none D cl tys A p s m args meth c) (hP : va_P D cl (wW n f ad σ ++ wr) H) (hD : va_D A (wW n f ad σ ++ wr)) (hS : va_S A s.heap H locs) (hdg : decode cc pc = .ok (.return_, 1)) (h : Qp σ) :
    W p l e R s m args below meth c H locs cells slots (vx_MQ below (va_Qv Qp (wB D cl tys n f ad wr A) A) (wX D cl tys n f ad wr A E) args s mc ms A) (F0 m pc ls []) := W.widen hc hs (vx_ret (r_vret C hP hD hS hdg h))
theorem x_iret {Qp : Int32 → Mem → Prop} {v : Int32} (hc : cells ≤ mc) (hs : slots ≤ ms) (C : wC TB own cc nL (some .int) D cl tys A p s m args meth c) (hP : va_P D cl (wW n f ad σ ++ wr) H) (hD : va_D A (wW n f ad σ ++ wr)) (hS : va_S A s.heap H locs) (hdg : decode cc pc = .ok (.ireturn, 1)) (h : Qp v σ) :
    W p l e R s m args below meth c H locs cells slots (vx_MQ below (va_Qi Qp (wB D cl tys n f ad wr A) A) (wX D cl tys n f ad wr A E) args s mc ms A) (F0 m pc ls [.int v]) := W.widen hc hs (vx_ret (r_iret C hP hD hS hdg h))
theorem x_lret {Qp : Int64 → Mem → Prop} {v : Int64} (hc : cells ≤ mc) (hs : slots ≤ ms) (C : wC TB own cc nL (some .long) D cl tys A p s m args meth c) (hP : va_P D cl (wW n f ad σ ++ wr) H) (hD : va_D A (wW n f ad σ ++ wr)) (hS : va_S A s.heap H locs) (hdg : decode cc pc = .ok (.lreturn, 1)) (h : Qp v σ) :
    W p l e R s m args below meth c H locs cells slots (vx_MQ below (va_Ql Qp (wB D cl tys n f ad wr A) A) (wX D cl tys n f ad wr A E) args s mc ms A) (F0 m pc ls [.long v]) := W.widen hc hs (vx_ret (r_lret C hP hD hS hdg h))
theorem x_throw {Qc : Array Value → State → Outcome → State → Prop} {X text : String} {ik is ic : Nat} (C : wC TB "PreferenceCount" cc nL ret D cl tys A p s m args meth c) (hl : l.stackTraces = false) (hX : ∀ x ∈ c.exceptionTable.toList, False) (hP : va_P D cl (wW n f ad σ ++ wr) H) (hD : va_D A (wW n f ad σ ++ wr)) (hS : va_S A s.heap H locs)
    (hcls : Bundle.fit X = true) (hk : Cond.classLink "PreferenceCount" ik X ∈ TB) (hini : Cond.initialized X ∈ TB) (hstr : (is, text) ∈ XS) (hat : ∀ w ∈ vx_atS "PreferenceCount" ic X xn, w ∈ XW) (hgood : ∀ w ∈ Cond.classLink "PreferenceCount" ik X :: Cond.initialized X :: vx_atS "PreferenceCount" ic X xn, vx_ot w = true)
    (hsz : ls.size = nL) (d0 : decode cc pc = .ok (.new ik, 3)) (d3 : decode cc (pc + 3) = .ok (.dup, 1)) (d4 : decode cc (pc + 4) = .ok (.ldc is, 2)) (d6 : decode cc (pc + 6) = .ok (.invokespecial ic, 3)) (d9 : decode cc (pc + 9) = .ok (.athrow, 1))
    (hRf : 5 < R.frames) (hRl : (rest.map fun v => v.category).sum + 82 ≤ R.locals) (hRc : cells + 1 ≤ R.cells) (hRs : slots + 6 ≤ R.slots) (hc : cells + 1 ≤ mc) (hs : slots + 6 ≤ ms) (h : E X σ) :
    W p l e R s m args below meth c H locs cells slots (vx_MQ below Qc (wX D cl tys n f ad wr A E) args s mc ms A) (F0 m pc ls rest) := by
  obtain ⟨hx, hb, hr, hlk, hts, hown, hml, hK, ⟨hN1, hN2, hN3, hN4, hN5, hN6⟩, hA⟩ := C
  obtain ⟨sa, hsa⟩ := hN3 _ hstr
  refine vx_throwS (names := xn) (sa := sa) hx hb hl hown hcls (by decide +kernel) (hts _ hk) (hts _ hini) hsa (fun w hw => va_Nw.use ?_ (hN2 w (hat w hw))) hgood hN4 hN5 hS (hsz.trans hml.symm) d0 d3 d4 d6 d9 (fun x hx => (hX x hx).elim) hRf hRl hRc hRs hlk (fun t hvm hz hk => ?_) hS.2.2 hc hs
  · have := XW_ok w (hat w hw)
    simp only [Bool.and_eq_true] at this
    exact this.1
  · refine ⟨σ, trivial, ⟨h, hP.kept (fun k q hq => hk _ (hP k q hq).lt), va_K.moved hvm hK, hD⟩, Nat.le_trans hS.1 hz, fun q h1 h2 => ?_⟩
    rw [hk q (Nat.lt_of_lt_of_le h1 hS.1)]
    exact hS.2.1 q h1 h2
theorem x_kx {Qc : Array Value → State → Outcome → State → Prop} {mc' ms' : Nat} (C : wC TB own cc nL ret D cl tys A p s m args meth c) (hX : ∀ x ∈ c.exceptionTable.toList, False) (hD : va_D A (wW n f ad σ ++ wr)) (hS : va_S A s.heap H locs) (hc : cells + mc' ≤ mc) (hs : slots + ms' ≤ ms) :
    ∀ (X : String) (ce : Cell) (q9 : Addr) (u : Mem) (t : State) (H1 : Heap) (locs1 : List Loc), t.heap = H1 → s.vm.Alike t.vm → True → (E X u ∧ wB D cl tys n f ad wr (wA n f ad wr H.size σ) u t) → H.size ≤ H1.size → (∀ q : Nat, q < H.size → ¬ (wA n f ad wr H.size σ) q → H1[q]? = H[q]?) → va_S A s.heap H1 locs1 → H1[q9]? = some ce → ce.vm = .none → s.vm.findClass X = some ce.cls → vx_W p l e R s m args below meth c H1 locs1 (cells + mc') (slots + ms') (vx_MQ below Qc (wX D cl tys n f ad wr A E) args s mc ms A) (F0 m pc ls rest) q9 :=
  fun X ce q9 u t H1 locs1 ht hvm _ hB hz hk hS1 hce hcv hcl => vx_out (fun x hx => (hX x hx).elim) C.2.2.2.1 hce hcv hcl (fun t' ht' hvm' => ⟨u, trivial, ⟨hB.1, by rw [ht', ← ht]; exact hB.2.1, va_K.moved hvm' C.2.2.2.2.2.2.2.1, hB.2.2.2.weaken (fun _ _ _ h => r_sub C hD hS _ h)⟩, hS1.F ht'⟩) hS1.2.2 hc hs
theorem x_callv {Qc : Array Value → State → Outcome → State → Prop} {Qp : Mem → Prop} {st0 : List Value} {a : Array Value} {mc' ms' : Nat} (C : wC TB own cc nL ret D cl tys A p s m args meth c) (hX : ∀ x ∈ c.exceptionTable.toList, False) (hD : va_D A (wW n f ad σ ++ wr)) (hS : va_S A s.heap H locs) (hc : cells + mc' ≤ mc) (hs : slots + ms' ≤ ms)
    (hr : vx_Run p l e R s m args below meth c H locs cells slots mc' ms' (F0 m pc ls st0) rest (va_Qv Qp (wB D cl tys n f ad wr (wA n f ad wr H.size σ)) (wA n f ad wr H.size σ) a) (wX D cl tys n f ad wr (wA n f ad wr H.size σ) E) (wA n f ad wr H.size σ))
    (kk : ∀ (σ1 : Mem) (H1 : Heap) (locs1 : List Loc), Qp σ1 → va_P D cl (wW n f ad σ1 ++ wr) H1 → va_D A (wW n f ad σ1 ++ wr) → va_S A s.heap H1 locs1 → W p l e R s m args below meth c H1 locs1 (cells + mc') (slots + ms') (vx_MQ below Qc (wX D cl tys n f ad wr A E) args s mc ms A) (F0 m (pc + 3) ls rest)) : W p l e R s m args below meth c H locs cells slots (vx_MQ below Qc (wX D cl tys n f ad wr A E) args s mc ms A) (F0 m pc ls st0) :=
  vx_callv hr hS (fun q _ h => r_sub C hD hS q h) (r_sub C hD hS) (fun q _ h => r_sub C hD hS q h) (x_kx C hX hD hS hc hs) (fun σ1 t H1 locs1 ht hvm hq hB hz hk hS1 => kk σ1 H1 locs1 hq (by rw [← ht]; exact hB.1) (hB.2.2.weaken (fun _ _ _ h => r_sub C hD hS _ h)) hS1)
end THR
theorem xat_IA : ∀ w ∈ vx_atS "PreferenceCount" 38 xIA xn, w ∈ XW := fun _ h => List.mem_append_left _ h
theorem xat_IS : ∀ w ∈ vx_atS "PreferenceCount" 92 xIS xn, w ∈ XW := fun _ h => List.mem_append_right _ (List.mem_append_left _ h)
theorem xat_IB : ∀ w ∈ vx_atS "PreferenceCount" 157 xIB xn, w ∈ XW := fun _ h => List.mem_append_right _ (List.mem_append_right _ h)
theorem xgo_IA : ∀ w ∈ Cond.classLink "PreferenceCount" 34 xIA :: Cond.initialized xIA :: vx_atS "PreferenceCount" 38 xIA xn, vx_ot w = true := by decide +kernel
theorem xgo_IS : ∀ w ∈ Cond.classLink "PreferenceCount" 88 xIS :: Cond.initialized xIS :: vx_atS "PreferenceCount" 92 xIS xn, vx_ot w = true := by decide +kernel
theorem xgo_IB : ∀ w ∈ Cond.classLink "PreferenceCount" 153 xIB :: Cond.initialized xIB :: vx_atS "PreferenceCount" 157 xIB xn, vx_ot w = true := by decide +kernel
