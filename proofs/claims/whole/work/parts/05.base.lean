/-! The memory of a side: ints and longs by object number and place; the world that holds it. -/
abbrev Mem : Type := (Nat → Nat → Int32) × (Nat → Nat → Int64)
def mI (σ : Mem) (k j : Nat) (v : Int32) : Mem := (va_up σ.1 k (upd (σ.1 k) j v), σ.2)
def mL (σ : Mem) (k j : Nat) (v : Int64) : Mem := (σ.1, va_up σ.2 k (vp_updL (σ.2 k) j v))
abbrev WF : Type := Nat → (Nat → Int32) → (Nat → Int64) → va_E
def wW (n : Nat) (f : WF) (ad : Nat → Nat) (σ : Mem) : va_W := (List.range n).map (fun k => (ad k, f k (σ.1 k) (σ.2 k)))
theorem wW_at {n : Nat} {f : WF} {ad : Nat → Nat} {σ : Mem} {wr : va_W} {k : Nat} {e : va_E} (hk : k < n) (he : f k (σ.1 k) (σ.2 k) = e) : (wW n f ad σ ++ wr)[k]? = some (ad k, e) := by
  subst he
  rw [List.getElem?_append_left (by simpa [wW] using hk)]
  simp [wW, hk]
theorem wW_set {n : Nat} {f : WF} {ad : Nat → Nat} {σ σ' : Mem} {wr : va_W} {k : Nat} {e : va_E} (hk : k < n) (he : f k (σ'.1 k) (σ'.2 k) = e) (ho : ∀ j, j ≠ k → σ'.1 j = σ.1 j ∧ σ'.2 j = σ.2 j) : (wW n f ad σ ++ wr).set k (ad k, e) = wW n f ad σ' ++ wr := by
  rw [List.set_append_left _ _ (by simpa [wW] using hk)]
  congr 1
  apply List.ext_getElem?
  intro j
  by_cases hj : j = k
  · subst hj
    subst he
    simp [wW, hk]
  · rw [List.getElem?_set_ne (fun h => hj h.symm)]
    by_cases hn : j < n
    · simp [wW, hn, ho j hj]
    · simp [wW, hn]
theorem mI_row {σ : Mem} {k j : Nat} {v : Int32} : (mI σ k j v).1 k = upd (σ.1 k) j v := va_up_self _ _ _
theorem mI_rowL {σ : Mem} {k j : Nat} {v : Int32} : (mI σ k j v).2 = σ.2 := rfl
theorem mL_row {σ : Mem} {k j : Nat} {v : Int64} : (mL σ k j v).2 k = vp_updL (σ.2 k) j v := va_up_self _ _ _
theorem mI_ne {σ : Mem} {k i : Nat} {v : Int32} : ∀ j, j ≠ k → (mI σ k i v).1 j = σ.1 j ∧ (mI σ k i v).2 j = σ.2 j := fun _ h => ⟨va_up_ne _ _ h, rfl⟩
theorem mL_ne {σ : Mem} {k i : Nat} {v : Int64} : ∀ j, j ≠ k → (mL σ k i v).1 j = σ.1 j ∧ (mL σ k i v).2 j = σ.2 j := fun _ h => ⟨rfl, va_up_ne _ _ h⟩
theorem wW_setI {n : Nat} {f : WF} {ad : Nat → Nat} {σ : Mem} {wr : va_W} {k j : Nat} {v : Int32} {e : va_E} (hk : k < n) (he : f k (upd (σ.1 k) j v) (σ.2 k) = e) : (wW n f ad σ ++ wr).set k (ad k, e) = wW n f ad (mI σ k j v) ++ wr :=
  wW_set hk (by rw [mI_row]; exact he) mI_ne
theorem wW_setL {n : Nat} {f : WF} {ad : Nat → Nat} {σ : Mem} {wr : va_W} {k j : Nat} {v : Int64} {e : va_E} (hk : k < n) (he : f k (σ.1 k) (vp_updL (σ.2 k) j v) = e) : (wW n f ad σ ++ wr).set k (ad k, e) = wW n f ad (mL σ k j v) ++ wr :=
  wW_set hk (by rw [mL_row]; exact he) mL_ne
theorem mI_at {σ : Mem} {k j a b : Nat} {v : Int32} : (mI σ k j v).1 a b = if a = k ∧ b = j then v else σ.1 a b := by
  unfold mI
  by_cases h : a = k
  · subst h
    rw [show (va_up σ.1 a (upd (σ.1 a) j v), σ.2).1 a = upd (σ.1 a) j v from va_up_self _ _ _]
    simp [upd]
  · rw [show (va_up σ.1 k (upd (σ.1 k) j v), σ.2).1 a = σ.1 a from va_up_ne _ _ h]
    simp [h]
theorem mL_at {σ : Mem} {k j a b : Nat} {v : Int64} : (mL σ k j v).2 a b = if a = k ∧ b = j then v else σ.2 a b := by
  unfold mL
  by_cases h : a = k
  · subst h
    rw [show (σ.1, va_up σ.2 a (vp_updL (σ.2 a) j v)).2 a = vp_updL (σ.2 a) j v from va_up_self _ _ _]
    simp [vp_updL]
  · rw [show (σ.1, va_up σ.2 k (vp_updL (σ.2 k) j v)).2 a = σ.2 a from va_up_ne _ _ h]
    simp [h]
theorem mI_at2 {σ : Mem} {k j : Nat} {v : Int32} : (mI σ k j v).2 = σ.2 := rfl
theorem mL_at1 {σ : Mem} {k j : Nat} {v : Int64} : (mL σ k j v).1 = σ.1 := rfl
/-- a side's world behind a call, and in a walk -/
abbrev wB (D : va_G) (cl : List vw_C) (tys : List (ClassId × FieldType)) (n : Nat) (f : WF) (ad : Nat → Nat) (wr : va_W) (A : Nat → Prop) (σ : Mem) (t : State) : Prop := va_P D cl (wW n f ad σ ++ wr) t.heap ∧ va_K D cl tys t ∧ va_D A (wW n f ad σ ++ wr)
abbrev wPc (D : va_G) (cl : List vw_C) (tys : List (ClassId × FieldType)) (n : Nat) (f : WF) (ad : Nat → Nat) (wr : va_W) (sz : Nat) (σ : Mem) (av : List Value) : Array Value → State → Prop := va_Pc av (fun U => U.heap.size = sz ∧ va_P D cl (wW n f ad σ ++ wr) U.heap ∧ va_K D cl tys U ∧ va_D (fun _ => True) (wW n f ad σ ++ wr) ∧ NX (va_A (wW n f ad σ ++ wr) sz) U U.heap)
abbrev wA (n : Nat) (f : WF) (ad : Nat → Nat) (wr : va_W) (sz : Nat) (σ : Mem) : Nat → Prop := va_A (wW n f ad σ ++ wr) sz
/-- what a walk of a method's body holds all the way -/
def wC (wsm : List Cond) (own : String) (cc : ByteArray) (nL : Nat) (ret : Option FieldType) (D : va_G) (cl : List vw_C) (tys : List (ClassId × FieldType)) (A : Nat → Prop) (p : Program) (s : State) (m : MethodId) (args : Array Value) (meth : Method) (c : Code) : Prop :=
  p.tables.exec = Jvm.exec ∧ c.code = cc ∧ meth.sig.returnType = ret ∧ meth.locks = false ∧ (∀ w ∈ wsm, w.before args s = true) ∧ s.vm.findClass own = some m.cls ∧ c.maxLocals = nL ∧ va_K D cl tys s ∧ NX A s s.heap ∧ ∀ q : Nat, s.heap.size ≤ q → A q
section BASE
variable {p : Program} {l : Launch} {e : Env} {R : Room} {s : State} {m : MethodId} {args : Array Value} {below : List Frame} {meth : Method} {c : Code} {H : Heap} {locs : List Loc} {cells slots : Nat} {Q : State → Prop}
variable {wsm : List Cond} {own : String} {cc : ByteArray} {nL : Nat} {ret : Option FieldType} {D : va_G} {cl : List vw_C} {tys : List (ClassId × FieldType)} {A : Nat → Prop} {n : Nat} {f : WF} {ad : Nat → Nat} {wr : va_W} {σ : Mem}
theorem r_iret {Qp : Int32 → Mem → Prop} {v : Int32} {pc : Nat} {ls : Array Slot} (C : wC wsm own cc nL (some .int) D cl tys A p s m args meth c) (hP : va_P D cl (wW n f ad σ ++ wr) H) (hD : va_D A (wW n f ad σ ++ wr)) (hS : va_S A s.heap H locs) (hdg : decode cc pc = .ok (.ireturn, 1)) (h : Qp v σ) :
    W p l e R s m args below meth c H locs cells slots (MQ below (va_Qi Qp (wB D cl tys n f ad wr A) A) args s cells slots A) (F0 m pc ls [.int v]) :=
  W.iret (v := v) C.1 C.2.1 C.2.2.1 (fun t ht hW => ⟨⟨v, σ, rfl, h, by rw [ht]; exact hP, va_K.moved hW.alike C.2.2.2.2.2.2.2.1, hD⟩, hS.F ht⟩) hS.2.2 hdg C.2.2.2.1
theorem r_zret {Qp : Int32 → Mem → Prop} {v : Int32} {pc : Nat} {ls : Array Slot} (C : wC wsm own cc nL (some .boolean) D cl tys A p s m args meth c) (hv : v = 0 ∨ v = 1) (hP : va_P D cl (wW n f ad σ ++ wr) H) (hD : va_D A (wW n f ad σ ++ wr)) (hS : va_S A s.heap H locs) (hdg : decode cc pc = .ok (.ireturn, 1)) (h : Qp v σ) :
    W p l e R s m args below meth c H locs cells slots (MQ below (va_Qi Qp (wB D cl tys n f ad wr A) A) args s cells slots A) (F0 m pc ls [.int v]) :=
  W.zret (v := v) (ty := .boolean) C.1 C.2.1 C.2.2.1 (by rcases hv with rfl | rfl <;> decide) (fun t ht hW => ⟨⟨v, σ, rfl, h, by rw [ht]; exact hP, va_K.moved hW.alike C.2.2.2.2.2.2.2.1, hD⟩, hS.F ht⟩) hS.2.2 hdg C.2.2.2.1
theorem r_vret {Qp : Mem → Prop} {pc : Nat} {ls : Array Slot} (C : wC wsm own cc nL none D cl tys A p s m args meth c) (hP : va_P D cl (wW n f ad σ ++ wr) H) (hD : va_D A (wW n f ad σ ++ wr)) (hS : va_S A s.heap H locs) (hdg : decode cc pc = .ok (.return_, 1)) (h : Qp σ) :
    W p l e R s m args below meth c H locs cells slots (MQ below (va_Qv Qp (wB D cl tys n f ad wr A) A) args s cells slots A) (F0 m pc ls []) :=
  W.vret C.1 C.2.1 C.2.2.1 (fun t ht hW => ⟨⟨σ, rfl, h, by rw [ht]; exact hP, va_K.moved hW.alike C.2.2.2.2.2.2.2.1, hD⟩, hS.F ht⟩) hS.2.2 hdg C.2.2.2.1
theorem r_lret {Qp : Int64 → Mem → Prop} {v : Int64} {pc : Nat} {ls : Array Slot} (C : wC wsm own cc nL (some .long) D cl tys A p s m args meth c) (hP : va_P D cl (wW n f ad σ ++ wr) H) (hD : va_D A (wW n f ad σ ++ wr)) (hS : va_S A s.heap H locs) (hdg : decode cc pc = .ok (.lreturn, 1)) (h : Qp v σ) :
    W p l e R s m args below meth c H locs cells slots (MQ below (va_Ql Qp (wB D cl tys n f ad wr A) A) args s cells slots A) (F0 m pc ls [.long v]) :=
  W.lret (v := v) C.1 C.2.1 C.2.2.1 (fun t ht hW => ⟨⟨v, σ, rfl, h, by rw [ht]; exact hP, va_K.moved hW.alike C.2.2.2.2.2.2.2.1, hD⟩, hS.F ht⟩) hS.2.2 hdg C.2.2.2.1
/-- what a call may change is the caller's too -/
theorem r_sub (C : wC wsm own cc nL ret D cl tys A p s m args meth c) (hD : va_D A (wW n f ad σ ++ wr)) (hS : va_S A s.heap H locs) : ∀ q, wA n f ad wr H.size σ q → A q := fun q h => by
  rcases h with ⟨k, e0, hk⟩ | h
  · exact hD.2 k _ hk
  · exact C.2.2.2.2.2.2.2.2.2 q (Nat.le_trans hS.1 h)
theorem r_blind {sz : Nat} {av : List Value} : FrameBlind (wPc D cl tys n f ad wr sz σ av) := fun a U g mk q => by
  obtain ⟨q0, q1, qP, qK, qD, qN⟩ := q
  exact ⟨q0, q1, qP, va_K.moved (u := U) (U := U.calling g mk a) (Vm.Alike.refl U.vm) qK, qD, NX.blind (U := U) (V := U.calling g mk a) (H := U.heap) rfl qN⟩
theorem r_preS (C : wC wsm own cc nL ret D cl tys A p s m args meth c) (hP : va_P D cl (wW n f ad σ ++ wr) H) (hD : va_D A (wW n f ad σ ++ wr)) (hS : va_S A s.heap H locs) {av : List Value} : PreS s H (wPc D cl tys n f ad wr H.size σ av) av :=
  ⟨r_blind, fun U hU hW => ⟨rfl, by rw [hU], by rw [hU]; exact hP, va_K.moved hW.alike C.2.2.2.2.2.2.2.1, hD.weaken (fun _ _ _ _ => trivial), by rw [hU]; exact C.2.2.2.2.2.2.2.2.1.to hW hS.2.1 (r_sub C hD hS)⟩⟩
theorem r_preV (C : wC wsm own cc nL ret D cl tys A p s m args meth c) (hP : va_P D cl (wW n f ad σ ++ wr) H) (hD : va_D A (wW n f ad σ ++ wr)) (hS : va_S A s.heap H locs) {o ci : Nat} {q : vw_C} {fs : List Value} (ho : o < n) (he : f o (σ.1 o) (σ.2 o) = .inr (ci, fs)) (hc : cl[ci]? = some q) {av : List Value} : PreV s H q.1 (ad o) (wPc D cl tys n f ad wr H.size σ (.ref (ad o) :: av)) av :=
  ⟨r_blind, va_recv C.2.2.2.2.2.2.2.1 hP hc (wW_at ho he), fun U hU hW => ⟨rfl, by rw [hU], by rw [hU]; exact hP, va_K.moved hW.alike C.2.2.2.2.2.2.2.1, hD.weaken (fun _ _ _ _ => trivial), by rw [hU]; exact C.2.2.2.2.2.2.2.2.1.to hW hS.2.1 (r_sub C hD hS)⟩⟩
theorem r_calli {Qp : Int32 → Mem → Prop} {pc : Nat} {ls : Array Slot} {rest st0 : List Value} {a : Array Value} {mc ms : Nat} (C : wC wsm own cc nL ret D cl tys A p s m args meth c) (hD : va_D A (wW n f ad σ ++ wr)) (hS : va_S A s.heap H locs)
    (hr : va_Run p l e R s m args below meth c H locs cells slots mc ms (F0 m pc ls st0) rest (va_Qi Qp (wB D cl tys n f ad wr (wA n f ad wr H.size σ)) (wA n f ad wr H.size σ) a) (wA n f ad wr H.size σ))
    (kk : ∀ (r : Int32) (σ1 : Mem) (H1 : Heap) (locs1 : List Loc), Qp r σ1 → va_P D cl (wW n f ad σ1 ++ wr) H1 → va_D A (wW n f ad σ1 ++ wr) → va_S A s.heap H1 locs1 → W p l e R s m args below meth c H1 locs1 (cells + mc) (slots + ms) Q (F0 m (pc + 3) ls (.int r :: rest))) : W p l e R s m args below meth c H locs cells slots Q (F0 m pc ls st0) :=
  va_calli hr hS (fun q _ h => r_sub C hD hS q h) (r_sub C hD hS) (fun r σ1 t H1 locs1 ht hvm hq hB hz hk hS1 => kk r σ1 H1 locs1 hq (by rw [← ht]; exact hB.1) (hB.2.2.weaken (fun _ _ _ h => r_sub C hD hS _ h)) hS1)
theorem r_calll {Qp : Int64 → Mem → Prop} {pc : Nat} {ls : Array Slot} {rest st0 : List Value} {a : Array Value} {mc ms : Nat} (C : wC wsm own cc nL ret D cl tys A p s m args meth c) (hD : va_D A (wW n f ad σ ++ wr)) (hS : va_S A s.heap H locs)
    (hr : va_Run p l e R s m args below meth c H locs cells slots mc ms (F0 m pc ls st0) rest (va_Ql Qp (wB D cl tys n f ad wr (wA n f ad wr H.size σ)) (wA n f ad wr H.size σ) a) (wA n f ad wr H.size σ))
    (kk : ∀ (r : Int64) (σ1 : Mem) (H1 : Heap) (locs1 : List Loc), Qp r σ1 → va_P D cl (wW n f ad σ1 ++ wr) H1 → va_D A (wW n f ad σ1 ++ wr) → va_S A s.heap H1 locs1 → W p l e R s m args below meth c H1 locs1 (cells + mc) (slots + ms) Q (F0 m (pc + 3) ls (.long r :: rest))) : W p l e R s m args below meth c H locs cells slots Q (F0 m pc ls st0) :=
  va_calll hr hS (fun q _ h => r_sub C hD hS q h) (r_sub C hD hS) (fun r σ1 t H1 locs1 ht hvm hq hB hz hk hS1 => kk r σ1 H1 locs1 hq (by rw [← ht]; exact hB.1) (hB.2.2.weaken (fun _ _ _ h => r_sub C hD hS _ h)) hS1)
theorem r_callv {Qp : Mem → Prop} {pc : Nat} {ls : Array Slot} {rest st0 : List Value} {a : Array Value} {mc ms : Nat} (C : wC wsm own cc nL ret D cl tys A p s m args meth c) (hD : va_D A (wW n f ad σ ++ wr)) (hS : va_S A s.heap H locs)
    (hr : va_Run p l e R s m args below meth c H locs cells slots mc ms (F0 m pc ls st0) rest (va_Qv Qp (wB D cl tys n f ad wr (wA n f ad wr H.size σ)) (wA n f ad wr H.size σ) a) (wA n f ad wr H.size σ))
    (kk : ∀ (σ1 : Mem) (H1 : Heap) (locs1 : List Loc), Qp σ1 → va_P D cl (wW n f ad σ1 ++ wr) H1 → va_D A (wW n f ad σ1 ++ wr) → va_S A s.heap H1 locs1 → W p l e R s m args below meth c H1 locs1 (cells + mc) (slots + ms) Q (F0 m (pc + 3) ls rest)) : W p l e R s m args below meth c H locs cells slots Q (F0 m pc ls st0) :=
  va_callv hr hS (fun q _ h => r_sub C hD hS q h) (r_sub C hD hS) (fun σ1 t H1 locs1 ht hvm hq hB hz hk hS1 => kk σ1 H1 locs1 hq (by rw [← ht]; exact hB.1) (hB.2.2.weaken (fun _ _ _ h => r_sub C hD hS _ h)) hS1)
variable {pc : Nat} {ls : Array Slot} {rest : List Value}
theorem r_get {C' : String} {T : u_T} {N ci index : Nat} (C : wC wsm own cc nL ret D cl tys A p s m args meth c) (hin : ∀ w ∈ u_ws C' T N, w ∈ wsm) (hP : va_P D cl (wW n f ad σ ++ wr) H) {o : Nat} (ho : o < n) {fs : List Value} (he : f o (σ.1 o) (σ.2 o) = .inr (ci, fs)) (hc : cl[ci]? = some (C', T, N)) (k : Nat) (hk : k < N) (hlink : Cond.fieldLink own index (T k).1 (T k).2.1 (T k).2.2.1 ∈ wsm) {v : Value} (hv : fs[k]? = some v) (hdg : decode cc pc = .ok (.getfield index, 3))
    (kk : W p l e R s m args below meth c H locs cells slots Q (F0 m (pc + 3) ls (v :: rest))) : W p l e R s m args below meth c H locs cells slots Q (F0 m pc ls (.ref (ad o) :: rest)) :=
  va_get C.1 C.2.1 C.2.2.2.2.1 hin C.2.2.2.2.2.1 C.2.2.2.2.2.2.2.1 hP o (wW_at ho he) hc k hk (C.2.2.2.2.1 _ hlink) (fun _ h => h) hv hdg kk
theorem r_putI {C' : String} {T : u_T} {N ci index : Nat} (C : wC wsm own cc nL ret D cl tys A p s m args meth c) (hin : ∀ w ∈ u_ws C' T N, w ∈ wsm) (ty0 : Nat → FieldType) (hty : ∀ k, k < N → parseFieldDescriptor (T k).2.2.1 = some (ty0 k)) (hnm : ∀ a, a < N → ∀ b, b < N → a ≠ b → (T a).2.1 ≠ (T b).2.1) (hP : va_P D cl (wW n f ad σ ++ wr) H) (hD : va_D A (wW n f ad σ ++ wr)) (hS : va_S A s.heap H locs) {o : Nat} (ho : o < n) {fs : List Value} (he : f o (σ.1 o) (σ.2 o) = .inr (ci, fs)) (hc : cl[ci]? = some (C', T, N)) (k : Nat) (hk : k < N) (hlink : Cond.fieldLink own index (T k).1 (T k).2.1 (T k).2.2.1 ∈ wsm) (hfin : (T k).2.2.2 = false) {ty : FieldType} {x : Int32} (hd : parseFieldDescriptor (T k).2.2.1 = some ty) (hn : narrow ty (.int x) = .int x) (hfit : fits ty (.int x) = true) (hl : k < fs.length) (hdg : decode cc pc = .ok (.putfield index, 3)) (he' : f o (upd (σ.1 o) k x) (σ.2 o) = .inr (ci, fs.set k (.int x)))
    (kk : ∀ σ1 : Mem, σ1 = mI σ o k x → ∀ (H1 : Heap) (locs1 : List Loc), va_P D cl (wW n f ad σ1 ++ wr) H1 → va_D A (wW n f ad σ1 ++ wr) → va_S A s.heap H1 locs1 → W p l e R s m args below meth c H1 locs1 cells slots Q (F0 m (pc + 3) ls rest)) : W p l e R s m args below meth c H locs cells slots Q (F0 m pc ls (.int x :: .ref (ad o) :: rest)) :=
  va_put C.1 C.2.1 C.2.2.2.2.1 hin ty0 hty hnm C.2.2.2.2.2.1 C.2.2.2.2.2.2.2.1 hP hD hS o (wW_at ho he) hc k hk (C.2.2.2.2.1 _ hlink) (fun _ h => h) hfin hd hn hfit hl hdg (fun H1 l1 hP1 hD1 hS1 => kk _ rfl H1 l1 (by rw [← wW_setI ho he']; exact hP1) (by rw [← wW_setI ho he']; exact hD1) hS1)
theorem r_putL {C' : String} {T : u_T} {N ci index : Nat} (C : wC wsm own cc nL ret D cl tys A p s m args meth c) (hin : ∀ w ∈ u_ws C' T N, w ∈ wsm) (ty0 : Nat → FieldType) (hty : ∀ k, k < N → parseFieldDescriptor (T k).2.2.1 = some (ty0 k)) (hnm : ∀ a, a < N → ∀ b, b < N → a ≠ b → (T a).2.1 ≠ (T b).2.1) (hP : va_P D cl (wW n f ad σ ++ wr) H) (hD : va_D A (wW n f ad σ ++ wr)) (hS : va_S A s.heap H locs) {o : Nat} (ho : o < n) {fs : List Value} (he : f o (σ.1 o) (σ.2 o) = .inr (ci, fs)) (hc : cl[ci]? = some (C', T, N)) (k : Nat) (hk : k < N) (hlink : Cond.fieldLink own index (T k).1 (T k).2.1 (T k).2.2.1 ∈ wsm) (hfin : (T k).2.2.2 = false) {x : Int64} (hd : parseFieldDescriptor (T k).2.2.1 = some .long) (hl : k < fs.length) (hdg : decode cc pc = .ok (.putfield index, 3)) (he' : f o (σ.1 o) (vp_updL (σ.2 o) k x) = .inr (ci, fs.set k (.long x)))
    (kk : ∀ σ1 : Mem, σ1 = mL σ o k x → ∀ (H1 : Heap) (locs1 : List Loc), va_P D cl (wW n f ad σ1 ++ wr) H1 → va_D A (wW n f ad σ1 ++ wr) → va_S A s.heap H1 locs1 → W p l e R s m args below meth c H1 locs1 cells slots Q (F0 m (pc + 3) ls rest)) : W p l e R s m args below meth c H locs cells slots Q (F0 m pc ls (.long x :: .ref (ad o) :: rest)) :=
  va_put C.1 C.2.1 C.2.2.2.2.1 hin ty0 hty hnm C.2.2.2.2.2.1 C.2.2.2.2.2.2.2.1 hP hD hS o (wW_at ho he) hc k hk (C.2.2.2.2.1 _ hlink) (fun _ h => h) hfin hd rfl rfl hl hdg (fun H1 l1 hP1 hD1 hS1 => kk _ rfl H1 l1 (by rw [← wW_setL ho he']; exact hP1) (by rw [← wW_setL ho he']; exact hD1) hS1)
theorem r_iald (C : wC wsm own cc nL ret D cl tys A p s m args meth c) (hP : va_P D cl (wW n f ad σ ++ wr) H) {o : Nat} (ho : o < n) {cA : ClassId} {k : Nat} (he : f o (σ.1 o) (σ.2 o) = .inl (cA, k, .inl (σ.1 o))) (ht : tys[0]? = some (cA, .int)) {i : Int32} (hin : vp_in i k) (hdg : decode cc pc = .ok (.iaload, 1))
    (kk : W p l e R s m args below meth c H locs cells slots Q (F0 m (pc + 1) ls (.int (σ.1 o i.toNatClampNeg) :: rest))) : W p l e R s m args below meth c H locs cells slots Q (F0 m pc ls (.int i :: .ref (ad o) :: rest)) :=
  va_iald C.1 C.2.1 C.2.2.2.2.2.2.2.1 hP o 0 (wW_at ho he) ht hin hdg kk
theorem r_zald (C : wC wsm own cc nL ret D cl tys A p s m args meth c) (hP : va_P D cl (wW n f ad σ ++ wr) H) {o : Nat} (ho : o < n) {cA : ClassId} {k : Nat} (he : f o (σ.1 o) (σ.2 o) = .inl (cA, k, .inl (σ.1 o))) (ht : tys[2]? = some (cA, .boolean)) {i : Int32} (hin : vp_in i k) (hdg : decode cc pc = .ok (.baload, 1))
    (kk : W p l e R s m args below meth c H locs cells slots Q (F0 m (pc + 1) ls (.int (σ.1 o i.toNatClampNeg) :: rest))) : W p l e R s m args below meth c H locs cells slots Q (F0 m pc ls (.int i :: .ref (ad o) :: rest)) :=
  va_zald C.1 C.2.1 C.2.2.2.2.2.2.2.1 hP o 2 (wW_at ho he) ht hin hdg kk
theorem r_lald (C : wC wsm own cc nL ret D cl tys A p s m args meth c) (hP : va_P D cl (wW n f ad σ ++ wr) H) {o : Nat} (ho : o < n) {cA : ClassId} {k : Nat} (he : f o (σ.1 o) (σ.2 o) = .inl (cA, k, .inr (.inl (σ.2 o)))) (ht : tys[1]? = some (cA, .long)) {i : Int32} (hin : vp_in i k) (hdg : decode cc pc = .ok (.laload, 1))
    (kk : W p l e R s m args below meth c H locs cells slots Q (F0 m (pc + 1) ls (.long (σ.2 o i.toNatClampNeg) :: rest))) : W p l e R s m args below meth c H locs cells slots Q (F0 m pc ls (.int i :: .ref (ad o) :: rest)) :=
  va_lald C.1 C.2.1 C.2.2.2.2.2.2.2.1 hP o 1 (wW_at ho he) ht hin hdg kk
theorem r_aald (C : wC wsm own cc nL ret D cl tys A p s m args meth c) (hP : va_P D cl (wW n f ad σ ++ wr) H) {o : Nat} (ho : o < n) {cA : ClassId} {k : Nat} {C' : String} {g : Nat → Nat} (he : f o (σ.1 o) (σ.2 o) = .inl (cA, k, .inr (.inr (.inr (.inr (fun i => some (g i))))))) (ht : tys[3]? = some (cA, .object C')) {i : Int32} (hin : vp_in i k) (hdg : decode cc pc = .ok (.aaload, 1))
    (kk : W p l e R s m args below meth c H locs cells slots Q (F0 m (pc + 1) ls (.ref (g i.toNatClampNeg) :: rest))) : W p l e R s m args below meth c H locs cells slots Q (F0 m pc ls (.int i :: .ref (ad o) :: rest)) :=
  va_aldq C.1 C.2.1 C.2.2.2.2.2.2.2.1 hP o 3 (wW_at ho he) ht hin hdg kk
theorem r_iast (C : wC wsm own cc nL ret D cl tys A p s m args meth c) (hP : va_P D cl (wW n f ad σ ++ wr) H) (hD : va_D A (wW n f ad σ ++ wr)) (hS : va_S A s.heap H locs) {o : Nat} (ho : o < n) {cA : ClassId} {k : Nat} (he : ∀ r q, f o r q = .inl (cA, k, .inl r)) (ht : tys[0]? = some (cA, .int)) {i x : Int32} (hin : vp_in i k) (hdg : decode cc pc = .ok (.iastore, 1))
    (kk : ∀ σ1 : Mem, σ1 = mI σ o i.toNatClampNeg x → ∀ (H1 : Heap) (locs1 : List Loc), va_P D cl (wW n f ad σ1 ++ wr) H1 → va_D A (wW n f ad σ1 ++ wr) → va_S A s.heap H1 locs1 → W p l e R s m args below meth c H1 locs1 cells slots Q (F0 m (pc + 1) ls rest)) : W p l e R s m args below meth c H locs cells slots Q (F0 m pc ls (.int x :: .int i :: .ref (ad o) :: rest)) :=
  va_iast C.1 C.2.1 C.2.2.2.2.2.2.2.1 hP hD hS o 0 (wW_at ho (he _ _)) ht hin hdg (fun H1 l1 hP1 hD1 hS1 => kk _ rfl H1 l1 (by rw [← wW_setI ho (he _ _)]; exact hP1) (by rw [← wW_setI ho (he _ _)]; exact hD1) hS1)
theorem r_zast (C : wC wsm own cc nL ret D cl tys A p s m args meth c) (hP : va_P D cl (wW n f ad σ ++ wr) H) (hD : va_D A (wW n f ad σ ++ wr)) (hS : va_S A s.heap H locs) {o : Nat} (ho : o < n) {cA : ClassId} {k : Nat} (he : ∀ r q, f o r q = .inl (cA, k, .inl r)) (ht : tys[2]? = some (cA, .boolean)) {i x : Int32} (hin : vp_in i k) (hdg : decode cc pc = .ok (.bastore, 1))
    (kk : ∀ σ1 : Mem, σ1 = mI σ o i.toNatClampNeg (vp_nar .boolean x) → ∀ (H1 : Heap) (locs1 : List Loc), va_P D cl (wW n f ad σ1 ++ wr) H1 → va_D A (wW n f ad σ1 ++ wr) → va_S A s.heap H1 locs1 → W p l e R s m args below meth c H1 locs1 cells slots Q (F0 m (pc + 1) ls rest)) : W p l e R s m args below meth c H locs cells slots Q (F0 m pc ls (.int x :: .int i :: .ref (ad o) :: rest)) :=
  va_zast C.1 C.2.1 C.2.2.2.2.2.2.2.1 hP hD hS o 2 (wW_at ho (he _ _)) ht hin hdg (fun H1 l1 hP1 hD1 hS1 => kk _ rfl H1 l1 (by rw [← wW_setI ho (he _ _)]; exact hP1) (by rw [← wW_setI ho (he _ _)]; exact hD1) hS1)
theorem r_last (C : wC wsm own cc nL ret D cl tys A p s m args meth c) (hP : va_P D cl (wW n f ad σ ++ wr) H) (hD : va_D A (wW n f ad σ ++ wr)) (hS : va_S A s.heap H locs) {o : Nat} (ho : o < n) {cA : ClassId} {k : Nat} (he : ∀ r q, f o r q = .inl (cA, k, .inr (.inl q))) (ht : tys[1]? = some (cA, .long)) {i : Int32} {x : Int64} (hin : vp_in i k) (hdg : decode cc pc = .ok (.lastore, 1))
    (kk : ∀ σ1 : Mem, σ1 = mL σ o i.toNatClampNeg x → ∀ (H1 : Heap) (locs1 : List Loc), va_P D cl (wW n f ad σ1 ++ wr) H1 → va_D A (wW n f ad σ1 ++ wr) → va_S A s.heap H1 locs1 → W p l e R s m args below meth c H1 locs1 cells slots Q (F0 m (pc + 1) ls rest)) : W p l e R s m args below meth c H locs cells slots Q (F0 m pc ls (.long x :: .int i :: .ref (ad o) :: rest)) :=
  va_last C.1 C.2.1 C.2.2.2.2.2.2.2.1 hP hD hS o 1 (wW_at ho (he _ _)) ht hin hdg (fun H1 l1 hP1 hD1 hS1 => kk _ rfl H1 l1 (by rw [← wW_setL ho (he _ _)]; exact hP1) (by rw [← wW_setL ho (he _ _)]; exact hD1) hS1)
theorem r_alen (C : wC wsm own cc nL ret D cl tys A p s m args meth c) (hP : va_P D cl (wW n f ad σ ++ wr) H) {o : Nat} (ho : o < n) {cA : ClassId} {x : vp_A} (he : f o (σ.1 o) (σ.2 o) = .inl (cA, x)) (t0 : Nat) {ty : FieldType} (ht : tys[t0]? = some (cA, ty)) (hdg : decode cc pc = .ok (.arraylength, 1))
    (kk : W p l e R s m args below meth c H locs cells slots Q (F0 m (pc + 1) ls (.int (Int32.ofNat x.1) :: rest))) : W p l e R s m args below meth c H locs cells slots Q (F0 m pc ls (.ref (ad o) :: rest)) :=
  va_alen C.1 C.2.1 C.2.2.2.2.2.2.2.1 hP o t0 (wW_at ho he) ht rfl hdg kk
def mC (σ : Mem) (a b sp dp k : Nat) : Mem := (σ.1, va_up σ.2 b (va_cpy (σ.2 a) (σ.2 b) sp dp k))
theorem r_copy {index : Nat} (C : wC wsm own cc nL ret D cl tys A p s m args meth c) (hlink : Cond.methodLink own index arraycopyName ∈ wsm) (hnat : Cond.native arraycopyName ∈ wsm) (hstat : Cond.static arraycopyName ∈ wsm) (hini : Cond.initialized "java/lang/System" ∈ wsm) (hsz : ls.size = nL) (hP : va_P D cl (wW n f ad σ ++ wr) H) (hD : va_D A (wW n f ad σ ++ wr)) (hS : va_S A s.heap H locs) {o b : Nat} (ho : o < n) (hb : b < n) {cA : ClassId} {k0 k1 : Nat} (he : ∀ r q, f o r q = .inl (cA, k0, .inr (.inl q))) (he' : ∀ r q, f b r q = .inl (cA, k1, .inr (.inl q))) (ht : tys[1]? = some (cA, .long)) {sp dp k : Int32} (h1 : ¬ sp < 0) (h2 : ¬ dp < 0) (h3 : ¬ k < 0) (h4 : sp.toNatClampNeg + k.toNatClampNeg ≤ k0) (h5 : dp.toNatClampNeg + k.toNatClampNeg ≤ k1)
    (hframes : 1 ≤ R.frames) (hlocals : (rest.map fun v => v.category).sum + (nativeFrameWords "java/lang/System" "arraycopy" 5 + 11) ≤ R.locals) (hdg : decode cc pc = .ok (.invokestatic index, 3))
    (kk : ∀ σ1 : Mem, σ1 = mC σ o b sp.toNatClampNeg dp.toNatClampNeg k.toNatClampNeg → ∀ (H1 : Heap) (locs1 : List Loc), va_P D cl (wW n f ad σ1 ++ wr) H1 → va_D A (wW n f ad σ1 ++ wr) → va_S A s.heap H1 locs1 → W p l e R s m args below meth c H1 locs1 cells slots Q (F0 m (pc + 3) ls rest)) : W p l e R s m args below meth c H locs cells slots Q (F0 m pc ls (.int k :: .int dp :: .ref (ad b) :: .int sp :: .ref (ad o) :: rest)) := by
  have hs : (wW n f ad σ ++ wr).set b (ad b, .inl (cA, k1, .inr (.inl (va_cpy (σ.2 o) (σ.2 b) sp.toNatClampNeg dp.toNatClampNeg k.toNatClampNeg)))) = wW n f ad (mC σ o b sp.toNatClampNeg dp.toNatClampNeg k.toNatClampNeg) ++ wr := wW_set hb (by rw [he']; unfold mC; rw [show (σ.1, va_up σ.2 b (va_cpy (σ.2 o) (σ.2 b) sp.toNatClampNeg dp.toNatClampNeg k.toNatClampNeg)).2 b = _ from va_up_self _ _ _]) (fun j hj => ⟨rfl, va_up_ne _ _ hj⟩)
  exact va_copyl C.1 C.2.1 (C.2.2.2.2.2.2.1.trans hsz.symm) C.2.2.2.2.2.1 (C.2.2.2.2.1 _ hlink) (C.2.2.2.2.1 _ hnat) (C.2.2.2.2.1 _ hstat) (C.2.2.2.2.1 _ hini) C.2.2.2.2.2.2.2.1 hP hD hS o b 1 1 (wW_at ho (he _ _)) (wW_at hb (he' _ _)) ht ht rfl h1 h2 h3 h4 h5 (fun _ _ => rfl) hframes hlocals hdg (fun H1 l1 hP1 hD1 hS1 => kk _ rfl H1 l1 (by rw [← hs]; exact hP1) (by rw [← hs]; exact hD1) hS1)
end BASE
/-- the words of a call, out of TB -/
theorem g_tb {c0 : Cond} {ws : List Cond} (h : ∀ w ∈ ws, w ∈ TB) : GoodIn TB (c0 :: ws) ↔ c0 ∈ TB := ⟨fun g => (g c0 List.mem_cons_self).1, fun hc w hw => by
  rcases List.mem_cons.mp hw with rfl | hw
  · exact ⟨hc, good_of_word (TB_good hc)⟩
  · exact ⟨h w hw, good_of_word (TB_good (h w hw))⟩⟩
theorem g_all {ws : List Cond} (h : ∀ w ∈ ws, w ∈ TB) : GoodIn TB ws := fun w hw => ⟨h w hw, good_of_word (TB_good (h w hw))⟩
theorem g_V {own C : String} {idx : Nat} {y : MethodName} {b : ByteArray} {k : Nat} {r : Option FieldType} (h1 : Cond.methodLink own idx y ∈ TB) (h2 : Cond.instanceMethod y ∈ TB) (h3 : Cond.selects C y y ∈ TB) (h4 : Cond.initialized C ∈ TB) (h5 : Cond.code y b k r ∈ TB) : GoodIn TB (wsV own idx C y (Cond.code y b k r :: TB)) := g_all fun w hw => by
  unfold wsV at hw
  simp only [List.mem_append, List.mem_cons, List.not_mem_nil, or_false] at hw
  rcases hw with (rfl | rfl | rfl | rfl) | rfl | hw
  · exact h1
  · exact h2
  · exact h3
  · exact h4
  · exact h5
  · exact hw
theorem g_S {own : String} {idx : Nat} {y : MethodName} {b : ByteArray} {k : Nat} {r : Option FieldType} (h1 : Cond.methodLink own idx y ∈ TB) (h2 : Cond.static y ∈ TB) (h4 : Cond.initialized y.cls ∈ TB) (h5 : Cond.code y b k r ∈ TB) : GoodIn TB (va_wsS own idx y (Cond.code y b k r :: TB)) := g_all fun w hw => by
  unfold va_wsS at hw
  simp only [List.mem_append, List.mem_cons, List.not_mem_nil, or_false] at hw
  rcases hw with (rfl | rfl | rfl) | rfl | hw
  · exact h1
  · exact h2
  · exact h4
  · exact h5
  · exact hw
theorem g_C {y : MethodName} {b : ByteArray} {k : Nat} {r : Option FieldType} (h5 : Cond.code y b k r ∈ TB) : GoodIn TB (Cond.code y b k r :: TB) := g_all fun w hw => by
  rcases List.mem_cons.mp hw with rfl | hw
  · exact h5
  · exact hw
