/-! the law's helpers -/
abbrev oc (cL : ClassId) (ao : Nat) (ou : Nat → Int64) : Nat × va_E := (ao, .inl (cL, 1, .inr (.inl ou)))
theorem wW_oc {n : Nat} {f : WF} {ad : Nat → Nat} {σ : Mem} {wr : va_W} {q : Nat × va_E} : (wW n f ad σ ++ q :: wr)[n]? = some q := by
  rw [List.getElem?_append_right (by simp [wW])]
  simp [wW]
theorem wW_ocs {n : Nat} {f : WF} {ad : Nat → Nat} {σ : Mem} {wr : va_W} {q q' : Nat × va_E} : (wW n f ad σ ++ q :: wr).set n q' = wW n f ad σ ++ q' :: wr := by
  rw [List.set_append_right _ _ (by simp [wW])]
  simp [wW]
theorem vp_in01 : vp_in 0 1 := by unfold vp_in; decide
theorem xca_IA : Cond.castable xIA xIA ∈ XW := by decide +kernel
theorem xca_IS : Cond.castable xIS xIS ∈ XW := by decide +kernel
theorem xca_IB : Cond.castable xIB xIB ∈ XW := by decide +kernel
section HELP
variable {p : Program} {l : Launch} {e : Env} {R : Room} {s : State} {m : MethodId} {args : Array Value} {below : List Frame} {meth : Method} {c : Code} {H : Heap} {locs : List Loc} {cells slots : Nat} {Q : State → Prop}
variable {own : String} {cc : ByteArray} {nL : Nat} {ret : Option FieldType} {D : va_G} {cl : List vw_C} {tys : List (ClassId × FieldType)} {A : Nat → Prop} {n : Nat} {f : WF} {ad : Nat → Nat} {wr : va_W} {σ : Mem}
variable {E : String → Mem → Prop} {mc ms : Nat} {pc : Nat} {ls : Array Slot} {rest : List Value}
theorem h_calli {Qp : Int32 → Mem → Prop} {st0 : List Value} {a : Array Value} (C : wC TB own cc nL ret D cl tys A p s m args meth c) (hD : va_D A (wW n f ad σ ++ wr)) (hS : va_S A s.heap H locs)
    (hr : vx_Run p l e R s m args below meth c H locs cells slots mc ms (F0 m pc ls st0) rest (va_Qi Qp (wB D cl tys n f ad wr (wA n f ad wr H.size σ)) (wA n f ad wr H.size σ) a) (wX D cl tys n f ad wr (wA n f ad wr H.size σ) E) (wA n f ad wr H.size σ))
    (kx : ∀ (X : String) (ce : Cell) (q9 : Addr) (σ1 : Mem) (H1 : Heap) (locs1 : List Loc), E X σ1 → va_P D cl (wW n f ad σ1 ++ wr) H1 → va_D A (wW n f ad σ1 ++ wr) → va_S A s.heap H1 locs1 → H1[q9]? = some ce → ce.vm = .none → s.vm.findClass X = some ce.cls → vx_W p l e R s m args below meth c H1 locs1 (cells + mc) (slots + ms) Q (F0 m pc ls rest) q9)
    (kk : ∀ (r : Int32) (σ1 : Mem) (H1 : Heap) (locs1 : List Loc), Qp r σ1 → va_P D cl (wW n f ad σ1 ++ wr) H1 → va_D A (wW n f ad σ1 ++ wr) → va_S A s.heap H1 locs1 → W p l e R s m args below meth c H1 locs1 (cells + mc) (slots + ms) Q (F0 m (pc + 3) ls (.int r :: rest))) : W p l e R s m args below meth c H locs cells slots Q (F0 m pc ls st0) :=
  vx_calli hr hS (fun q _ h => r_sub C hD hS q h) (r_sub C hD hS) (fun q _ h => r_sub C hD hS q h) (fun X ce q9 u t H1 locs1 ht hvm _ hB hz hk hS1 hce hcv hcl => kx X ce q9 u H1 locs1 hB.1 (by rw [← ht]; exact hB.2.1) (hB.2.2.2.weaken (fun _ _ _ h => r_sub C hD hS _ h)) hS1 hce hcv hcl) (fun r σ1 t H1 locs1 ht hvm hq hB hz hk hS1 => kk r σ1 H1 locs1 hq (by rw [← ht]; exact hB.1) (hB.2.2.weaken (fun _ _ _ h => r_sub C hD hS _ h)) hS1)
theorem h_calll {Qp : Int64 → Mem → Prop} {st0 : List Value} {a : Array Value} (C : wC TB own cc nL ret D cl tys A p s m args meth c) (hD : va_D A (wW n f ad σ ++ wr)) (hS : va_S A s.heap H locs)
    (hr : vx_Run p l e R s m args below meth c H locs cells slots mc ms (F0 m pc ls st0) rest (va_Ql Qp (wB D cl tys n f ad wr (wA n f ad wr H.size σ)) (wA n f ad wr H.size σ) a) (wX D cl tys n f ad wr (wA n f ad wr H.size σ) E) (wA n f ad wr H.size σ))
    (kx : ∀ (X : String) (ce : Cell) (q9 : Addr) (σ1 : Mem) (H1 : Heap) (locs1 : List Loc), E X σ1 → va_P D cl (wW n f ad σ1 ++ wr) H1 → va_D A (wW n f ad σ1 ++ wr) → va_S A s.heap H1 locs1 → H1[q9]? = some ce → ce.vm = .none → s.vm.findClass X = some ce.cls → vx_W p l e R s m args below meth c H1 locs1 (cells + mc) (slots + ms) Q (F0 m pc ls rest) q9)
    (kk : ∀ (r : Int64) (σ1 : Mem) (H1 : Heap) (locs1 : List Loc), Qp r σ1 → va_P D cl (wW n f ad σ1 ++ wr) H1 → va_D A (wW n f ad σ1 ++ wr) → va_S A s.heap H1 locs1 → W p l e R s m args below meth c H1 locs1 (cells + mc) (slots + ms) Q (F0 m (pc + 3) ls (.long r :: rest))) : W p l e R s m args below meth c H locs cells slots Q (F0 m pc ls st0) :=
  vx_calll hr hS (fun q _ h => r_sub C hD hS q h) (r_sub C hD hS) (fun q _ h => r_sub C hD hS q h) (fun X ce q9 u t H1 locs1 ht hvm _ hB hz hk hS1 hce hcv hcl => kx X ce q9 u H1 locs1 hB.1 (by rw [← ht]; exact hB.2.1) (hB.2.2.2.weaken (fun _ _ _ h => r_sub C hD hS _ h)) hS1 hce hcv hcl) (fun r σ1 t H1 locs1 ht hvm hq hB hz hk hS1 => kk r σ1 H1 locs1 hq (by rw [← ht]; exact hB.1) (hB.2.2.weaken (fun _ _ _ h => r_sub C hD hS _ h)) hS1)
theorem h_callv {Qp : Mem → Prop} {st0 : List Value} {a : Array Value} (C : wC TB own cc nL ret D cl tys A p s m args meth c) (hD : va_D A (wW n f ad σ ++ wr)) (hS : va_S A s.heap H locs)
    (hr : vx_Run p l e R s m args below meth c H locs cells slots mc ms (F0 m pc ls st0) rest (va_Qv Qp (wB D cl tys n f ad wr (wA n f ad wr H.size σ)) (wA n f ad wr H.size σ) a) (wX D cl tys n f ad wr (wA n f ad wr H.size σ) E) (wA n f ad wr H.size σ))
    (kx : ∀ (X : String) (ce : Cell) (q9 : Addr) (σ1 : Mem) (H1 : Heap) (locs1 : List Loc), E X σ1 → va_P D cl (wW n f ad σ1 ++ wr) H1 → va_D A (wW n f ad σ1 ++ wr) → va_S A s.heap H1 locs1 → H1[q9]? = some ce → ce.vm = .none → s.vm.findClass X = some ce.cls → vx_W p l e R s m args below meth c H1 locs1 (cells + mc) (slots + ms) Q (F0 m pc ls rest) q9)
    (kk : ∀ (σ1 : Mem) (H1 : Heap) (locs1 : List Loc), Qp σ1 → va_P D cl (wW n f ad σ1 ++ wr) H1 → va_D A (wW n f ad σ1 ++ wr) → va_S A s.heap H1 locs1 → W p l e R s m args below meth c H1 locs1 (cells + mc) (slots + ms) Q (F0 m (pc + 3) ls rest)) : W p l e R s m args below meth c H locs cells slots Q (F0 m pc ls st0) :=
  vx_callv hr hS (fun q _ h => r_sub C hD hS q h) (r_sub C hD hS) (fun q _ h => r_sub C hD hS q h) (fun X ce q9 u t H1 locs1 ht hvm _ hB hz hk hS1 hce hcv hcl => kx X ce q9 u H1 locs1 hB.1 (by rw [← ht]; exact hB.2.1) (hB.2.2.2.weaken (fun _ _ _ h => r_sub C hD hS _ h)) hS1 hce hcv hcl) (fun σ1 t H1 locs1 ht hvm hq hB hz hk hS1 => kk σ1 H1 locs1 hq (by rw [← ht]; exact hB.1) (hB.2.2.weaken (fun _ _ _ h => r_sub C hD hS _ h)) hS1)
abbrev oB (D : va_G) (cl : List vw_C) (tys : List (ClassId × FieldType)) (n : Nat) (f : WF) (ad : Nat → Nat) (cL : ClassId) (ao : Nat) (wr : va_W) (A : Nat → Prop) (u : Mem × (Nat → Int64)) (t : State) : Prop := wB D cl tys n f ad (oc cL ao u.2 :: wr) A u.1 t
theorem o_iret {Qp : Int32 → Mem → (Nat → Int64) → Prop} {v : Int32} {cL : ClassId} {ao : Nat} {ou : Nat → Int64} (C : wC TB own cc nL (some .int) D cl tys A p s m args meth c) (hP : va_P D cl (wW n f ad σ ++ oc cL ao ou :: wr) H) (hD : va_D A (wW n f ad σ ++ oc cL ao ou :: wr)) (hS : va_S A s.heap H locs) (hdg : decode cc pc = .ok (.ireturn, 1)) (h : Qp v σ ou) :
    W p l e R s m args below meth c H locs cells slots (MQ below (va_Qi (fun (r : Int32) (u : Mem × (Nat → Int64)) => Qp r u.1 u.2) (oB D cl tys n f ad cL ao wr A) A) args s cells slots A) (F0 m pc ls [.int v]) :=
  W.iret (v := v) C.1 C.2.1 C.2.2.1 (fun t ht hW => ⟨⟨v, (σ, ou), rfl, h, by rw [ht]; exact hP, va_K.moved hW.alike C.2.2.2.2.2.2.2.1, hD⟩, hS.F ht⟩) hS.2.2 hdg C.2.2.2.1
theorem o_last {cL : ClassId} {ao : Nat} {ou : Nat → Int64} {x : Int64} (C : wC TB own cc nL ret D cl tys A p s m args meth c) (hP : va_P D cl (wW n f ad σ ++ oc cL ao ou :: wr) H) (hD : va_D A (wW n f ad σ ++ oc cL ao ou :: wr)) (hS : va_S A s.heap H locs) (ht : tys[1]? = some (cL, .long)) (hdg : decode cc pc = .ok (.lastore, 1))
    (kk : ∀ (H1 : Heap) (locs1 : List Loc), va_P D cl (wW n f ad σ ++ oc cL ao (vp_updL ou 0 x) :: wr) H1 → va_D A (wW n f ad σ ++ oc cL ao (vp_updL ou 0 x) :: wr) → va_S A s.heap H1 locs1 → W p l e R s m args below meth c H1 locs1 cells slots Q (F0 m (pc + 1) ls rest)) : W p l e R s m args below meth c H locs cells slots Q (F0 m pc ls (.long x :: .int 0 :: .ref ao :: rest)) :=
  va_last C.1 C.2.1 C.2.2.2.2.2.2.2.1 hP hD hS n 1 wW_oc ht vp_in01 hdg (fun H1 l1 hP1 hD1 hS1 => kk H1 l1 (by rw [← wW_ocs (q := oc cL ao ou)]; exact hP1) (by rw [← wW_ocs (q := oc cL ao ou)]; exact hD1) hS1)
end HELP
def wp_L_begin (Q : Int32 → Mem → Prop) (x1 : Int32) (x2 : Int32) (σ : Mem) : Prop := wp_C_begin (fun σ1 => Q 0 σ1) (fun X σ1 => X = xIA ∧ Q 1 σ1) x1 x2 σ
def rm_L_begin : Room := { frames := 7, cells := 1, slots := 6, locals := 114 }
set_option maxHeartbeats 4000000 in
set_option maxRecDepth 100000 in
theorem m_L_begin {l : Launch} {D : va_G} {cI cL cZ cS : ClassId} {ad : Nat → Nat} {wr : va_W} {sz : Nat} {Q : Int32 → Mem → Prop} {x1 : Int32} {x2 : Int32} {σ : Mem} (hlS : l.stackTraces = false) (h : wp_L_begin Q x1 x2 σ) : Met l y_L_begin (Cond.codeWith y_L_begin c_L_begin 4 (some .int) [(0, 6, 9, 13)] :: TB) rm_L_begin (wPc D cls (tyl cI cL cZ cS) 77 (fX cI cL cS ad) ad wr sz σ [.ref (ad 0), .int x1, .int x2]) (va_Qi Q (wB D cls (tyl cI cL cZ cS) 77 (fX cI cL cS ad) ad wr (wA 77 (fX cI cL cS ad) ad wr sz σ)) (wA 77 (fX cI cL cS ad) ad wr sz σ)) 1 6 (wA 77 (fX cI cL cS ad) ad wr sz σ) := by
  refine va_MetW (hh := [(0, 6, 9, 13)]) (cc := c_L_begin) (maxL := 4) (ret := (some .int)) (by decide) rfl ?_
  have h : wp_C_begin (fun σ1 => Q 0 σ1) (fun X σ1 => X = xIA ∧ Q 1 σ1) x1 x2 σ := h
  intro p e s m args below meth c s₁ B hml hv
  obtain ⟨rfl, hsz, hP, hK, hD0, hN⟩ := hv
  subst hsz
  have hT : c.exceptionTable.toList = [⟨0, 6, 9, 13⟩] := vx_table (x := y_L_begin) B (atoms_spec (ws := (Cond.codeWith y_L_begin c_L_begin 4 (some .int) [(0, 6, 9, 13)] :: TB)) B.pre _ List.mem_cons_self)
  have hD : va_D (wA 77 (fX cI cL cS ad) ad wr s.heap.size σ) (wW 77 (fX cI cL cS ad) ad σ ++ wr) := hD0.self (sz := s.heap.size)
  have hA : ∀ q : Nat, s.heap.size ≤ q → (wA 77 (fX cI cL cS ad) ad wr s.heap.size σ) q := fun q h => Or.inr h
  have hN : NX (wA 77 (fX cI cL cS ad) ad wr s.heap.size σ) s s.heap := hN
  generalize (wA 77 (fX cI cL cS ad) ad wr s.heap.size σ) = A at hD hA hN ⊢
  have C : wC TB "PreferenceCountLaw" c_L_begin 4 (some .int) D cls (tyl cI cL cZ cS) A p s m ([.ref (ad 0), .int x1, .int x2].toArray) meth c := ⟨B.exec, B.bytes, B.returns, B.notSynchronized, fun w hw => atoms_spec (ws := (Cond.codeWith y_L_begin c_L_begin 4 (some .int) [(0, 6, 9, 13)] :: TB)) B.pre w (List.mem_cons_of_mem _ hw), findClass_of_methodNamed B.named, hml, hK, hN, hA⟩
  have hx := C.1
  have hb := C.2.1
  have hts := C.2.2.2.2.1
  have hown := C.2.2.2.2.2.1
  have hS : va_S A s.heap s.heap [] := va_S.rf
  have hl := lv_entry ([.ref (ad 0), .int x1, .int x2]) (n := 4) (Nat.le_of_ble_eq_true rfl)
  rw [lg_entry_eq]
  generalize (lg_sl ([.ref (ad 0), .int x1, .int x2]) ++ List.replicate (4 - (lg_sl ([.ref (ad 0), .int x1, .int x2])).length) Slot.unset).toArray = ls at hl ⊢
  have hl : lv_has ls 4 [(0, .ref (ad 0)), (1, .int x1), (2, .int x2)] := hl
  refine lv_aload_n hx hb d_L_begin_0 rfl (lv_at hl 0 rfl) ?_
  refine lv_iload_n hx hb d_L_begin_1 rfl (lv_at hl 1 rfl) ?_
  refine lv_iload_n hx hb d_L_begin_2 rfl (lv_at hl 2 rfl) ?_
  refine h_callv C hD hS (vx_runV (As := [.int x1, .int x2]) (rest := []) ⟨hx, hb, hml, hown, hts⟩ (m_C_begin hlS h) (cwV 2 hts (g_V kw_173 kw_174 kw_175 kw_1 kw_176) rfl rfl rfl (by decide +kernel) ⟨(Nat.le_of_ble_eq_true rfl), (Nat.le_of_ble_eq_true rfl)⟩) (r_preV (o := 0) C hP hD hS (by decide) rfl rfl) rfl rfl hl.1 rfl (lv_room (Nat.le_of_ble_eq_true rfl)) d_L_begin_3 ⟨(Nat.le_of_ble_eq_true rfl), (Nat.le_of_ble_eq_true rfl)⟩) (fun X ce q9 σ H locs h hP hD hS hce hcv hcl => ?_) (fun σ H locs h hP hD hS => ?_)
  · obtain ⟨rfl, h⟩ := h
    refine vx_catch (name := xIA) hown [] ⟨0, 6, 9, 13⟩ [] hT (fun z hz => by cases hz) rfl (by decide) (hts _ kw_172) (va_Nw.use rfl (hN.2.1 _ xca_IA)) hce hcv hcl ?_
    refine lv_astore_n hx hb d_L_begin_9 rfl hl (by decide) rfl (fun ls hl => ?_)
    refine lv_iconst (v := 1) hx hb d_L_begin_10 (by decide) ?_
    exact r_iret C hP hD hS d_L_begin_11 h
  · refine lv_goto hx hb d_L_begin_6 rfl ?_
    refine lv_iconst (v := 0) hx hb d_L_begin_12 (by decide) ?_
    exact r_iret C hP hD hS d_L_begin_13 h
def wp_L_draw (Q : Int32 → Mem → Prop) (x1 : Int32) (x2 : Int32) (σ : Mem) : Prop := wp_C_draw (fun σ1 => Q 0 σ1) (fun X σ1 => (X = xIS ∧ Q 1 σ1) ∨ (X = xIA ∧ Q 2 σ1)) x1 x2 σ
def rm_L_draw : Room := { frames := 8, cells := 2, slots := 12, locals := 133 }
set_option maxHeartbeats 4000000 in
set_option maxRecDepth 100000 in
theorem m_L_draw {l : Launch} {D : va_G} {cI cL cZ cS : ClassId} {ad : Nat → Nat} {wr : va_W} {sz : Nat} {Q : Int32 → Mem → Prop} {x1 : Int32} {x2 : Int32} {σ : Mem} (hlS : l.stackTraces = false) (h : wp_L_draw Q x1 x2 σ) : Met l y_L_draw (Cond.codeWith y_L_draw c_L_draw 4 (some .int) [(0, 6, 9, 18), (0, 6, 12, 13)] :: TB) rm_L_draw (wPc D cls (tyl cI cL cZ cS) 77 (fX cI cL cS ad) ad wr sz σ [.ref (ad 0), .int x1, .int x2]) (va_Qi Q (wB D cls (tyl cI cL cZ cS) 77 (fX cI cL cS ad) ad wr (wA 77 (fX cI cL cS ad) ad wr sz σ)) (wA 77 (fX cI cL cS ad) ad wr sz σ)) 2 12 (wA 77 (fX cI cL cS ad) ad wr sz σ) := by
  refine va_MetW (hh := [(0, 6, 9, 18), (0, 6, 12, 13)]) (cc := c_L_draw) (maxL := 4) (ret := (some .int)) (by decide) rfl ?_
  have h : wp_C_draw (fun σ1 => Q 0 σ1) (fun X σ1 => (X = xIS ∧ Q 1 σ1) ∨ (X = xIA ∧ Q 2 σ1)) x1 x2 σ := h
  intro p e s m args below meth c s₁ B hml hv
  obtain ⟨rfl, hsz, hP, hK, hD0, hN⟩ := hv
  subst hsz
  have hT : c.exceptionTable.toList = [⟨0, 6, 9, 18⟩, ⟨0, 6, 12, 13⟩] := vx_table (x := y_L_draw) B (atoms_spec (ws := (Cond.codeWith y_L_draw c_L_draw 4 (some .int) [(0, 6, 9, 18), (0, 6, 12, 13)] :: TB)) B.pre _ List.mem_cons_self)
  have hD : va_D (wA 77 (fX cI cL cS ad) ad wr s.heap.size σ) (wW 77 (fX cI cL cS ad) ad σ ++ wr) := hD0.self (sz := s.heap.size)
  have hA : ∀ q : Nat, s.heap.size ≤ q → (wA 77 (fX cI cL cS ad) ad wr s.heap.size σ) q := fun q h => Or.inr h
  have hN : NX (wA 77 (fX cI cL cS ad) ad wr s.heap.size σ) s s.heap := hN
  generalize (wA 77 (fX cI cL cS ad) ad wr s.heap.size σ) = A at hD hA hN ⊢
  have C : wC TB "PreferenceCountLaw" c_L_draw 4 (some .int) D cls (tyl cI cL cZ cS) A p s m ([.ref (ad 0), .int x1, .int x2].toArray) meth c := ⟨B.exec, B.bytes, B.returns, B.notSynchronized, fun w hw => atoms_spec (ws := (Cond.codeWith y_L_draw c_L_draw 4 (some .int) [(0, 6, 9, 18), (0, 6, 12, 13)] :: TB)) B.pre w (List.mem_cons_of_mem _ hw), findClass_of_methodNamed B.named, hml, hK, hN, hA⟩
  have hx := C.1
  have hb := C.2.1
  have hts := C.2.2.2.2.1
  have hown := C.2.2.2.2.2.1
  have hS : va_S A s.heap s.heap [] := va_S.rf
  have hl := lv_entry ([.ref (ad 0), .int x1, .int x2]) (n := 4) (Nat.le_of_ble_eq_true rfl)
  rw [lg_entry_eq]
  generalize (lg_sl ([.ref (ad 0), .int x1, .int x2]) ++ List.replicate (4 - (lg_sl ([.ref (ad 0), .int x1, .int x2])).length) Slot.unset).toArray = ls at hl ⊢
  have hl : lv_has ls 4 [(0, .ref (ad 0)), (1, .int x1), (2, .int x2)] := hl
  refine lv_aload_n hx hb d_L_draw_0 rfl (lv_at hl 0 rfl) ?_
  refine lv_iload_n hx hb d_L_draw_1 rfl (lv_at hl 1 rfl) ?_
  refine lv_iload_n hx hb d_L_draw_2 rfl (lv_at hl 2 rfl) ?_
  refine h_callv C hD hS (vx_runV (As := [.int x1, .int x2]) (rest := []) ⟨hx, hb, hml, hown, hts⟩ (m_C_draw hlS h) (cwV 2 hts (g_V kw_249 kw_250 kw_251 kw_1 kw_252) rfl rfl rfl (by decide +kernel) ⟨(Nat.le_of_ble_eq_true rfl), (Nat.le_of_ble_eq_true rfl)⟩) (r_preV (o := 0) C hP hD hS (by decide) rfl rfl) rfl rfl hl.1 rfl (lv_room (Nat.le_of_ble_eq_true rfl)) d_L_draw_3 ⟨(Nat.le_of_ble_eq_true rfl), (Nat.le_of_ble_eq_true rfl)⟩) (fun X ce q9 σ H locs h hP hD hS hce hcv hcl => ?_) (fun σ H locs h hP hD hS => ?_)
  · rcases h with ⟨rfl, h⟩ | ⟨rfl, h⟩
    · refine vx_catch (name := xIS) hown [] ⟨0, 6, 9, 18⟩ [⟨0, 6, 12, 13⟩] hT (fun z hz => by cases hz) rfl (by decide) (hts _ kw_248) (va_Nw.use rfl (hN.2.1 _ xca_IS)) hce hcv hcl ?_
      refine lv_astore_n hx hb d_L_draw_9 rfl hl (by decide) rfl (fun ls hl => ?_)
      refine lv_iconst (v := 1) hx hb d_L_draw_10 (by decide) ?_
      exact r_iret C hP hD hS d_L_draw_11 h
    · refine vx_catch (name := xIA) hown [⟨0, 6, 9, 18⟩] ⟨0, 6, 12, 13⟩ [] hT (fun z hz => by rw [List.mem_singleton.mp hz]; exact Or.inr ⟨by decide, xIS, hts _ kw_248, hN.2.2.2.2.2.1⟩) rfl (by decide) (hts _ kw_172) (va_Nw.use rfl (hN.2.1 _ xca_IA)) hce hcv hcl ?_
      refine lv_astore_n hx hb d_L_draw_12 rfl hl (by decide) rfl (fun ls hl => ?_)
      refine lv_iconst (v := 2) hx hb d_L_draw_13 (by decide) ?_
      exact r_iret C hP hD hS d_L_draw_14 h
  · refine lv_goto hx hb d_L_draw_6 rfl ?_
    refine lv_iconst (v := 0) hx hb d_L_draw_15 (by decide) ?_
    exact r_iret C hP hD hS d_L_draw_16 h
def wp_L_withdraw (Q : Int32 → Mem → Prop) (x1 : Int32) (σ : Mem) : Prop := wp_C_withdraw (fun σ1 => Q 0 σ1) (fun X σ1 => (X = xIS ∧ Q 1 σ1) ∨ (X = xIA ∧ Q 2 σ1)) x1 σ
def rm_L_withdraw : Room := { frames := 8, cells := 2, slots := 12, locals := 131 }
set_option maxHeartbeats 4000000 in
set_option maxRecDepth 100000 in
theorem m_L_withdraw {l : Launch} {D : va_G} {cI cL cZ cS : ClassId} {ad : Nat → Nat} {wr : va_W} {sz : Nat} {Q : Int32 → Mem → Prop} {x1 : Int32} {σ : Mem} (hlS : l.stackTraces = false) (h : wp_L_withdraw Q x1 σ) : Met l y_L_withdraw (Cond.codeWith y_L_withdraw c_L_withdraw 3 (some .int) [(0, 5, 8, 18), (0, 5, 11, 13)] :: TB) rm_L_withdraw (wPc D cls (tyl cI cL cZ cS) 77 (fX cI cL cS ad) ad wr sz σ [.ref (ad 0), .int x1]) (va_Qi Q (wB D cls (tyl cI cL cZ cS) 77 (fX cI cL cS ad) ad wr (wA 77 (fX cI cL cS ad) ad wr sz σ)) (wA 77 (fX cI cL cS ad) ad wr sz σ)) 2 12 (wA 77 (fX cI cL cS ad) ad wr sz σ) := by
  refine va_MetW (hh := [(0, 5, 8, 18), (0, 5, 11, 13)]) (cc := c_L_withdraw) (maxL := 3) (ret := (some .int)) (by decide) rfl ?_
  have h : wp_C_withdraw (fun σ1 => Q 0 σ1) (fun X σ1 => (X = xIS ∧ Q 1 σ1) ∨ (X = xIA ∧ Q 2 σ1)) x1 σ := h
  intro p e s m args below meth c s₁ B hml hv
  obtain ⟨rfl, hsz, hP, hK, hD0, hN⟩ := hv
  subst hsz
  have hT : c.exceptionTable.toList = [⟨0, 5, 8, 18⟩, ⟨0, 5, 11, 13⟩] := vx_table (x := y_L_withdraw) B (atoms_spec (ws := (Cond.codeWith y_L_withdraw c_L_withdraw 3 (some .int) [(0, 5, 8, 18), (0, 5, 11, 13)] :: TB)) B.pre _ List.mem_cons_self)
  have hD : va_D (wA 77 (fX cI cL cS ad) ad wr s.heap.size σ) (wW 77 (fX cI cL cS ad) ad σ ++ wr) := hD0.self (sz := s.heap.size)
  have hA : ∀ q : Nat, s.heap.size ≤ q → (wA 77 (fX cI cL cS ad) ad wr s.heap.size σ) q := fun q h => Or.inr h
  have hN : NX (wA 77 (fX cI cL cS ad) ad wr s.heap.size σ) s s.heap := hN
  generalize (wA 77 (fX cI cL cS ad) ad wr s.heap.size σ) = A at hD hA hN ⊢
  have C : wC TB "PreferenceCountLaw" c_L_withdraw 3 (some .int) D cls (tyl cI cL cZ cS) A p s m ([.ref (ad 0), .int x1].toArray) meth c := ⟨B.exec, B.bytes, B.returns, B.notSynchronized, fun w hw => atoms_spec (ws := (Cond.codeWith y_L_withdraw c_L_withdraw 3 (some .int) [(0, 5, 8, 18), (0, 5, 11, 13)] :: TB)) B.pre w (List.mem_cons_of_mem _ hw), findClass_of_methodNamed B.named, hml, hK, hN, hA⟩
  have hx := C.1
  have hb := C.2.1
  have hts := C.2.2.2.2.1
  have hown := C.2.2.2.2.2.1
  have hS : va_S A s.heap s.heap [] := va_S.rf
  have hl := lv_entry ([.ref (ad 0), .int x1]) (n := 3) (Nat.le_of_ble_eq_true rfl)
  rw [lg_entry_eq]
  generalize (lg_sl ([.ref (ad 0), .int x1]) ++ List.replicate (3 - (lg_sl ([.ref (ad 0), .int x1])).length) Slot.unset).toArray = ls at hl ⊢
  have hl : lv_has ls 3 [(0, .ref (ad 0)), (1, .int x1)] := hl
  refine lv_aload_n hx hb d_L_withdraw_0 rfl (lv_at hl 0 rfl) ?_
  refine lv_iload_n hx hb d_L_withdraw_1 rfl (lv_at hl 1 rfl) ?_
  refine h_callv C hD hS (vx_runV (As := [.int x1]) (rest := []) ⟨hx, hb, hml, hown, hts⟩ (m_C_withdraw hlS h) (cwV 1 hts (g_V kw_289 kw_290 kw_291 kw_1 kw_292) rfl rfl rfl (by decide +kernel) ⟨(Nat.le_of_ble_eq_true rfl), (Nat.le_of_ble_eq_true rfl)⟩) (r_preV (o := 0) C hP hD hS (by decide) rfl rfl) rfl rfl hl.1 rfl (lv_room (Nat.le_of_ble_eq_true rfl)) d_L_withdraw_2 ⟨(Nat.le_of_ble_eq_true rfl), (Nat.le_of_ble_eq_true rfl)⟩) (fun X ce q9 σ H locs h hP hD hS hce hcv hcl => ?_) (fun σ H locs h hP hD hS => ?_)
  · rcases h with ⟨rfl, h⟩ | ⟨rfl, h⟩
    · refine vx_catch (name := xIS) hown [] ⟨0, 5, 8, 18⟩ [⟨0, 5, 11, 13⟩] hT (fun z hz => by cases hz) rfl (by decide) (hts _ kw_248) (va_Nw.use rfl (hN.2.1 _ xca_IS)) hce hcv hcl ?_
      refine lv_astore_n hx hb d_L_withdraw_8 rfl hl (by decide) rfl (fun ls hl => ?_)
      refine lv_iconst (v := 1) hx hb d_L_withdraw_9 (by decide) ?_
      exact r_iret C hP hD hS d_L_withdraw_10 h
    · refine vx_catch (name := xIA) hown [⟨0, 5, 8, 18⟩] ⟨0, 5, 11, 13⟩ [] hT (fun z hz => by rw [List.mem_singleton.mp hz]; exact Or.inr ⟨by decide, xIS, hts _ kw_248, hN.2.2.2.2.2.1⟩) rfl (by decide) (hts _ kw_172) (va_Nw.use rfl (hN.2.1 _ xca_IA)) hce hcv hcl ?_
      refine lv_astore_n hx hb d_L_withdraw_11 rfl hl (by decide) rfl (fun ls hl => ?_)
      refine lv_iconst (v := 2) hx hb d_L_withdraw_12 (by decide) ?_
      exact r_iret C hP hD hS d_L_withdraw_13 h
  · refine lv_goto hx hb d_L_withdraw_5 rfl ?_
    refine lv_iconst (v := 0) hx hb d_L_withdraw_14 (by decide) ?_
    exact r_iret C hP hD hS d_L_withdraw_15 h
def wp_L_lay (Q : Int32 → Mem → (Nat → Int64) → Prop) (ou : Nat → Int64) (y1 : Int64) (x3 : Int32) (σ : Mem) : Prop := wp_C_lay (fun r σ1 => Q 0 σ1 (vp_updL ou 0 r.toInt64)) (fun X σ1 => (X = xIS ∧ Q 1 σ1 ou) ∨ (X = xIA ∧ Q 2 σ1 ou)) y1 x3 σ
def rm_L_lay : Room := { frames := 8, cells := 2, slots := 12, locals := 134 }
set_option maxHeartbeats 4000000 in
set_option maxRecDepth 100000 in
theorem m_L_lay {l : Launch} {D : va_G} {cI cL cZ cS : ClassId} {ad : Nat → Nat} {wr : va_W} {sz : Nat} {ao : Nat} {ou : Nat → Int64} {Q : Int32 → Mem → (Nat → Int64) → Prop} {y1 : Int64} {x3 : Int32} {σ : Mem} (hlS : l.stackTraces = false) (h : wp_L_lay Q ou y1 x3 σ) : Met l y_L_lay (Cond.codeWith y_L_lay c_L_lay 6 (some .int) [(0, 11, 14, 18), (0, 11, 18, 13)] :: TB) rm_L_lay (wPc D cls (tyl cI cL cZ cS) 77 (fX cI cL cS ad) ad (oc cL ao ou :: wr) sz σ [.ref (ad 0), .long y1, .int x3, .ref ao]) (va_Qi (fun (r : Int32) (u : Mem × (Nat → Int64)) => Q r u.1 u.2) (oB D cls (tyl cI cL cZ cS) 77 (fX cI cL cS ad) ad cL ao wr (wA 77 (fX cI cL cS ad) ad (oc cL ao ou :: wr) sz σ)) (wA 77 (fX cI cL cS ad) ad (oc cL ao ou :: wr) sz σ)) 2 12 (wA 77 (fX cI cL cS ad) ad (oc cL ao ou :: wr) sz σ) := by
  refine va_MetW (hh := [(0, 11, 14, 18), (0, 11, 18, 13)]) (cc := c_L_lay) (maxL := 6) (ret := (some .int)) (by decide) rfl ?_
  have h : wp_C_lay (fun r σ1 => Q 0 σ1 (vp_updL ou 0 r.toInt64)) (fun X σ1 => (X = xIS ∧ Q 1 σ1 ou) ∨ (X = xIA ∧ Q 2 σ1 ou)) y1 x3 σ := h
  intro p e s m args below meth c s₁ B hml hv
  obtain ⟨rfl, hsz, hP, hK, hD0, hN⟩ := hv
  subst hsz
  have hT : c.exceptionTable.toList = [⟨0, 11, 14, 18⟩, ⟨0, 11, 18, 13⟩] := vx_table (x := y_L_lay) B (atoms_spec (ws := (Cond.codeWith y_L_lay c_L_lay 6 (some .int) [(0, 11, 14, 18), (0, 11, 18, 13)] :: TB)) B.pre _ List.mem_cons_self)
  have hD : va_D (wA 77 (fX cI cL cS ad) ad (oc cL ao ou :: wr) s.heap.size σ) (wW 77 (fX cI cL cS ad) ad σ ++ (oc cL ao ou :: wr)) := hD0.self (sz := s.heap.size)
  have hA : ∀ q : Nat, s.heap.size ≤ q → (wA 77 (fX cI cL cS ad) ad (oc cL ao ou :: wr) s.heap.size σ) q := fun q h => Or.inr h
  have hN : NX (wA 77 (fX cI cL cS ad) ad (oc cL ao ou :: wr) s.heap.size σ) s s.heap := hN
  generalize (wA 77 (fX cI cL cS ad) ad (oc cL ao ou :: wr) s.heap.size σ) = A at hD hA hN ⊢
  have C : wC TB "PreferenceCountLaw" c_L_lay 6 (some .int) D cls (tyl cI cL cZ cS) A p s m ([.ref (ad 0), .long y1, .int x3, .ref ao].toArray) meth c := ⟨B.exec, B.bytes, B.returns, B.notSynchronized, fun w hw => atoms_spec (ws := (Cond.codeWith y_L_lay c_L_lay 6 (some .int) [(0, 11, 14, 18), (0, 11, 18, 13)] :: TB)) B.pre w (List.mem_cons_of_mem _ hw), findClass_of_methodNamed B.named, hml, hK, hN, hA⟩
  have hx := C.1
  have hb := C.2.1
  have hts := C.2.2.2.2.1
  have hown := C.2.2.2.2.2.1
  have hS : va_S A s.heap s.heap [] := va_S.rf
  have hl := lv_entry ([.ref (ad 0), .long y1, .int x3, .ref ao]) (n := 6) (Nat.le_of_ble_eq_true rfl)
  rw [lg_entry_eq]
  generalize (lg_sl ([.ref (ad 0), .long y1, .int x3, .ref ao]) ++ List.replicate (6 - (lg_sl ([.ref (ad 0), .long y1, .int x3, .ref ao])).length) Slot.unset).toArray = ls at hl ⊢
  have hl : lv_has ls 6 [(0, .ref (ad 0)), (1, .long y1), (3, .int x3), (4, .ref ao)] := hl
  refine lv_aload hx hb d_L_lay_0 (lv_at hl 3 rfl) ?_
  refine lv_iconst (v := 0) hx hb d_L_lay_2 (by decide) ?_
  refine lv_aload_n hx hb d_L_lay_3 rfl (lv_at hl 0 rfl) ?_
  refine lv_lload_n hx hb d_L_lay_4 rfl (lv_at hl 1 rfl) ?_
  refine lv_iload_n hx hb d_L_lay_5 rfl (lv_at hl 2 rfl) ?_
  refine h_calli C hD hS (vx_runV (As := [.long y1, .int x3]) (rest := [.int 0, .ref ao]) ⟨hx, hb, hml, hown, hts⟩ (m_C_lay hlS h) (cwV 2 hts (g_V kw_305 kw_306 kw_307 kw_1 kw_308) rfl rfl rfl (by decide +kernel) ⟨(Nat.le_of_ble_eq_true rfl), (Nat.le_of_ble_eq_true rfl)⟩) (r_preV (o := 0) C hP hD hS (by decide) rfl rfl) rfl rfl hl.1 rfl (lv_room (Nat.le_of_ble_eq_true rfl)) d_L_lay_6 ⟨(Nat.le_of_ble_eq_true rfl), (Nat.le_of_ble_eq_true rfl)⟩) (fun X ce q9 σ H locs h hP hD hS hce hcv hcl => ?_) (fun r σ H locs h hP hD hS => ?_)
  · rcases h with ⟨rfl, h⟩ | ⟨rfl, h⟩
    · refine vx_catch (name := xIS) hown [] ⟨0, 11, 14, 18⟩ [⟨0, 11, 18, 13⟩] hT (fun z hz => by cases hz) rfl (by decide) (hts _ kw_248) (va_Nw.use rfl (hN.2.1 _ xca_IS)) hce hcv hcl ?_
      refine lv_astore hx hb d_L_lay_14 hl (by decide) rfl (fun ls hl => ?_)
      refine lv_iconst (v := 1) hx hb d_L_lay_16 (by decide) ?_
      exact o_iret C hP hD hS d_L_lay_17 h
    · refine vx_catch (name := xIA) hown [⟨0, 11, 14, 18⟩] ⟨0, 11, 18, 13⟩ [] hT (fun z hz => by rw [List.mem_singleton.mp hz]; exact Or.inr ⟨by decide, xIS, hts _ kw_248, hN.2.2.2.2.2.1⟩) rfl (by decide) (hts _ kw_172) (va_Nw.use rfl (hN.2.1 _ xca_IA)) hce hcv hcl ?_
      refine lv_astore hx hb d_L_lay_18 hl (by decide) rfl (fun ls hl => ?_)
      refine lv_iconst (v := 2) hx hb d_L_lay_20 (by decide) ?_
      exact o_iret C hP hD hS d_L_lay_21 h
  · refine lv_i2l hx hb d_L_lay_9 rfl ?_
    refine o_last C hP hD hS rfl d_L_lay_10 (fun H locs hP hD hS => ?_)
    refine lv_goto hx hb d_L_lay_11 rfl ?_
    refine lv_iconst (v := 0) hx hb d_L_lay_22 (by decide) ?_
    exact o_iret C hP hD hS d_L_lay_23 h
def wp_L_open (Q : Int32 → Mem → (Nat → Int64) → Prop) (ou : Nat → Int64) (σ : Mem) : Prop := wp_C_open (fun r σ1 => Q 0 σ1 (vp_updL ou 0 r.toInt64)) (fun X σ1 => X = xIS ∧ Q 1 σ1 ou) σ
def rm_L_open : Room := { frames := 8, cells := 2, slots := 12, locals := 171 }
set_option maxHeartbeats 4000000 in
set_option maxRecDepth 100000 in
theorem m_L_open {l : Launch} {D : va_G} {cI cL cZ cS : ClassId} {ad : Nat → Nat} {wr : va_W} {sz : Nat} {ao : Nat} {ou : Nat → Int64} {Q : Int32 → Mem → (Nat → Int64) → Prop} {σ : Mem} (hlS : l.stackTraces = false) (h : wp_L_open Q ou σ) : Met l y_L_open (Cond.codeWith y_L_open c_L_open 3 (some .int) [(0, 8, 11, 18)] :: TB) rm_L_open (wPc D cls (tyl cI cL cZ cS) 77 (fX cI cL cS ad) ad (oc cL ao ou :: wr) sz σ [.ref (ad 0), .ref ao]) (va_Qi (fun (r : Int32) (u : Mem × (Nat → Int64)) => Q r u.1 u.2) (oB D cls (tyl cI cL cZ cS) 77 (fX cI cL cS ad) ad cL ao wr (wA 77 (fX cI cL cS ad) ad (oc cL ao ou :: wr) sz σ)) (wA 77 (fX cI cL cS ad) ad (oc cL ao ou :: wr) sz σ)) 2 12 (wA 77 (fX cI cL cS ad) ad (oc cL ao ou :: wr) sz σ) := by
  refine va_MetW (hh := [(0, 8, 11, 18)]) (cc := c_L_open) (maxL := 3) (ret := (some .int)) (by decide) rfl ?_
  have h : wp_C_open (fun r σ1 => Q 0 σ1 (vp_updL ou 0 r.toInt64)) (fun X σ1 => X = xIS ∧ Q 1 σ1 ou) σ := h
  intro p e s m args below meth c s₁ B hml hv
  obtain ⟨rfl, hsz, hP, hK, hD0, hN⟩ := hv
  subst hsz
  have hT : c.exceptionTable.toList = [⟨0, 8, 11, 18⟩] := vx_table (x := y_L_open) B (atoms_spec (ws := (Cond.codeWith y_L_open c_L_open 3 (some .int) [(0, 8, 11, 18)] :: TB)) B.pre _ List.mem_cons_self)
  have hD : va_D (wA 77 (fX cI cL cS ad) ad (oc cL ao ou :: wr) s.heap.size σ) (wW 77 (fX cI cL cS ad) ad σ ++ (oc cL ao ou :: wr)) := hD0.self (sz := s.heap.size)
  have hA : ∀ q : Nat, s.heap.size ≤ q → (wA 77 (fX cI cL cS ad) ad (oc cL ao ou :: wr) s.heap.size σ) q := fun q h => Or.inr h
  have hN : NX (wA 77 (fX cI cL cS ad) ad (oc cL ao ou :: wr) s.heap.size σ) s s.heap := hN
  generalize (wA 77 (fX cI cL cS ad) ad (oc cL ao ou :: wr) s.heap.size σ) = A at hD hA hN ⊢
  have C : wC TB "PreferenceCountLaw" c_L_open 3 (some .int) D cls (tyl cI cL cZ cS) A p s m ([.ref (ad 0), .ref ao].toArray) meth c := ⟨B.exec, B.bytes, B.returns, B.notSynchronized, fun w hw => atoms_spec (ws := (Cond.codeWith y_L_open c_L_open 3 (some .int) [(0, 8, 11, 18)] :: TB)) B.pre w (List.mem_cons_of_mem _ hw), findClass_of_methodNamed B.named, hml, hK, hN, hA⟩
  have hx := C.1
  have hb := C.2.1
  have hts := C.2.2.2.2.1
  have hown := C.2.2.2.2.2.1
  have hS : va_S A s.heap s.heap [] := va_S.rf
  have hl := lv_entry ([.ref (ad 0), .ref ao]) (n := 3) (Nat.le_of_ble_eq_true rfl)
  rw [lg_entry_eq]
  generalize (lg_sl ([.ref (ad 0), .ref ao]) ++ List.replicate (3 - (lg_sl ([.ref (ad 0), .ref ao])).length) Slot.unset).toArray = ls at hl ⊢
  have hl : lv_has ls 3 [(0, .ref (ad 0)), (1, .ref ao)] := hl
  refine lv_aload_n hx hb d_L_open_0 rfl (lv_at hl 1 rfl) ?_
  refine lv_iconst (v := 0) hx hb d_L_open_1 (by decide) ?_
  refine lv_aload_n hx hb d_L_open_2 rfl (lv_at hl 0 rfl) ?_
  refine h_calli C hD hS (vx_runV (As := []) (rest := [.int 0, .ref ao]) ⟨hx, hb, hml, hown, hts⟩ (m_C_open hlS h) (cwV 0 hts (g_V kw_332 kw_333 kw_334 kw_1 kw_335) rfl rfl rfl (by decide +kernel) ⟨(Nat.le_of_ble_eq_true rfl), (Nat.le_of_ble_eq_true rfl)⟩) (r_preV (o := 0) C hP hD hS (by decide) rfl rfl) rfl rfl hl.1 rfl (lv_room (Nat.le_of_ble_eq_true rfl)) d_L_open_3 ⟨(Nat.le_of_ble_eq_true rfl), (Nat.le_of_ble_eq_true rfl)⟩) (fun X ce q9 σ H locs h hP hD hS hce hcv hcl => ?_) (fun r σ H locs h hP hD hS => ?_)
  · obtain ⟨rfl, h⟩ := h
    refine vx_catch (name := xIS) hown [] ⟨0, 8, 11, 18⟩ [] hT (fun z hz => by cases hz) rfl (by decide) (hts _ kw_248) (va_Nw.use rfl (hN.2.1 _ xca_IS)) hce hcv hcl ?_
    refine lv_astore_n hx hb d_L_open_11 rfl hl (by decide) rfl (fun ls hl => ?_)
    refine lv_iconst (v := 1) hx hb d_L_open_12 (by decide) ?_
    exact o_iret C hP hD hS d_L_open_13 h
  · refine lv_i2l hx hb d_L_open_6 rfl ?_
    refine o_last C hP hD hS rfl d_L_open_7 (fun H locs hP hD hS => ?_)
    refine lv_goto hx hb d_L_open_8 rfl ?_
    refine lv_iconst (v := 0) hx hb d_L_open_14 (by decide) ?_
    exact o_iret C hP hD hS d_L_open_15 h
def wp_L_step (Q : Int32 → Mem → (Nat → Int64) → Prop) (ou : Nat → Int64) (σ : Mem) : Prop := wp_C_step (fun r σ1 => Q 0 σ1 (vp_updL ou 0 r.toInt64)) (fun X σ1 => X = xIS ∧ Q 1 σ1 ou) σ
def rm_L_step : Room := { frames := 7, cells := 1, slots := 6, locals := 184 }
set_option maxHeartbeats 4000000 in
set_option maxRecDepth 100000 in
theorem m_L_step {l : Launch} {D : va_G} {cI cL cZ cS : ClassId} {ad : Nat → Nat} {wr : va_W} {sz : Nat} {ao : Nat} {ou : Nat → Int64} {Q : Int32 → Mem → (Nat → Int64) → Prop} {σ : Mem} (hlS : l.stackTraces = false) (h : wp_L_step Q ou σ) : Met l y_L_step (Cond.codeWith y_L_step c_L_step 3 (some .int) [(0, 8, 11, 18)] :: TB) rm_L_step (wPc D cls (tyl cI cL cZ cS) 77 (fX cI cL cS ad) ad (oc cL ao ou :: wr) sz σ [.ref (ad 0), .ref ao]) (va_Qi (fun (r : Int32) (u : Mem × (Nat → Int64)) => Q r u.1 u.2) (oB D cls (tyl cI cL cZ cS) 77 (fX cI cL cS ad) ad cL ao wr (wA 77 (fX cI cL cS ad) ad (oc cL ao ou :: wr) sz σ)) (wA 77 (fX cI cL cS ad) ad (oc cL ao ou :: wr) sz σ)) 1 6 (wA 77 (fX cI cL cS ad) ad (oc cL ao ou :: wr) sz σ) := by
  refine va_MetW (hh := [(0, 8, 11, 18)]) (cc := c_L_step) (maxL := 3) (ret := (some .int)) (by decide) rfl ?_
  have h : wp_C_step (fun r σ1 => Q 0 σ1 (vp_updL ou 0 r.toInt64)) (fun X σ1 => X = xIS ∧ Q 1 σ1 ou) σ := h
  intro p e s m args below meth c s₁ B hml hv
  obtain ⟨rfl, hsz, hP, hK, hD0, hN⟩ := hv
  subst hsz
  have hT : c.exceptionTable.toList = [⟨0, 8, 11, 18⟩] := vx_table (x := y_L_step) B (atoms_spec (ws := (Cond.codeWith y_L_step c_L_step 3 (some .int) [(0, 8, 11, 18)] :: TB)) B.pre _ List.mem_cons_self)
  have hD : va_D (wA 77 (fX cI cL cS ad) ad (oc cL ao ou :: wr) s.heap.size σ) (wW 77 (fX cI cL cS ad) ad σ ++ (oc cL ao ou :: wr)) := hD0.self (sz := s.heap.size)
  have hA : ∀ q : Nat, s.heap.size ≤ q → (wA 77 (fX cI cL cS ad) ad (oc cL ao ou :: wr) s.heap.size σ) q := fun q h => Or.inr h
  have hN : NX (wA 77 (fX cI cL cS ad) ad (oc cL ao ou :: wr) s.heap.size σ) s s.heap := hN
  generalize (wA 77 (fX cI cL cS ad) ad (oc cL ao ou :: wr) s.heap.size σ) = A at hD hA hN ⊢
  have C : wC TB "PreferenceCountLaw" c_L_step 3 (some .int) D cls (tyl cI cL cZ cS) A p s m ([.ref (ad 0), .ref ao].toArray) meth c := ⟨B.exec, B.bytes, B.returns, B.notSynchronized, fun w hw => atoms_spec (ws := (Cond.codeWith y_L_step c_L_step 3 (some .int) [(0, 8, 11, 18)] :: TB)) B.pre w (List.mem_cons_of_mem _ hw), findClass_of_methodNamed B.named, hml, hK, hN, hA⟩
  have hx := C.1
  have hb := C.2.1
  have hts := C.2.2.2.2.1
  have hown := C.2.2.2.2.2.1
  have hS : va_S A s.heap s.heap [] := va_S.rf
  have hl := lv_entry ([.ref (ad 0), .ref ao]) (n := 3) (Nat.le_of_ble_eq_true rfl)
  rw [lg_entry_eq]
  generalize (lg_sl ([.ref (ad 0), .ref ao]) ++ List.replicate (3 - (lg_sl ([.ref (ad 0), .ref ao])).length) Slot.unset).toArray = ls at hl ⊢
  have hl : lv_has ls 3 [(0, .ref (ad 0)), (1, .ref ao)] := hl
  refine lv_aload_n hx hb d_L_step_0 rfl (lv_at hl 1 rfl) ?_
  refine lv_iconst (v := 0) hx hb d_L_step_1 (by decide) ?_
  refine lv_aload_n hx hb d_L_step_2 rfl (lv_at hl 0 rfl) ?_
  refine h_calli C hD hS (vx_runV (As := []) (rest := [.int 0, .ref ao]) ⟨hx, hb, hml, hown, hts⟩ (m_C_step hlS h) (cwV 0 hts (g_V kw_412 kw_413 kw_414 kw_1 kw_415) rfl rfl rfl (by decide +kernel) ⟨(Nat.le_of_ble_eq_true rfl), (Nat.le_of_ble_eq_true rfl)⟩) (r_preV (o := 0) C hP hD hS (by decide) rfl rfl) rfl rfl hl.1 rfl (lv_room (Nat.le_of_ble_eq_true rfl)) d_L_step_3 ⟨(Nat.le_of_ble_eq_true rfl), (Nat.le_of_ble_eq_true rfl)⟩) (fun X ce q9 σ H locs h hP hD hS hce hcv hcl => ?_) (fun r σ H locs h hP hD hS => ?_)
  · obtain ⟨rfl, h⟩ := h
    refine vx_catch (name := xIS) hown [] ⟨0, 8, 11, 18⟩ [] hT (fun z hz => by cases hz) rfl (by decide) (hts _ kw_248) (va_Nw.use rfl (hN.2.1 _ xca_IS)) hce hcv hcl ?_
    refine lv_astore_n hx hb d_L_step_11 rfl hl (by decide) rfl (fun ls hl => ?_)
    refine lv_iconst (v := 1) hx hb d_L_step_12 (by decide) ?_
    exact o_iret C hP hD hS d_L_step_13 h
  · refine lv_i2l hx hb d_L_step_6 rfl ?_
    refine o_last C hP hD hS rfl d_L_step_7 (fun H locs hP hD hS => ?_)
    refine lv_goto hx hb d_L_step_8 rfl ?_
    refine lv_iconst (v := 0) hx hb d_L_step_14 (by decide) ?_
    exact o_iret C hP hD hS d_L_step_15 h
def wp_L_status (Q : Int32 → Mem → (Nat → Int64) → Prop) (ou : Nat → Int64) (x1 : Int32) (σ : Mem) : Prop := wp_C_status (fun r σ1 => Q 0 σ1 (vp_updL ou 0 r.toInt64)) (fun X σ1 => X = xIB ∧ Q 1 σ1 ou) x1 σ
def rm_L_status : Room := { frames := 7, cells := 1, slots := 6, locals := 111 }
set_option maxHeartbeats 4000000 in
set_option maxRecDepth 100000 in
theorem m_L_status {l : Launch} {D : va_G} {cI cL cZ cS : ClassId} {ad : Nat → Nat} {wr : va_W} {sz : Nat} {ao : Nat} {ou : Nat → Int64} {Q : Int32 → Mem → (Nat → Int64) → Prop} {x1 : Int32} {σ : Mem} (hlS : l.stackTraces = false) (h : wp_L_status Q ou x1 σ) : Met l y_L_status (Cond.codeWith y_L_status c_L_status 4 (some .int) [(0, 9, 12, 39)] :: TB) rm_L_status (wPc D cls (tyl cI cL cZ cS) 77 (fX cI cL cS ad) ad (oc cL ao ou :: wr) sz σ [.ref (ad 0), .int x1, .ref ao]) (va_Qi (fun (r : Int32) (u : Mem × (Nat → Int64)) => Q r u.1 u.2) (oB D cls (tyl cI cL cZ cS) 77 (fX cI cL cS ad) ad cL ao wr (wA 77 (fX cI cL cS ad) ad (oc cL ao ou :: wr) sz σ)) (wA 77 (fX cI cL cS ad) ad (oc cL ao ou :: wr) sz σ)) 1 6 (wA 77 (fX cI cL cS ad) ad (oc cL ao ou :: wr) sz σ) := by
  refine va_MetW (hh := [(0, 9, 12, 39)]) (cc := c_L_status) (maxL := 4) (ret := (some .int)) (by decide) rfl ?_
  have h : wp_C_status (fun r σ1 => Q 0 σ1 (vp_updL ou 0 r.toInt64)) (fun X σ1 => X = xIB ∧ Q 1 σ1 ou) x1 σ := h
  intro p e s m args below meth c s₁ B hml hv
  obtain ⟨rfl, hsz, hP, hK, hD0, hN⟩ := hv
  subst hsz
  have hT : c.exceptionTable.toList = [⟨0, 9, 12, 39⟩] := vx_table (x := y_L_status) B (atoms_spec (ws := (Cond.codeWith y_L_status c_L_status 4 (some .int) [(0, 9, 12, 39)] :: TB)) B.pre _ List.mem_cons_self)
  have hD : va_D (wA 77 (fX cI cL cS ad) ad (oc cL ao ou :: wr) s.heap.size σ) (wW 77 (fX cI cL cS ad) ad σ ++ (oc cL ao ou :: wr)) := hD0.self (sz := s.heap.size)
  have hA : ∀ q : Nat, s.heap.size ≤ q → (wA 77 (fX cI cL cS ad) ad (oc cL ao ou :: wr) s.heap.size σ) q := fun q h => Or.inr h
  have hN : NX (wA 77 (fX cI cL cS ad) ad (oc cL ao ou :: wr) s.heap.size σ) s s.heap := hN
  generalize (wA 77 (fX cI cL cS ad) ad (oc cL ao ou :: wr) s.heap.size σ) = A at hD hA hN ⊢
  have C : wC TB "PreferenceCountLaw" c_L_status 4 (some .int) D cls (tyl cI cL cZ cS) A p s m ([.ref (ad 0), .int x1, .ref ao].toArray) meth c := ⟨B.exec, B.bytes, B.returns, B.notSynchronized, fun w hw => atoms_spec (ws := (Cond.codeWith y_L_status c_L_status 4 (some .int) [(0, 9, 12, 39)] :: TB)) B.pre w (List.mem_cons_of_mem _ hw), findClass_of_methodNamed B.named, hml, hK, hN, hA⟩
  have hx := C.1
  have hb := C.2.1
  have hts := C.2.2.2.2.1
  have hown := C.2.2.2.2.2.1
  have hS : va_S A s.heap s.heap [] := va_S.rf
  have hl := lv_entry ([.ref (ad 0), .int x1, .ref ao]) (n := 4) (Nat.le_of_ble_eq_true rfl)
  rw [lg_entry_eq]
  generalize (lg_sl ([.ref (ad 0), .int x1, .ref ao]) ++ List.replicate (4 - (lg_sl ([.ref (ad 0), .int x1, .ref ao])).length) Slot.unset).toArray = ls at hl ⊢
  have hl : lv_has ls 4 [(0, .ref (ad 0)), (1, .int x1), (2, .ref ao)] := hl
  refine lv_aload_n hx hb d_L_status_0 rfl (lv_at hl 2 rfl) ?_
  refine lv_iconst (v := 0) hx hb d_L_status_1 (by decide) ?_
  refine lv_aload_n hx hb d_L_status_2 rfl (lv_at hl 0 rfl) ?_
  refine lv_iload_n hx hb d_L_status_3 rfl (lv_at hl 1 rfl) ?_
  refine h_calli C hD hS (vx_runV (As := [.int x1]) (rest := [.int 0, .ref ao]) ⟨hx, hb, hml, hown, hts⟩ (m_C_status hlS h) (cwV 1 hts (g_V kw_445 kw_446 kw_447 kw_1 kw_448) rfl rfl rfl (by decide +kernel) ⟨(Nat.le_of_ble_eq_true rfl), (Nat.le_of_ble_eq_true rfl)⟩) (r_preV (o := 0) C hP hD hS (by decide) rfl rfl) rfl rfl hl.1 rfl (lv_room (Nat.le_of_ble_eq_true rfl)) d_L_status_4 ⟨(Nat.le_of_ble_eq_true rfl), (Nat.le_of_ble_eq_true rfl)⟩) (fun X ce q9 σ H locs h hP hD hS hce hcv hcl => ?_) (fun r σ H locs h hP hD hS => ?_)
  · obtain ⟨rfl, h⟩ := h
    refine vx_catch (name := xIB) hown [] ⟨0, 9, 12, 39⟩ [] hT (fun z hz => by cases hz) rfl (by decide) (hts _ kw_444) (va_Nw.use rfl (hN.2.1 _ xca_IB)) hce hcv hcl ?_
    refine lv_astore_n hx hb d_L_status_12 rfl hl (by decide) rfl (fun ls hl => ?_)
    refine lv_iconst (v := 1) hx hb d_L_status_13 (by decide) ?_
    exact o_iret C hP hD hS d_L_status_14 h
  · refine lv_i2l hx hb d_L_status_7 rfl ?_
    refine o_last C hP hD hS rfl d_L_status_8 (fun H locs hP hD hS => ?_)
    refine lv_goto hx hb d_L_status_9 rfl ?_
    refine lv_iconst (v := 0) hx hb d_L_status_15 (by decide) ?_
    exact o_iret C hP hD hS d_L_status_16 h
def wp_L_total (Q : Int32 → Mem → (Nat → Int64) → Prop) (ou : Nat → Int64) (x1 : Int32) (x2 : Int32) (x3 : Int32) (σ : Mem) : Prop := wp_C_total (fun r σ1 => Q 0 σ1 (vp_updL ou 0 r)) (fun X σ1 => X = xIB ∧ Q 1 σ1 ou) x1 x2 x3 σ
def rm_L_total : Room := { frames := 8, cells := 1, slots := 6, locals := 136 }
set_option maxHeartbeats 4000000 in
set_option maxRecDepth 100000 in
theorem m_L_total {l : Launch} {D : va_G} {cI cL cZ cS : ClassId} {ad : Nat → Nat} {wr : va_W} {sz : Nat} {ao : Nat} {ou : Nat → Int64} {Q : Int32 → Mem → (Nat → Int64) → Prop} {x1 : Int32} {x2 : Int32} {x3 : Int32} {σ : Mem} (hlS : l.stackTraces = false) (h : wp_L_total Q ou x1 x2 x3 σ) : Met l y_L_total (Cond.codeWith y_L_total c_L_total 6 (some .int) [(0, 11, 14, 39)] :: TB) rm_L_total (wPc D cls (tyl cI cL cZ cS) 77 (fX cI cL cS ad) ad (oc cL ao ou :: wr) sz σ [.ref (ad 0), .int x1, .int x2, .int x3, .ref ao]) (va_Qi (fun (r : Int32) (u : Mem × (Nat → Int64)) => Q r u.1 u.2) (oB D cls (tyl cI cL cZ cS) 77 (fX cI cL cS ad) ad cL ao wr (wA 77 (fX cI cL cS ad) ad (oc cL ao ou :: wr) sz σ)) (wA 77 (fX cI cL cS ad) ad (oc cL ao ou :: wr) sz σ)) 1 6 (wA 77 (fX cI cL cS ad) ad (oc cL ao ou :: wr) sz σ) := by
  refine va_MetW (hh := [(0, 11, 14, 39)]) (cc := c_L_total) (maxL := 6) (ret := (some .int)) (by decide) rfl ?_
  have h : wp_C_total (fun r σ1 => Q 0 σ1 (vp_updL ou 0 r)) (fun X σ1 => X = xIB ∧ Q 1 σ1 ou) x1 x2 x3 σ := h
  intro p e s m args below meth c s₁ B hml hv
  obtain ⟨rfl, hsz, hP, hK, hD0, hN⟩ := hv
  subst hsz
  have hT : c.exceptionTable.toList = [⟨0, 11, 14, 39⟩] := vx_table (x := y_L_total) B (atoms_spec (ws := (Cond.codeWith y_L_total c_L_total 6 (some .int) [(0, 11, 14, 39)] :: TB)) B.pre _ List.mem_cons_self)
  have hD : va_D (wA 77 (fX cI cL cS ad) ad (oc cL ao ou :: wr) s.heap.size σ) (wW 77 (fX cI cL cS ad) ad σ ++ (oc cL ao ou :: wr)) := hD0.self (sz := s.heap.size)
  have hA : ∀ q : Nat, s.heap.size ≤ q → (wA 77 (fX cI cL cS ad) ad (oc cL ao ou :: wr) s.heap.size σ) q := fun q h => Or.inr h
  have hN : NX (wA 77 (fX cI cL cS ad) ad (oc cL ao ou :: wr) s.heap.size σ) s s.heap := hN
  generalize (wA 77 (fX cI cL cS ad) ad (oc cL ao ou :: wr) s.heap.size σ) = A at hD hA hN ⊢
  have C : wC TB "PreferenceCountLaw" c_L_total 6 (some .int) D cls (tyl cI cL cZ cS) A p s m ([.ref (ad 0), .int x1, .int x2, .int x3, .ref ao].toArray) meth c := ⟨B.exec, B.bytes, B.returns, B.notSynchronized, fun w hw => atoms_spec (ws := (Cond.codeWith y_L_total c_L_total 6 (some .int) [(0, 11, 14, 39)] :: TB)) B.pre w (List.mem_cons_of_mem _ hw), findClass_of_methodNamed B.named, hml, hK, hN, hA⟩
  have hx := C.1
  have hb := C.2.1
  have hts := C.2.2.2.2.1
  have hown := C.2.2.2.2.2.1
  have hS : va_S A s.heap s.heap [] := va_S.rf
  have hl := lv_entry ([.ref (ad 0), .int x1, .int x2, .int x3, .ref ao]) (n := 6) (Nat.le_of_ble_eq_true rfl)
  rw [lg_entry_eq]
  generalize (lg_sl ([.ref (ad 0), .int x1, .int x2, .int x3, .ref ao]) ++ List.replicate (6 - (lg_sl ([.ref (ad 0), .int x1, .int x2, .int x3, .ref ao])).length) Slot.unset).toArray = ls at hl ⊢
  have hl : lv_has ls 6 [(0, .ref (ad 0)), (1, .int x1), (2, .int x2), (3, .int x3), (4, .ref ao)] := hl
  refine lv_aload hx hb d_L_total_0 (lv_at hl 4 rfl) ?_
  refine lv_iconst (v := 0) hx hb d_L_total_2 (by decide) ?_
  refine lv_aload_n hx hb d_L_total_3 rfl (lv_at hl 0 rfl) ?_
  refine lv_iload_n hx hb d_L_total_4 rfl (lv_at hl 1 rfl) ?_
  refine lv_iload_n hx hb d_L_total_5 rfl (lv_at hl 2 rfl) ?_
  refine lv_iload_n hx hb d_L_total_6 rfl (lv_at hl 3 rfl) ?_
  refine h_calll C hD hS (vx_runV (As := [.int x1, .int x2, .int x3]) (rest := [.int 0, .ref ao]) ⟨hx, hb, hml, hown, hts⟩ (m_C_total hlS h) (cwV 3 hts (g_V kw_468 kw_469 kw_470 kw_1 kw_471) rfl rfl rfl (by decide +kernel) ⟨(Nat.le_of_ble_eq_true rfl), (Nat.le_of_ble_eq_true rfl)⟩) (r_preV (o := 0) C hP hD hS (by decide) rfl rfl) rfl rfl hl.1 rfl (lv_room (Nat.le_of_ble_eq_true rfl)) d_L_total_7 ⟨(Nat.le_of_ble_eq_true rfl), (Nat.le_of_ble_eq_true rfl)⟩) (fun X ce q9 σ H locs h hP hD hS hce hcv hcl => ?_) (fun r σ H locs h hP hD hS => ?_)
  · obtain ⟨rfl, h⟩ := h
    refine vx_catch (name := xIB) hown [] ⟨0, 11, 14, 39⟩ [] hT (fun z hz => by cases hz) rfl (by decide) (hts _ kw_444) (va_Nw.use rfl (hN.2.1 _ xca_IB)) hce hcv hcl ?_
    refine lv_astore hx hb d_L_total_14 hl (by decide) rfl (fun ls hl => ?_)
    refine lv_iconst (v := 1) hx hb d_L_total_16 (by decide) ?_
    exact o_iret C hP hD hS d_L_total_17 h
  · refine o_last C hP hD hS rfl d_L_total_10 (fun H locs hP hD hS => ?_)
    refine lv_goto hx hb d_L_total_11 rfl ?_
    refine lv_iconst (v := 0) hx hb d_L_total_18 (by decide) ?_
    exact o_iret C hP hD hS d_L_total_19 h
def wp_L_papers (Q : Int32 → Mem → (Nat → Int64) → Prop) (ou : Nat → Int64) (x1 : Int32) (σ : Mem) : Prop := wp_C_papers (fun r σ1 => Q 0 σ1 (vp_updL ou 0 r.toInt64)) (fun X σ1 => X = xIB ∧ Q 1 σ1 ou) x1 σ
def rm_L_papers : Room := { frames := 7, cells := 1, slots := 6, locals := 111 }
set_option maxHeartbeats 4000000 in
set_option maxRecDepth 100000 in
theorem m_L_papers {l : Launch} {D : va_G} {cI cL cZ cS : ClassId} {ad : Nat → Nat} {wr : va_W} {sz : Nat} {ao : Nat} {ou : Nat → Int64} {Q : Int32 → Mem → (Nat → Int64) → Prop} {x1 : Int32} {σ : Mem} (hlS : l.stackTraces = false) (h : wp_L_papers Q ou x1 σ) : Met l y_L_papers (Cond.codeWith y_L_papers c_L_papers 4 (some .int) [(0, 9, 12, 39)] :: TB) rm_L_papers (wPc D cls (tyl cI cL cZ cS) 77 (fX cI cL cS ad) ad (oc cL ao ou :: wr) sz σ [.ref (ad 0), .int x1, .ref ao]) (va_Qi (fun (r : Int32) (u : Mem × (Nat → Int64)) => Q r u.1 u.2) (oB D cls (tyl cI cL cZ cS) 77 (fX cI cL cS ad) ad cL ao wr (wA 77 (fX cI cL cS ad) ad (oc cL ao ou :: wr) sz σ)) (wA 77 (fX cI cL cS ad) ad (oc cL ao ou :: wr) sz σ)) 1 6 (wA 77 (fX cI cL cS ad) ad (oc cL ao ou :: wr) sz σ) := by
  refine va_MetW (hh := [(0, 9, 12, 39)]) (cc := c_L_papers) (maxL := 4) (ret := (some .int)) (by decide) rfl ?_
  have h : wp_C_papers (fun r σ1 => Q 0 σ1 (vp_updL ou 0 r.toInt64)) (fun X σ1 => X = xIB ∧ Q 1 σ1 ou) x1 σ := h
  intro p e s m args below meth c s₁ B hml hv
  obtain ⟨rfl, hsz, hP, hK, hD0, hN⟩ := hv
  subst hsz
  have hT : c.exceptionTable.toList = [⟨0, 9, 12, 39⟩] := vx_table (x := y_L_papers) B (atoms_spec (ws := (Cond.codeWith y_L_papers c_L_papers 4 (some .int) [(0, 9, 12, 39)] :: TB)) B.pre _ List.mem_cons_self)
  have hD : va_D (wA 77 (fX cI cL cS ad) ad (oc cL ao ou :: wr) s.heap.size σ) (wW 77 (fX cI cL cS ad) ad σ ++ (oc cL ao ou :: wr)) := hD0.self (sz := s.heap.size)
  have hA : ∀ q : Nat, s.heap.size ≤ q → (wA 77 (fX cI cL cS ad) ad (oc cL ao ou :: wr) s.heap.size σ) q := fun q h => Or.inr h
  have hN : NX (wA 77 (fX cI cL cS ad) ad (oc cL ao ou :: wr) s.heap.size σ) s s.heap := hN
  generalize (wA 77 (fX cI cL cS ad) ad (oc cL ao ou :: wr) s.heap.size σ) = A at hD hA hN ⊢
  have C : wC TB "PreferenceCountLaw" c_L_papers 4 (some .int) D cls (tyl cI cL cZ cS) A p s m ([.ref (ad 0), .int x1, .ref ao].toArray) meth c := ⟨B.exec, B.bytes, B.returns, B.notSynchronized, fun w hw => atoms_spec (ws := (Cond.codeWith y_L_papers c_L_papers 4 (some .int) [(0, 9, 12, 39)] :: TB)) B.pre w (List.mem_cons_of_mem _ hw), findClass_of_methodNamed B.named, hml, hK, hN, hA⟩
  have hx := C.1
  have hb := C.2.1
  have hts := C.2.2.2.2.1
  have hown := C.2.2.2.2.2.1
  have hS : va_S A s.heap s.heap [] := va_S.rf
  have hl := lv_entry ([.ref (ad 0), .int x1, .ref ao]) (n := 4) (Nat.le_of_ble_eq_true rfl)
  rw [lg_entry_eq]
  generalize (lg_sl ([.ref (ad 0), .int x1, .ref ao]) ++ List.replicate (4 - (lg_sl ([.ref (ad 0), .int x1, .ref ao])).length) Slot.unset).toArray = ls at hl ⊢
  have hl : lv_has ls 4 [(0, .ref (ad 0)), (1, .int x1), (2, .ref ao)] := hl
  refine lv_aload_n hx hb d_L_papers_0 rfl (lv_at hl 2 rfl) ?_
  refine lv_iconst (v := 0) hx hb d_L_papers_1 (by decide) ?_
  refine lv_aload_n hx hb d_L_papers_2 rfl (lv_at hl 0 rfl) ?_
  refine lv_iload_n hx hb d_L_papers_3 rfl (lv_at hl 1 rfl) ?_
  refine h_calli C hD hS (vx_runV (As := [.int x1]) (rest := [.int 0, .ref ao]) ⟨hx, hb, hml, hown, hts⟩ (m_C_papers hlS h) (cwV 1 hts (g_V kw_484 kw_485 kw_486 kw_1 kw_487) rfl rfl rfl (by decide +kernel) ⟨(Nat.le_of_ble_eq_true rfl), (Nat.le_of_ble_eq_true rfl)⟩) (r_preV (o := 0) C hP hD hS (by decide) rfl rfl) rfl rfl hl.1 rfl (lv_room (Nat.le_of_ble_eq_true rfl)) d_L_papers_4 ⟨(Nat.le_of_ble_eq_true rfl), (Nat.le_of_ble_eq_true rfl)⟩) (fun X ce q9 σ H locs h hP hD hS hce hcv hcl => ?_) (fun r σ H locs h hP hD hS => ?_)
  · obtain ⟨rfl, h⟩ := h
    refine vx_catch (name := xIB) hown [] ⟨0, 9, 12, 39⟩ [] hT (fun z hz => by cases hz) rfl (by decide) (hts _ kw_444) (va_Nw.use rfl (hN.2.1 _ xca_IB)) hce hcv hcl ?_
    refine lv_astore_n hx hb d_L_papers_12 rfl hl (by decide) rfl (fun ls hl => ?_)
    refine lv_iconst (v := 1) hx hb d_L_papers_13 (by decide) ?_
    exact o_iret C hP hD hS d_L_papers_14 h
  · refine lv_i2l hx hb d_L_papers_7 rfl ?_
    refine o_last C hP hD hS rfl d_L_papers_8 (fun H locs hP hD hS => ?_)
    refine lv_goto hx hb d_L_papers_9 rfl ?_
    refine lv_iconst (v := 0) hx hb d_L_papers_15 (by decide) ?_
    exact o_iret C hP hD hS d_L_papers_16 h
def wp_L_moved (Q : Int32 → Mem → (Nat → Int64) → Prop) (ou : Nat → Int64) (x1 : Int32) (x2 : Int32) (σ : Mem) : Prop := wp_C_moved (fun r σ1 => Q 0 σ1 (vp_updL ou 0 r.toInt64)) (fun X σ1 => X = xIB ∧ Q 1 σ1 ou) x1 x2 σ
def rm_L_moved : Room := { frames := 8, cells := 1, slots := 6, locals := 134 }
set_option maxHeartbeats 4000000 in
set_option maxRecDepth 100000 in
theorem m_L_moved {l : Launch} {D : va_G} {cI cL cZ cS : ClassId} {ad : Nat → Nat} {wr : va_W} {sz : Nat} {ao : Nat} {ou : Nat → Int64} {Q : Int32 → Mem → (Nat → Int64) → Prop} {x1 : Int32} {x2 : Int32} {σ : Mem} (hlS : l.stackTraces = false) (h : wp_L_moved Q ou x1 x2 σ) : Met l y_L_moved (Cond.codeWith y_L_moved c_L_moved 5 (some .int) [(0, 10, 13, 39)] :: TB) rm_L_moved (wPc D cls (tyl cI cL cZ cS) 77 (fX cI cL cS ad) ad (oc cL ao ou :: wr) sz σ [.ref (ad 0), .int x1, .int x2, .ref ao]) (va_Qi (fun (r : Int32) (u : Mem × (Nat → Int64)) => Q r u.1 u.2) (oB D cls (tyl cI cL cZ cS) 77 (fX cI cL cS ad) ad cL ao wr (wA 77 (fX cI cL cS ad) ad (oc cL ao ou :: wr) sz σ)) (wA 77 (fX cI cL cS ad) ad (oc cL ao ou :: wr) sz σ)) 1 6 (wA 77 (fX cI cL cS ad) ad (oc cL ao ou :: wr) sz σ) := by
  refine va_MetW (hh := [(0, 10, 13, 39)]) (cc := c_L_moved) (maxL := 5) (ret := (some .int)) (by decide) rfl ?_
  have h : wp_C_moved (fun r σ1 => Q 0 σ1 (vp_updL ou 0 r.toInt64)) (fun X σ1 => X = xIB ∧ Q 1 σ1 ou) x1 x2 σ := h
  intro p e s m args below meth c s₁ B hml hv
  obtain ⟨rfl, hsz, hP, hK, hD0, hN⟩ := hv
  subst hsz
  have hT : c.exceptionTable.toList = [⟨0, 10, 13, 39⟩] := vx_table (x := y_L_moved) B (atoms_spec (ws := (Cond.codeWith y_L_moved c_L_moved 5 (some .int) [(0, 10, 13, 39)] :: TB)) B.pre _ List.mem_cons_self)
  have hD : va_D (wA 77 (fX cI cL cS ad) ad (oc cL ao ou :: wr) s.heap.size σ) (wW 77 (fX cI cL cS ad) ad σ ++ (oc cL ao ou :: wr)) := hD0.self (sz := s.heap.size)
  have hA : ∀ q : Nat, s.heap.size ≤ q → (wA 77 (fX cI cL cS ad) ad (oc cL ao ou :: wr) s.heap.size σ) q := fun q h => Or.inr h
  have hN : NX (wA 77 (fX cI cL cS ad) ad (oc cL ao ou :: wr) s.heap.size σ) s s.heap := hN
  generalize (wA 77 (fX cI cL cS ad) ad (oc cL ao ou :: wr) s.heap.size σ) = A at hD hA hN ⊢
  have C : wC TB "PreferenceCountLaw" c_L_moved 5 (some .int) D cls (tyl cI cL cZ cS) A p s m ([.ref (ad 0), .int x1, .int x2, .ref ao].toArray) meth c := ⟨B.exec, B.bytes, B.returns, B.notSynchronized, fun w hw => atoms_spec (ws := (Cond.codeWith y_L_moved c_L_moved 5 (some .int) [(0, 10, 13, 39)] :: TB)) B.pre w (List.mem_cons_of_mem _ hw), findClass_of_methodNamed B.named, hml, hK, hN, hA⟩
  have hx := C.1
  have hb := C.2.1
  have hts := C.2.2.2.2.1
  have hown := C.2.2.2.2.2.1
  have hS : va_S A s.heap s.heap [] := va_S.rf
  have hl := lv_entry ([.ref (ad 0), .int x1, .int x2, .ref ao]) (n := 5) (Nat.le_of_ble_eq_true rfl)
  rw [lg_entry_eq]
  generalize (lg_sl ([.ref (ad 0), .int x1, .int x2, .ref ao]) ++ List.replicate (5 - (lg_sl ([.ref (ad 0), .int x1, .int x2, .ref ao])).length) Slot.unset).toArray = ls at hl ⊢
  have hl : lv_has ls 5 [(0, .ref (ad 0)), (1, .int x1), (2, .int x2), (3, .ref ao)] := hl
  refine lv_aload_n hx hb d_L_moved_0 rfl (lv_at hl 3 rfl) ?_
  refine lv_iconst (v := 0) hx hb d_L_moved_1 (by decide) ?_
  refine lv_aload_n hx hb d_L_moved_2 rfl (lv_at hl 0 rfl) ?_
  refine lv_iload_n hx hb d_L_moved_3 rfl (lv_at hl 1 rfl) ?_
  refine lv_iload_n hx hb d_L_moved_4 rfl (lv_at hl 2 rfl) ?_
  refine h_calli C hD hS (vx_runV (As := [.int x1, .int x2]) (rest := [.int 0, .ref ao]) ⟨hx, hb, hml, hown, hts⟩ (m_C_moved hlS h) (cwV 2 hts (g_V kw_495 kw_496 kw_497 kw_1 kw_498) rfl rfl rfl (by decide +kernel) ⟨(Nat.le_of_ble_eq_true rfl), (Nat.le_of_ble_eq_true rfl)⟩) (r_preV (o := 0) C hP hD hS (by decide) rfl rfl) rfl rfl hl.1 rfl (lv_room (Nat.le_of_ble_eq_true rfl)) d_L_moved_5 ⟨(Nat.le_of_ble_eq_true rfl), (Nat.le_of_ble_eq_true rfl)⟩) (fun X ce q9 σ H locs h hP hD hS hce hcv hcl => ?_) (fun r σ H locs h hP hD hS => ?_)
  · obtain ⟨rfl, h⟩ := h
    refine vx_catch (name := xIB) hown [] ⟨0, 10, 13, 39⟩ [] hT (fun z hz => by cases hz) rfl (by decide) (hts _ kw_444) (va_Nw.use rfl (hN.2.1 _ xca_IB)) hce hcv hcl ?_
    refine lv_astore hx hb d_L_moved_13 hl (by decide) rfl (fun ls hl => ?_)
    refine lv_iconst (v := 1) hx hb d_L_moved_15 (by decide) ?_
    exact o_iret C hP hD hS d_L_moved_16 h
  · refine lv_i2l hx hb d_L_moved_8 rfl ?_
    refine o_last C hP hD hS rfl d_L_moved_9 (fun H locs hP hD hS => ?_)
    refine lv_goto hx hb d_L_moved_10 rfl ?_
    refine lv_iconst (v := 0) hx hb d_L_moved_17 (by decide) ?_
    exact o_iret C hP hD hS d_L_moved_18 h
