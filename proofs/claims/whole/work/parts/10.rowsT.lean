def rm_C_refuseOnceBegun : Room := { frames := 6, cells := 1, slots := 6, locals := 90 }
set_option maxHeartbeats 4000000 in
set_option maxRecDepth 100000 in
theorem m_C_refuseOnceBegun {l : Launch} {D : va_G} {cI cL cZ cS : ClassId} {ad : Nat → Nat} {wr : va_W} {sz : Nat} {Q : Mem → Prop} {E : String → Mem → Prop} {σ : Mem} (hlS : l.stackTraces = false) (h : wp_C_refuseOnceBegun Q E σ) : vx_Met l y_C_refuseOnceBegun (Cond.code y_C_refuseOnceBegun c_C_refuseOnceBegun 1 none :: TB) rm_C_refuseOnceBegun (wPc D cls (tyl cI cL cZ cS) 77 (fX cI cL cS ad) ad wr sz σ [.ref (ad 0)]) (va_Qv Q (wB D cls (tyl cI cL cZ cS) 77 (fX cI cL cS ad) ad wr (wA 77 (fX cI cL cS ad) ad wr sz σ)) (wA 77 (fX cI cL cS ad) ad wr sz σ)) (wX D cls (tyl cI cL cZ cS) 77 (fX cI cL cS ad) ad wr (wA 77 (fX cI cL cS ad) ad wr sz σ) E) 1 6 (wA 77 (fX cI cL cS ad) ad wr sz σ) := by
  refine vx_ofW (cc := c_C_refuseOnceBegun) (maxL := 1) (ret := none) (by decide) rfl ?_
  intro p e s m args below meth c s₁ B hml hX hv
  obtain ⟨rfl, hsz, hP, hK, hD0, hN⟩ := hv
  subst hsz
  have hD : va_D (wA 77 (fX cI cL cS ad) ad wr s.heap.size σ) (wW 77 (fX cI cL cS ad) ad σ ++ wr) := hD0.self (sz := s.heap.size)
  have hA : ∀ q : Nat, s.heap.size ≤ q → (wA 77 (fX cI cL cS ad) ad wr s.heap.size σ) q := fun q h => Or.inr h
  have hN : NX (wA 77 (fX cI cL cS ad) ad wr s.heap.size σ) s s.heap := hN
  generalize (wA 77 (fX cI cL cS ad) ad wr s.heap.size σ) = A at hD hA hN ⊢
  have C : wC TB "PreferenceCount" c_C_refuseOnceBegun 1 none D cls (tyl cI cL cZ cS) A p s m ([.ref (ad 0)].toArray) meth c := ⟨B.exec, B.bytes, B.returns, B.notSynchronized, fun w hw => atoms_spec (ws := Cond.code y_C_refuseOnceBegun c_C_refuseOnceBegun 1 none :: TB) B.pre w (List.mem_cons_of_mem _ hw), findClass_of_methodNamed B.named, hml, hK, hN, hA⟩
  have hx := C.1
  have hb := C.2.1
  have hts := C.2.2.2.2.1
  have hown := C.2.2.2.2.2.1
  have hS : va_S A s.heap s.heap [] := va_S.rf
  have hl := lv_entry ([.ref (ad 0)]) (n := 1) (Nat.le_of_ble_eq_true rfl)
  rw [lg_entry_eq]
  generalize (lg_sl ([.ref (ad 0)]) ++ List.replicate (1 - (lg_sl ([.ref (ad 0)])).length) Slot.unset).toArray = ls at hl ⊢
  have hl : lv_has ls 1 [(0, .ref (ad 0))] := hl
  have h : wp_C_hasBegun (fun r1 σ1 => (r1 = 0 → (Q σ1)) ∧ (¬ r1 = 0 → (E xIS σ1))) σ := h
  refine lv_aload_n hx hb d_C_refuseOnceBegun_0 rfl (lv_at hl 0 rfl) ?_
  refine r_calli C hD hS (va_runV (As := []) (rest := []) ⟨hx, hb, hml, hown, hts⟩ (m_C_hasBegun h) (cwV 0 hts (g_V kw_257 kw_259 kp_3 kw_1 kw_260) rfl rfl rfl (by decide +kernel) ⟨Nat.le_of_ble_eq_true rfl, Nat.le_of_ble_eq_true rfl⟩) (r_preV (o := 0) C hP hD hS (by decide) rfl rfl) rfl rfl hl.1 rfl (lv_room (Nat.le_of_ble_eq_true rfl)) d_C_refuseOnceBegun_1 ⟨Nat.le_of_ble_eq_true rfl, Nat.le_of_ble_eq_true rfl⟩) (fun r1 σ1 H locs h hP hD hS => ?_)
  refine lv_if_eq hx hb d_C_refuseOnceBegun_4 rfl (fun hc4 => ?_) (fun hc4 => ?_)
  · have h := h.1 hc4
    exact x_vret (Nat.le_of_ble_eq_true rfl) (Nat.le_of_ble_eq_true rfl) C hP hD hS d_C_refuseOnceBegun_17 h
  · have h := h.2 hc4
    exact x_throw (X := xIS) (text := "the count has begun") C hlS hX hP hD hS (by decide +kernel) kw_261 kw_12 (by decide +kernel) xat_IS xgo_IS hl.1 d_C_refuseOnceBegun_7 d_C_refuseOnceBegun_10 d_C_refuseOnceBegun_11 d_C_refuseOnceBegun_13 d_C_refuseOnceBegun_16 (Nat.le_of_ble_eq_true rfl) (Nat.le_of_ble_eq_true rfl) (Nat.le_of_ble_eq_true rfl) (Nat.le_of_ble_eq_true rfl) (Nat.le_of_ble_eq_true rfl) (Nat.le_of_ble_eq_true rfl) h
def rm_C_refuseUnknown : Room := { frames := 6, cells := 1, slots := 6, locals := 90 }
set_option maxHeartbeats 4000000 in
set_option maxRecDepth 100000 in
theorem b_C_refuseUnknown_23 {p : Program} {l : Launch} {e : Env} {s : State} {m : MethodId} {args : Array Value} {below : List Frame} {meth : Method} {c : Code} {D : va_G} {cI cL cZ cS : ClassId} {ad : Nat → Nat} {wr : va_W} {A : Nat → Prop} {Q : Mem → Prop} {E : String → Mem → Prop} {σ : Mem} {H : Heap} {locs : List Loc} {ls : Array Slot} (C : wC TB "PreferenceCount" c_C_refuseUnknown 3 none D cls (tyl cI cL cZ cS) A p s m args meth c) (hlS : l.stackTraces = false) (hX : ∀ x ∈ c.exceptionTable.toList, False) (h : wp_C_refuseUnknown_23 Q E σ) (hl : lv_has ls 3 []) (hP : va_P D cls (wW 77 (fX cI cL cS ad) ad σ ++ wr) H) (hD : va_D A (wW 77 (fX cI cL cS ad) ad σ ++ wr)) (hS : va_S A s.heap H locs) : W p l e (headSpec (Cond.code y_C_refuseUnknown c_C_refuseUnknown 3 none :: TB) rm_C_refuseUnknown).room s m args below meth c H locs 0 0 (vx_MQ below (va_Qv Q (wB D cls (tyl cI cL cZ cS) 77 (fX cI cL cS ad) ad wr A) A) (wX D cls (tyl cI cL cZ cS) 77 (fX cI cL cS ad) ad wr A E) args s 1 6 A) (F0 m 23 ls []) := by
  have hx := C.1
  have hb := C.2.1
  have hts := C.2.2.2.2.1
  have hown := C.2.2.2.2.2.1
  have hml := C.2.2.2.2.2.2.1
  have h : E xIB σ := h
  exact x_throw (X := xIB) (text := "no such stage or candidate") C hlS hX hP hD hS (by decide +kernel) kw_449 kw_15 (by decide +kernel) xat_IB xgo_IB hl.1 d_C_refuseUnknown_23 d_C_refuseUnknown_26 d_C_refuseUnknown_27 d_C_refuseUnknown_29 d_C_refuseUnknown_32 (Nat.le_of_ble_eq_true rfl) (Nat.le_of_ble_eq_true rfl) (Nat.le_of_ble_eq_true rfl) (Nat.le_of_ble_eq_true rfl) (Nat.le_of_ble_eq_true rfl) (Nat.le_of_ble_eq_true rfl) h
set_option maxHeartbeats 4000000 in
set_option maxRecDepth 100000 in
theorem m_C_refuseUnknown {l : Launch} {D : va_G} {cI cL cZ cS : ClassId} {ad : Nat → Nat} {wr : va_W} {sz : Nat} {Q : Mem → Prop} {E : String → Mem → Prop} {x1 : Int32} {x2 : Int32} {σ : Mem} (hlS : l.stackTraces = false) (h : wp_C_refuseUnknown Q E x1 x2 σ) : vx_Met l y_C_refuseUnknown (Cond.code y_C_refuseUnknown c_C_refuseUnknown 3 none :: TB) rm_C_refuseUnknown (wPc D cls (tyl cI cL cZ cS) 77 (fX cI cL cS ad) ad wr sz σ [.ref (ad 0), .int x1, .int x2]) (va_Qv Q (wB D cls (tyl cI cL cZ cS) 77 (fX cI cL cS ad) ad wr (wA 77 (fX cI cL cS ad) ad wr sz σ)) (wA 77 (fX cI cL cS ad) ad wr sz σ)) (wX D cls (tyl cI cL cZ cS) 77 (fX cI cL cS ad) ad wr (wA 77 (fX cI cL cS ad) ad wr sz σ) E) 1 6 (wA 77 (fX cI cL cS ad) ad wr sz σ) := by
  refine vx_ofW (cc := c_C_refuseUnknown) (maxL := 3) (ret := none) (by decide) rfl ?_
  intro p e s m args below meth c s₁ B hml hX hv
  obtain ⟨rfl, hsz, hP, hK, hD0, hN⟩ := hv
  subst hsz
  have hD : va_D (wA 77 (fX cI cL cS ad) ad wr s.heap.size σ) (wW 77 (fX cI cL cS ad) ad σ ++ wr) := hD0.self (sz := s.heap.size)
  have hA : ∀ q : Nat, s.heap.size ≤ q → (wA 77 (fX cI cL cS ad) ad wr s.heap.size σ) q := fun q h => Or.inr h
  have hN : NX (wA 77 (fX cI cL cS ad) ad wr s.heap.size σ) s s.heap := hN
  generalize (wA 77 (fX cI cL cS ad) ad wr s.heap.size σ) = A at hD hA hN ⊢
  have C : wC TB "PreferenceCount" c_C_refuseUnknown 3 none D cls (tyl cI cL cZ cS) A p s m ([.ref (ad 0), .int x1, .int x2].toArray) meth c := ⟨B.exec, B.bytes, B.returns, B.notSynchronized, fun w hw => atoms_spec (ws := Cond.code y_C_refuseUnknown c_C_refuseUnknown 3 none :: TB) B.pre w (List.mem_cons_of_mem _ hw), findClass_of_methodNamed B.named, hml, hK, hN, hA⟩
  have hx := C.1
  have hb := C.2.1
  have hts := C.2.2.2.2.1
  have hown := C.2.2.2.2.2.1
  have hS : va_S A s.heap s.heap [] := va_S.rf
  have hl := lv_entry ([.ref (ad 0), .int x1, .int x2]) (n := 3) (Nat.le_of_ble_eq_true rfl)
  rw [lg_entry_eq]
  generalize (lg_sl ([.ref (ad 0), .int x1, .int x2]) ++ List.replicate (3 - (lg_sl ([.ref (ad 0), .int x1, .int x2])).length) Slot.unset).toArray = ls at hl ⊢
  have hl : lv_has ls 3 [(0, .ref (ad 0)), (1, .int x1), (2, .int x2)] := hl
  have h : (x1 < 0 → (wp_C_refuseUnknown_23 Q E σ)) ∧ (¬ x1 < 0 → (((σ.1 0 4) < x1 → (wp_C_refuseUnknown_23 Q E σ)) ∧ (¬ (σ.1 0 4) < x1 → (wp_R_hasOrIsNobody (fun r17 σ17 => (r17 = 0 → (wp_C_refuseUnknown_23 Q E σ17)) ∧ (¬ r17 = 0 → (Q σ17))) x2 σ)))) := h
  refine lv_iload_n hx hb d_C_refuseUnknown_0 rfl (lv_at hl 1 rfl) ?_
  refine lv_if_lt hx hb d_C_refuseUnknown_1 rfl (fun hc1 => ?_) (fun hc1 => ?_)
  · have h := h.1 hc1
    exact b_C_refuseUnknown_23 C hlS hX h (lv_sub hl [] rfl) hP hD hS
  · have h := h.2 hc1
    refine lv_iload_n hx hb d_C_refuseUnknown_4 rfl (lv_at hl 1 rfl) ?_
    refine lv_aload_n hx hb d_C_refuseUnknown_5 rfl (lv_at hl 0 rfl) ?_
    refine r_get C ku_C hP (by decide) rfl rfl 4 (by decide) kw_136 rfl d_C_refuseUnknown_6 ?_
    refine lv_icmp_gt hx hb d_C_refuseUnknown_9 rfl (fun hc9 => ?_) (fun hc9 => ?_)
    · have h := h.1 hc9
      exact b_C_refuseUnknown_23 C hlS hX h (lv_sub hl [] rfl) hP hD hS
    · have h := h.2 hc9
      refine lv_aload_n hx hb d_C_refuseUnknown_12 rfl (lv_at hl 0 rfl) ?_
      refine r_get C ku_C hP (by decide) rfl rfl 0 (by decide) kw_132 rfl d_C_refuseUnknown_13 ?_
      refine lv_iload_n hx hb d_C_refuseUnknown_16 rfl (lv_at hl 2 rfl) ?_
      refine r_calli C hD hS (va_runV (As := [.int x2]) (rest := []) ⟨hx, hb, hml, hown, hts⟩ (m_R_hasOrIsNobody h) (cwV 1 hts (g_V kw_476 kw_477 kw_478 kw_2 kw_479) rfl rfl rfl (by decide +kernel) ⟨Nat.le_of_ble_eq_true rfl, Nat.le_of_ble_eq_true rfl⟩) (r_preV (o := 1) C hP hD hS (by decide) rfl rfl) rfl rfl hl.1 rfl (lv_room (Nat.le_of_ble_eq_true rfl)) d_C_refuseUnknown_17 ⟨Nat.le_of_ble_eq_true rfl, Nat.le_of_ble_eq_true rfl⟩) (fun r17 σ17 H locs h hP hD hS => ?_)
      refine lv_if_ne hx hb d_C_refuseUnknown_20 rfl (fun hc20 => ?_) (fun hc20 => ?_)
      · have h := h.2 hc20
        exact x_vret (Nat.le_of_ble_eq_true rfl) (Nat.le_of_ble_eq_true rfl) C hP hD hS d_C_refuseUnknown_33 h
      · have h := h.1 hc20
        exact b_C_refuseUnknown_23 C hlS hX h (lv_sub hl [] rfl) hP hD hS
def rm_C_begin : Room := { frames := 6, cells := 1, slots := 6, locals := 90 }
set_option maxHeartbeats 4000000 in
set_option maxRecDepth 100000 in
theorem b_C_begin_48 {p : Program} {l : Launch} {e : Env} {s : State} {m : MethodId} {args : Array Value} {below : List Frame} {meth : Method} {c : Code} {D : va_G} {cI cL cZ cS : ClassId} {ad : Nat → Nat} {wr : va_W} {A : Nat → Prop} {Q : Mem → Prop} {E : String → Mem → Prop} {σ : Mem} {H : Heap} {locs : List Loc} {ls : Array Slot} (C : wC TB "PreferenceCount" c_C_begin 5 none D cls (tyl cI cL cZ cS) A p s m args meth c) (hlS : l.stackTraces = false) (hX : ∀ x ∈ c.exceptionTable.toList, False) (h : wp_C_begin_48 Q E σ) (hl : lv_has ls 5 []) (hP : va_P D cls (wW 77 (fX cI cL cS ad) ad σ ++ wr) H) (hD : va_D A (wW 77 (fX cI cL cS ad) ad σ ++ wr)) (hS : va_S A s.heap H locs) : W p l e (headSpec (Cond.code y_C_begin c_C_begin 5 none :: TB) rm_C_begin).room s m args below meth c H locs 0 0 (vx_MQ below (va_Qv Q (wB D cls (tyl cI cL cZ cS) 77 (fX cI cL cS ad) ad wr A) A) (wX D cls (tyl cI cL cZ cS) 77 (fX cI cL cS ad) ad wr A E) args s 1 6 A) (F0 m 48 ls []) := by
  have hx := C.1
  have hb := C.2.1
  have hts := C.2.2.2.2.1
  have hown := C.2.2.2.2.2.1
  have hml := C.2.2.2.2.2.2.1
  have h : E xIA σ := h
  exact x_throw (X := xIA) (text := "2 to 12 candidates, 1 to 4 seats, fewer seats than candidates") C hlS hX hP hD hS (by decide +kernel) kw_177 kw_11 (by decide +kernel) xat_IA xgo_IA hl.1 d_C_begin_48 d_C_begin_51 d_C_begin_52 d_C_begin_54 d_C_begin_57 (Nat.le_of_ble_eq_true rfl) (Nat.le_of_ble_eq_true rfl) (Nat.le_of_ble_eq_true rfl) (Nat.le_of_ble_eq_true rfl) (Nat.le_of_ble_eq_true rfl) (Nat.le_of_ble_eq_true rfl) h
set_option maxHeartbeats 4000000 in
set_option maxRecDepth 100000 in
theorem b_C_begin_37 {p : Program} {l : Launch} {e : Env} {s : State} {m : MethodId} {args : Array Value} {below : List Frame} {meth : Method} {c : Code} {D : va_G} {cI cL cZ cS : ClassId} {ad : Nat → Nat} {wr : va_W} {A : Nat → Prop} {Q : Mem → Prop} {E : String → Mem → Prop} {x1 : Int32} {x2 : Int32} {x3 : Int32} {t0 : Int32} {σ : Mem} {H : Heap} {locs : List Loc} {ls : Array Slot} (C : wC TB "PreferenceCount" c_C_begin 5 none D cls (tyl cI cL cZ cS) A p s m args meth c) (hlS : l.stackTraces = false) (hX : ∀ x ∈ c.exceptionTable.toList, False) (h : wp_C_begin_37 Q E x1 x2 x3 t0 σ) (hl : lv_has ls 5 [(0, .ref (ad 0)), (1, .int x1), (2, .int x2), (3, .int x3)]) (hP : va_P D cls (wW 77 (fX cI cL cS ad) ad σ ++ wr) H) (hD : va_D A (wW 77 (fX cI cL cS ad) ad σ ++ wr)) (hS : va_S A s.heap H locs) : W p l e (headSpec (Cond.code y_C_begin c_C_begin 5 none :: TB) rm_C_begin).room s m args below meth c H locs 0 0 (vx_MQ below (va_Qv Q (wB D cls (tyl cI cL cZ cS) 77 (fX cI cL cS ad) ad wr A) A) (wX D cls (tyl cI cL cZ cS) 77 (fX cI cL cS ad) ad wr A E) args s 1 6 A) (F0 m 37 ls [.int t0]) := by
  have hx := C.1
  have hb := C.2.1
  have hts := C.2.2.2.2.1
  have hown := C.2.2.2.2.2.1
  have hml := C.2.2.2.2.2.2.1
  have h : (x3 = 0 → (wp_C_begin_48 Q E σ)) ∧ (¬ x3 = 0 → ((t0 = 0 → (wp_C_begin_48 Q E σ)) ∧ (¬ t0 = 0 → (wp_C_startAnew (fun σ61 => Q σ61) x1 x2 σ)))) := h
  refine lv_istore (lv' := [(4, .int t0), (0, .ref (ad 0)), (1, .int x1), (2, .int x2), (3, .int x3)]) hx hb d_C_begin_37 hl (by decide) rfl (fun ls hl => ?_)
  refine lv_iload_n hx hb d_C_begin_39 rfl (lv_at hl 4 rfl) ?_
  refine lv_if_eq hx hb d_C_begin_40 rfl (fun hc40 => ?_) (fun hc40 => ?_)
  · have h := h.1 hc40
    exact b_C_begin_48 C hlS hX h (lv_sub hl [] rfl) hP hD hS
  · have h := h.2 hc40
    refine lv_iload hx hb d_C_begin_43 (lv_at hl 0 rfl) ?_
    refine lv_if_ne hx hb d_C_begin_45 rfl (fun hc45 => ?_) (fun hc45 => ?_)
    · have h := h.2 hc45
      refine lv_aload_n hx hb d_C_begin_58 rfl (lv_at hl 1 rfl) ?_
      refine lv_iload_n hx hb d_C_begin_59 rfl (lv_at hl 2 rfl) ?_
      refine lv_iload_n hx hb d_C_begin_60 rfl (lv_at hl 3 rfl) ?_
      refine r_callv C hD hS (va_runV (As := [.int x1, .int x2]) (rest := []) ⟨hx, hb, hml, hown, hts⟩ (m_C_startAnew h) (cwV 2 hts (g_V kw_120 kw_122 kp_0 kw_1 kw_123) rfl rfl rfl (by decide +kernel) ⟨Nat.le_of_ble_eq_true rfl, Nat.le_of_ble_eq_true rfl⟩) (r_preV (o := 0) C hP hD hS (by decide) rfl rfl) rfl rfl hl.1 rfl (lv_room (Nat.le_of_ble_eq_true rfl)) d_C_begin_61 ⟨Nat.le_of_ble_eq_true rfl, Nat.le_of_ble_eq_true rfl⟩) (fun σ61 H locs h hP hD hS => ?_)
      exact x_vret (Nat.le_of_ble_eq_true rfl) (Nat.le_of_ble_eq_true rfl) C hP hD hS d_C_begin_64 h
    · have h := h.1 hc45
      exact b_C_begin_48 C hlS hX h (lv_sub hl [] rfl) hP hD hS
set_option maxHeartbeats 4000000 in
set_option maxRecDepth 100000 in
theorem b_C_begin_36 {p : Program} {l : Launch} {e : Env} {s : State} {m : MethodId} {args : Array Value} {below : List Frame} {meth : Method} {c : Code} {D : va_G} {cI cL cZ cS : ClassId} {ad : Nat → Nat} {wr : va_W} {A : Nat → Prop} {Q : Mem → Prop} {E : String → Mem → Prop} {x1 : Int32} {x2 : Int32} {x3 : Int32} {σ : Mem} {H : Heap} {locs : List Loc} {ls : Array Slot} (C : wC TB "PreferenceCount" c_C_begin 5 none D cls (tyl cI cL cZ cS) A p s m args meth c) (hlS : l.stackTraces = false) (hX : ∀ x ∈ c.exceptionTable.toList, False) (h : wp_C_begin_36 Q E x1 x2 x3 σ) (hl : lv_has ls 5 [(0, .ref (ad 0)), (1, .int x1), (2, .int x2), (3, .int x3)]) (hP : va_P D cls (wW 77 (fX cI cL cS ad) ad σ ++ wr) H) (hD : va_D A (wW 77 (fX cI cL cS ad) ad σ ++ wr)) (hS : va_S A s.heap H locs) : W p l e (headSpec (Cond.code y_C_begin c_C_begin 5 none :: TB) rm_C_begin).room s m args below meth c H locs 0 0 (vx_MQ below (va_Qv Q (wB D cls (tyl cI cL cZ cS) 77 (fX cI cL cS ad) ad wr A) A) (wX D cls (tyl cI cL cZ cS) 77 (fX cI cL cS ad) ad wr A E) args s 1 6 A) (F0 m 36 ls []) := by
  have hx := C.1
  have hb := C.2.1
  have hts := C.2.2.2.2.1
  have hown := C.2.2.2.2.2.1
  have hml := C.2.2.2.2.2.2.1
  have h : wp_C_begin_37 Q E x1 x2 x3 (0 : Int32) σ := h
  refine lv_iconst (v := 0) hx hb d_C_begin_36 (by decide) ?_
  exact b_C_begin_37 C hlS hX h (lv_sub hl [0, 1, 2, 3] rfl) hP hD hS
set_option maxHeartbeats 4000000 in
set_option maxRecDepth 100000 in
theorem b_C_begin_16 {p : Program} {l : Launch} {e : Env} {s : State} {m : MethodId} {args : Array Value} {below : List Frame} {meth : Method} {c : Code} {D : va_G} {cI cL cZ cS : ClassId} {ad : Nat → Nat} {wr : va_W} {A : Nat → Prop} {Q : Mem → Prop} {E : String → Mem → Prop} {x1 : Int32} {x2 : Int32} {t0 : Int32} {σ : Mem} {H : Heap} {locs : List Loc} {ls : Array Slot} (C : wC TB "PreferenceCount" c_C_begin 5 none D cls (tyl cI cL cZ cS) A p s m args meth c) (hlS : l.stackTraces = false) (hX : ∀ x ∈ c.exceptionTable.toList, False) (h : wp_C_begin_16 Q E x1 x2 t0 σ) (hl : lv_has ls 5 [(0, .ref (ad 0)), (1, .int x1), (2, .int x2)]) (hP : va_P D cls (wW 77 (fX cI cL cS ad) ad σ ++ wr) H) (hD : va_D A (wW 77 (fX cI cL cS ad) ad σ ++ wr)) (hS : va_S A s.heap H locs) : W p l e (headSpec (Cond.code y_C_begin c_C_begin 5 none :: TB) rm_C_begin).room s m args below meth c H locs 0 0 (vx_MQ below (va_Qv Q (wB D cls (tyl cI cL cZ cS) 77 (fX cI cL cS ad) ad wr A) A) (wX D cls (tyl cI cL cZ cS) 77 (fX cI cL cS ad) ad wr A E) args s 1 6 A) (F0 m 16 ls [.int t0]) := by
  have hx := C.1
  have hb := C.2.1
  have hts := C.2.2.2.2.1
  have hown := C.2.2.2.2.2.1
  have hml := C.2.2.2.2.2.2.1
  have h : (x2 < (1 : Int32) → (wp_C_begin_36 Q E x1 x2 t0 σ)) ∧ (¬ x2 < (1 : Int32) → (((4 : Int32) < x2 → (wp_C_begin_36 Q E x1 x2 t0 σ)) ∧ (¬ (4 : Int32) < x2 → ((x1 ≤ x2 → (wp_C_begin_36 Q E x1 x2 t0 σ)) ∧ (¬ x1 ≤ x2 → (wp_C_begin_37 Q E x1 x2 t0 (1 : Int32) σ)))))) := h
  refine lv_istore_n (lv' := [(3, .int t0), (0, .ref (ad 0)), (1, .int x1), (2, .int x2)]) hx hb d_C_begin_16 rfl hl (by decide) rfl (fun ls hl => ?_)
  refine lv_iload_n hx hb d_C_begin_17 rfl (lv_at hl 3 rfl) ?_
  refine lv_iconst (v := 1) hx hb d_C_begin_18 (by decide) ?_
  refine lv_icmp_lt hx hb d_C_begin_19 rfl (fun hc19 => ?_) (fun hc19 => ?_)
  · have h := h.1 hc19
    exact b_C_begin_36 C hlS hX h (lv_sub hl [1, 2, 3, 0] rfl) hP hD hS
  · have h := h.2 hc19
    refine lv_iload_n hx hb d_C_begin_22 rfl (lv_at hl 3 rfl) ?_
    refine lv_iconst (v := 4) hx hb d_C_begin_23 (by decide) ?_
    refine lv_icmp_gt hx hb d_C_begin_24 rfl (fun hc24 => ?_) (fun hc24 => ?_)
    · have h := h.1 hc24
      exact b_C_begin_36 C hlS hX h (lv_sub hl [1, 2, 3, 0] rfl) hP hD hS
    · have h := h.2 hc24
      refine lv_iload_n hx hb d_C_begin_27 rfl (lv_at hl 3 rfl) ?_
      refine lv_iload_n hx hb d_C_begin_28 rfl (lv_at hl 2 rfl) ?_
      refine lv_icmp_ge hx hb d_C_begin_29 rfl (fun hc29 => ?_) (fun hc29 => ?_)
      · have h := h.1 hc29
        exact b_C_begin_36 C hlS hX h (lv_sub hl [1, 2, 3, 0] rfl) hP hD hS
      · have h := h.2 hc29
        refine lv_iconst (v := 1) hx hb d_C_begin_32 (by decide) ?_
        refine lv_goto hx hb d_C_begin_33 rfl ?_
        exact b_C_begin_37 C hlS hX h (lv_sub hl [1, 2, 3, 0] rfl) hP hD hS
set_option maxHeartbeats 4000000 in
set_option maxRecDepth 100000 in
theorem b_C_begin_15 {p : Program} {l : Launch} {e : Env} {s : State} {m : MethodId} {args : Array Value} {below : List Frame} {meth : Method} {c : Code} {D : va_G} {cI cL cZ cS : ClassId} {ad : Nat → Nat} {wr : va_W} {A : Nat → Prop} {Q : Mem → Prop} {E : String → Mem → Prop} {x1 : Int32} {x2 : Int32} {σ : Mem} {H : Heap} {locs : List Loc} {ls : Array Slot} (C : wC TB "PreferenceCount" c_C_begin 5 none D cls (tyl cI cL cZ cS) A p s m args meth c) (hlS : l.stackTraces = false) (hX : ∀ x ∈ c.exceptionTable.toList, False) (h : wp_C_begin_15 Q E x1 x2 σ) (hl : lv_has ls 5 [(0, .ref (ad 0)), (1, .int x1), (2, .int x2)]) (hP : va_P D cls (wW 77 (fX cI cL cS ad) ad σ ++ wr) H) (hD : va_D A (wW 77 (fX cI cL cS ad) ad σ ++ wr)) (hS : va_S A s.heap H locs) : W p l e (headSpec (Cond.code y_C_begin c_C_begin 5 none :: TB) rm_C_begin).room s m args below meth c H locs 0 0 (vx_MQ below (va_Qv Q (wB D cls (tyl cI cL cZ cS) 77 (fX cI cL cS ad) ad wr A) A) (wX D cls (tyl cI cL cZ cS) 77 (fX cI cL cS ad) ad wr A E) args s 1 6 A) (F0 m 15 ls []) := by
  have hx := C.1
  have hb := C.2.1
  have hts := C.2.2.2.2.1
  have hown := C.2.2.2.2.2.1
  have hml := C.2.2.2.2.2.2.1
  have h : wp_C_begin_16 Q E x1 x2 (0 : Int32) σ := h
  refine lv_iconst (v := 0) hx hb d_C_begin_15 (by decide) ?_
  exact b_C_begin_16 C hlS hX h (lv_sub hl [0, 1, 2] rfl) hP hD hS
set_option maxHeartbeats 4000000 in
set_option maxRecDepth 100000 in
theorem m_C_begin {l : Launch} {D : va_G} {cI cL cZ cS : ClassId} {ad : Nat → Nat} {wr : va_W} {sz : Nat} {Q : Mem → Prop} {E : String → Mem → Prop} {x1 : Int32} {x2 : Int32} {σ : Mem} (hlS : l.stackTraces = false) (h : wp_C_begin Q E x1 x2 σ) : vx_Met l y_C_begin (Cond.code y_C_begin c_C_begin 5 none :: TB) rm_C_begin (wPc D cls (tyl cI cL cZ cS) 77 (fX cI cL cS ad) ad wr sz σ [.ref (ad 0), .int x1, .int x2]) (va_Qv Q (wB D cls (tyl cI cL cZ cS) 77 (fX cI cL cS ad) ad wr (wA 77 (fX cI cL cS ad) ad wr sz σ)) (wA 77 (fX cI cL cS ad) ad wr sz σ)) (wX D cls (tyl cI cL cZ cS) 77 (fX cI cL cS ad) ad wr (wA 77 (fX cI cL cS ad) ad wr sz σ) E) 1 6 (wA 77 (fX cI cL cS ad) ad wr sz σ) := by
  refine vx_ofW (cc := c_C_begin) (maxL := 5) (ret := none) (by decide) rfl ?_
  intro p e s m args below meth c s₁ B hml hX hv
  obtain ⟨rfl, hsz, hP, hK, hD0, hN⟩ := hv
  subst hsz
  have hD : va_D (wA 77 (fX cI cL cS ad) ad wr s.heap.size σ) (wW 77 (fX cI cL cS ad) ad σ ++ wr) := hD0.self (sz := s.heap.size)
  have hA : ∀ q : Nat, s.heap.size ≤ q → (wA 77 (fX cI cL cS ad) ad wr s.heap.size σ) q := fun q h => Or.inr h
  have hN : NX (wA 77 (fX cI cL cS ad) ad wr s.heap.size σ) s s.heap := hN
  generalize (wA 77 (fX cI cL cS ad) ad wr s.heap.size σ) = A at hD hA hN ⊢
  have C : wC TB "PreferenceCount" c_C_begin 5 none D cls (tyl cI cL cZ cS) A p s m ([.ref (ad 0), .int x1, .int x2].toArray) meth c := ⟨B.exec, B.bytes, B.returns, B.notSynchronized, fun w hw => atoms_spec (ws := Cond.code y_C_begin c_C_begin 5 none :: TB) B.pre w (List.mem_cons_of_mem _ hw), findClass_of_methodNamed B.named, hml, hK, hN, hA⟩
  have hx := C.1
  have hb := C.2.1
  have hts := C.2.2.2.2.1
  have hown := C.2.2.2.2.2.1
  have hS : va_S A s.heap s.heap [] := va_S.rf
  have hl := lv_entry ([.ref (ad 0), .int x1, .int x2]) (n := 5) (Nat.le_of_ble_eq_true rfl)
  rw [lg_entry_eq]
  generalize (lg_sl ([.ref (ad 0), .int x1, .int x2]) ++ List.replicate (5 - (lg_sl ([.ref (ad 0), .int x1, .int x2])).length) Slot.unset).toArray = ls at hl ⊢
  have hl : lv_has ls 5 [(0, .ref (ad 0)), (1, .int x1), (2, .int x2)] := hl
  have h : (x1 < (2 : Int32) → (wp_C_begin_15 Q E x1 x2 σ)) ∧ (¬ x1 < (2 : Int32) → (((12 : Int32) < x1 → (wp_C_begin_15 Q E x1 x2 σ)) ∧ (¬ (12 : Int32) < x1 → (wp_C_begin_16 Q E x1 x2 (1 : Int32) σ)))) := h
  refine lv_iload_n hx hb d_C_begin_0 rfl (lv_at hl 1 rfl) ?_
  refine lv_iconst (v := 2) hx hb d_C_begin_1 (by decide) ?_
  refine lv_icmp_lt hx hb d_C_begin_2 rfl (fun hc2 => ?_) (fun hc2 => ?_)
  · have h := h.1 hc2
    exact b_C_begin_15 C hlS hX h (lv_sub hl [0, 1, 2] rfl) hP hD hS
  · have h := h.2 hc2
    refine lv_iload_n hx hb d_C_begin_5 rfl (lv_at hl 1 rfl) ?_
    refine lv_bipush (v := 12) hx hb d_C_begin_6 (by decide) ?_
    refine lv_icmp_gt hx hb d_C_begin_8 rfl (fun hc8 => ?_) (fun hc8 => ?_)
    · have h := h.1 hc8
      exact b_C_begin_15 C hlS hX h (lv_sub hl [0, 1, 2] rfl) hP hD hS
    · have h := h.2 hc8
      refine lv_iconst (v := 1) hx hb d_C_begin_11 (by decide) ?_
      refine lv_goto hx hb d_C_begin_12 rfl ?_
      exact b_C_begin_16 C hlS hX h (lv_sub hl [0, 1, 2] rfl) hP hD hS
def rm_C_draw : Room := { frames := 7, cells := 2, slots := 12, locals := 110 }
set_option maxHeartbeats 4000000 in
set_option maxRecDepth 100000 in
theorem b_C_draw_48 {p : Program} {l : Launch} {e : Env} {s : State} {m : MethodId} {args : Array Value} {below : List Frame} {meth : Method} {c : Code} {D : va_G} {cI cL cZ cS : ClassId} {ad : Nat → Nat} {wr : va_W} {A : Nat → Prop} {Q : Mem → Prop} {E : String → Mem → Prop} {σ : Mem} {H : Heap} {locs : List Loc} {ls : Array Slot} (C : wC TB "PreferenceCount" c_C_draw 4 none D cls (tyl cI cL cZ cS) A p s m args meth c) (hlS : l.stackTraces = false) (hX : ∀ x ∈ c.exceptionTable.toList, False) (h : wp_C_draw_48 Q E σ) (hl : lv_has ls 4 []) (hP : va_P D cls (wW 77 (fX cI cL cS ad) ad σ ++ wr) H) (hD : va_D A (wW 77 (fX cI cL cS ad) ad σ ++ wr)) (hS : va_S A s.heap H locs) : W p l e (headSpec (Cond.code y_C_draw c_C_draw 4 none :: TB) rm_C_draw).room s m args below meth c H locs 1 6 (vx_MQ below (va_Qv Q (wB D cls (tyl cI cL cZ cS) 77 (fX cI cL cS ad) ad wr A) A) (wX D cls (tyl cI cL cZ cS) 77 (fX cI cL cS ad) ad wr A E) args s 2 12 A) (F0 m 48 ls []) := by
  have hx := C.1
  have hb := C.2.1
  have hts := C.2.2.2.2.1
  have hown := C.2.2.2.2.2.1
  have hml := C.2.2.2.2.2.2.1
  have h : E xIA σ := h
  exact x_throw (X := xIA) (text := "no such candidate, or a number that is not free from 0 to 999") C hlS hX hP hD hS (by decide +kernel) kw_177 kw_11 (by decide +kernel) xat_IA xgo_IA hl.1 d_C_draw_48 d_C_draw_51 d_C_draw_52 d_C_draw_54 d_C_draw_57 (Nat.le_of_ble_eq_true rfl) (Nat.le_of_ble_eq_true rfl) (Nat.le_of_ble_eq_true rfl) (Nat.le_of_ble_eq_true rfl) (Nat.le_of_ble_eq_true rfl) (Nat.le_of_ble_eq_true rfl) h
set_option maxHeartbeats 4000000 in
set_option maxRecDepth 100000 in
theorem b_C_draw_20 {p : Program} {l : Launch} {e : Env} {s : State} {m : MethodId} {args : Array Value} {below : List Frame} {meth : Method} {c : Code} {D : va_G} {cI cL cZ cS : ClassId} {ad : Nat → Nat} {wr : va_W} {A : Nat → Prop} {Q : Mem → Prop} {E : String → Mem → Prop} {x1 : Int32} {x2 : Int32} {t0 : Int32} {σ : Mem} {H : Heap} {locs : List Loc} {ls : Array Slot} (C : wC TB "PreferenceCount" c_C_draw 4 none D cls (tyl cI cL cZ cS) A p s m args meth c) (hlS : l.stackTraces = false) (hX : ∀ x ∈ c.exceptionTable.toList, False) (h : wp_C_draw_20 Q E x1 x2 t0 σ) (hl : lv_has ls 4 [(0, .ref (ad 0)), (1, .int x1), (2, .int x2)]) (hP : va_P D cls (wW 77 (fX cI cL cS ad) ad σ ++ wr) H) (hD : va_D A (wW 77 (fX cI cL cS ad) ad σ ++ wr)) (hS : va_S A s.heap H locs) : W p l e (headSpec (Cond.code y_C_draw c_C_draw 4 none :: TB) rm_C_draw).room s m args below meth c H locs 1 6 (vx_MQ below (va_Qv Q (wB D cls (tyl cI cL cZ cS) 77 (fX cI cL cS ad) ad wr A) A) (wX D cls (tyl cI cL cZ cS) 77 (fX cI cL cS ad) ad wr A E) args s 2 12 A) (F0 m 20 ls [.int t0]) := by
  have hx := C.1
  have hb := C.2.1
  have hts := C.2.2.2.2.1
  have hown := C.2.2.2.2.2.1
  have hml := C.2.2.2.2.2.2.1
  have h : wp_R_has (fun r26 σ26 => (r26 = 0 → (wp_C_draw_48 Q E σ26)) ∧ (¬ r26 = 0 → ((t0 = 0 → (wp_C_draw_48 Q E σ26)) ∧ (¬ t0 = 0 → (wp_R_anotherHasDraw (fun r42 σ42 => (r42 = 0 → (vp_in x1 12 ∧ (∀ σ67 : Mem, σ67 = mI σ42 2 (Int32.toNatClampNeg x1) x2 → (Q σ67)))) ∧ (¬ r42 = 0 → (wp_C_draw_48 Q E σ42))) x1 x2 σ26))))) x1 σ := h
  refine lv_istore_n (lv' := [(3, .int t0), (0, .ref (ad 0)), (1, .int x1), (2, .int x2)]) hx hb d_C_draw_20 rfl hl (by decide) rfl (fun ls hl => ?_)
  refine lv_aload_n hx hb d_C_draw_21 rfl (lv_at hl 1 rfl) ?_
  refine r_get C ku_C hP (by decide) rfl rfl 0 (by decide) kw_132 rfl d_C_draw_22 ?_
  refine lv_iload_n hx hb d_C_draw_25 rfl (lv_at hl 2 rfl) ?_
  refine r_calli C hD hS (va_runV (As := [.int x1]) (rest := []) ⟨hx, hb, hml, hown, hts⟩ (m_R_has h) (cwV 1 hts (g_V kw_277 kw_278 kw_279 kw_2 kw_280) rfl rfl rfl (by decide +kernel) ⟨Nat.le_of_ble_eq_true rfl, Nat.le_of_ble_eq_true rfl⟩) (r_preV (o := 1) C hP hD hS (by decide) rfl rfl) rfl rfl hl.1 rfl (lv_room (Nat.le_of_ble_eq_true rfl)) d_C_draw_26 ⟨Nat.le_of_ble_eq_true rfl, Nat.le_of_ble_eq_true rfl⟩) (fun r26 σ26 H locs h hP hD hS => ?_)
  refine lv_if_eq hx hb d_C_draw_29 rfl (fun hc29 => ?_) (fun hc29 => ?_)
  · have h := h.1 hc29
    exact b_C_draw_48 C hlS hX h (lv_sub hl [] rfl) hP hD hS
  · have h := h.2 hc29
    refine lv_iload_n hx hb d_C_draw_32 rfl (lv_at hl 0 rfl) ?_
    refine lv_if_eq hx hb d_C_draw_33 rfl (fun hc33 => ?_) (fun hc33 => ?_)
    · have h := h.1 hc33
      exact b_C_draw_48 C hlS hX h (lv_sub hl [] rfl) hP hD hS
    · have h := h.2 hc33
      refine lv_aload_n hx hb d_C_draw_36 rfl (lv_at hl 1 rfl) ?_
      refine r_get C ku_C hP (by decide) rfl rfl 0 (by decide) kw_132 rfl d_C_draw_37 ?_
      refine lv_iload_n hx hb d_C_draw_40 rfl (lv_at hl 2 rfl) ?_
      refine lv_iload_n hx hb d_C_draw_41 rfl (lv_at hl 3 rfl) ?_
      refine r_calli C hD hS (va_runV (As := [.int x1, .int x2]) (rest := []) ⟨hx, hb, hml, hown, hts⟩ (m_R_anotherHasDraw h) (cwV 2 hts (g_V kw_281 kw_282 kw_283 kw_2 kw_284) rfl rfl rfl (by decide +kernel) ⟨Nat.le_of_ble_eq_true rfl, Nat.le_of_ble_eq_true rfl⟩) (r_preV (o := 1) C hP hD hS (by decide) rfl rfl) rfl rfl hl.1 rfl (lv_room (Nat.le_of_ble_eq_true rfl)) d_C_draw_42 ⟨Nat.le_of_ble_eq_true rfl, Nat.le_of_ble_eq_true rfl⟩) (fun r42 σ42 H locs h hP hD hS => ?_)
      refine lv_if_eq hx hb d_C_draw_45 rfl (fun hc45 => ?_) (fun hc45 => ?_)
      · have h := h.1 hc45
        refine lv_aload_n hx hb d_C_draw_58 rfl (lv_at hl 1 rfl) ?_
        refine r_get C ku_C hP (by decide) rfl rfl 0 (by decide) kw_132 rfl d_C_draw_59 ?_
        refine r_get C ku_R hP (by decide) rfl rfl 0 (by decide) kw_31 rfl d_C_draw_62 ?_
        refine lv_iload_n hx hb d_C_draw_65 rfl (lv_at hl 2 rfl) ?_
        refine lv_iload_n hx hb d_C_draw_66 rfl (lv_at hl 3 rfl) ?_
        obtain ⟨hi67, h⟩ := h
        refine r_iast C hP hD hS (by decide) (fun _ _ => rfl) rfl hi67 d_C_draw_67 (fun σ67 e67 H locs hP hD hS => ?_)
        have h := h σ67 e67
        exact x_vret (Nat.le_of_ble_eq_true rfl) (Nat.le_of_ble_eq_true rfl) C hP hD hS d_C_draw_68 h
      · have h := h.2 hc45
        exact b_C_draw_48 C hlS hX h (lv_sub hl [] rfl) hP hD hS
set_option maxHeartbeats 4000000 in
set_option maxRecDepth 100000 in
theorem b_C_draw_19 {p : Program} {l : Launch} {e : Env} {s : State} {m : MethodId} {args : Array Value} {below : List Frame} {meth : Method} {c : Code} {D : va_G} {cI cL cZ cS : ClassId} {ad : Nat → Nat} {wr : va_W} {A : Nat → Prop} {Q : Mem → Prop} {E : String → Mem → Prop} {x1 : Int32} {x2 : Int32} {σ : Mem} {H : Heap} {locs : List Loc} {ls : Array Slot} (C : wC TB "PreferenceCount" c_C_draw 4 none D cls (tyl cI cL cZ cS) A p s m args meth c) (hlS : l.stackTraces = false) (hX : ∀ x ∈ c.exceptionTable.toList, False) (h : wp_C_draw_19 Q E x1 x2 σ) (hl : lv_has ls 4 [(0, .ref (ad 0)), (1, .int x1), (2, .int x2)]) (hP : va_P D cls (wW 77 (fX cI cL cS ad) ad σ ++ wr) H) (hD : va_D A (wW 77 (fX cI cL cS ad) ad σ ++ wr)) (hS : va_S A s.heap H locs) : W p l e (headSpec (Cond.code y_C_draw c_C_draw 4 none :: TB) rm_C_draw).room s m args below meth c H locs 1 6 (vx_MQ below (va_Qv Q (wB D cls (tyl cI cL cZ cS) 77 (fX cI cL cS ad) ad wr A) A) (wX D cls (tyl cI cL cZ cS) 77 (fX cI cL cS ad) ad wr A E) args s 2 12 A) (F0 m 19 ls []) := by
  have hx := C.1
  have hb := C.2.1
  have hts := C.2.2.2.2.1
  have hown := C.2.2.2.2.2.1
  have hml := C.2.2.2.2.2.2.1
  have h : wp_C_draw_20 Q E x1 x2 (0 : Int32) σ := h
  refine lv_iconst (v := 0) hx hb d_C_draw_19 (by decide) ?_
  exact b_C_draw_20 C hlS hX h (lv_sub hl [0, 1, 2] rfl) hP hD hS
set_option maxHeartbeats 4000000 in
set_option maxRecDepth 100000 in
theorem m_C_draw {l : Launch} {D : va_G} {cI cL cZ cS : ClassId} {ad : Nat → Nat} {wr : va_W} {sz : Nat} {Q : Mem → Prop} {E : String → Mem → Prop} {x1 : Int32} {x2 : Int32} {σ : Mem} (hlS : l.stackTraces = false) (h : wp_C_draw Q E x1 x2 σ) : vx_Met l y_C_draw (Cond.code y_C_draw c_C_draw 4 none :: TB) rm_C_draw (wPc D cls (tyl cI cL cZ cS) 77 (fX cI cL cS ad) ad wr sz σ [.ref (ad 0), .int x1, .int x2]) (va_Qv Q (wB D cls (tyl cI cL cZ cS) 77 (fX cI cL cS ad) ad wr (wA 77 (fX cI cL cS ad) ad wr sz σ)) (wA 77 (fX cI cL cS ad) ad wr sz σ)) (wX D cls (tyl cI cL cZ cS) 77 (fX cI cL cS ad) ad wr (wA 77 (fX cI cL cS ad) ad wr sz σ) E) 2 12 (wA 77 (fX cI cL cS ad) ad wr sz σ) := by
  refine vx_ofW (cc := c_C_draw) (maxL := 4) (ret := none) (by decide) rfl ?_
  intro p e s m args below meth c s₁ B hml hX hv
  obtain ⟨rfl, hsz, hP, hK, hD0, hN⟩ := hv
  subst hsz
  have hD : va_D (wA 77 (fX cI cL cS ad) ad wr s.heap.size σ) (wW 77 (fX cI cL cS ad) ad σ ++ wr) := hD0.self (sz := s.heap.size)
  have hA : ∀ q : Nat, s.heap.size ≤ q → (wA 77 (fX cI cL cS ad) ad wr s.heap.size σ) q := fun q h => Or.inr h
  have hN : NX (wA 77 (fX cI cL cS ad) ad wr s.heap.size σ) s s.heap := hN
  generalize (wA 77 (fX cI cL cS ad) ad wr s.heap.size σ) = A at hD hA hN ⊢
  have C : wC TB "PreferenceCount" c_C_draw 4 none D cls (tyl cI cL cZ cS) A p s m ([.ref (ad 0), .int x1, .int x2].toArray) meth c := ⟨B.exec, B.bytes, B.returns, B.notSynchronized, fun w hw => atoms_spec (ws := Cond.code y_C_draw c_C_draw 4 none :: TB) B.pre w (List.mem_cons_of_mem _ hw), findClass_of_methodNamed B.named, hml, hK, hN, hA⟩
  have hx := C.1
  have hb := C.2.1
  have hts := C.2.2.2.2.1
  have hown := C.2.2.2.2.2.1
  have hS : va_S A s.heap s.heap [] := va_S.rf
  have hl := lv_entry ([.ref (ad 0), .int x1, .int x2]) (n := 4) (Nat.le_of_ble_eq_true rfl)
  rw [lg_entry_eq]
  generalize (lg_sl ([.ref (ad 0), .int x1, .int x2]) ++ List.replicate (4 - (lg_sl ([.ref (ad 0), .int x1, .int x2])).length) Slot.unset).toArray = ls at hl ⊢
  have hl : lv_has ls 4 [(0, .ref (ad 0)), (1, .int x1), (2, .int x2)] := hl
  have h : wp_C_refuseOnceBegun (fun σ1 => (x2 < 0 → (wp_C_draw_19 Q E x1 x2 σ1)) ∧ (¬ x2 < 0 → (((999 : Int32) < x2 → (wp_C_draw_19 Q E x1 x2 σ1)) ∧ (¬ (999 : Int32) < x2 → (wp_C_draw_20 Q E x1 x2 (1 : Int32) σ1))))) E σ := h
  refine lv_aload_n hx hb d_C_draw_0 rfl (lv_at hl 0 rfl) ?_
  refine x_callv C hX hD hS (Nat.le_of_ble_eq_true rfl) (Nat.le_of_ble_eq_true rfl) (vx_runV (As := []) (rest := []) ⟨hx, hb, hml, hown, hts⟩ (m_C_refuseOnceBegun hlS h) (cwV 0 hts (g_V kw_253 kw_255 kp_2 kw_1 kw_256) rfl rfl rfl (by decide +kernel) ⟨Nat.le_of_ble_eq_true rfl, Nat.le_of_ble_eq_true rfl⟩) (r_preV (o := 0) C hP hD hS (by decide) rfl rfl) rfl rfl hl.1 rfl (lv_room (Nat.le_of_ble_eq_true rfl)) d_C_draw_1 ⟨Nat.le_of_ble_eq_true rfl, Nat.le_of_ble_eq_true rfl⟩) (fun σ1 H locs h hP hD hS => ?_)
  refine lv_iload_n hx hb d_C_draw_4 rfl (lv_at hl 2 rfl) ?_
  refine lv_if_lt hx hb d_C_draw_5 rfl (fun hc5 => ?_) (fun hc5 => ?_)
  · have h := h.1 hc5
    exact b_C_draw_19 C hlS hX h (lv_sub hl [0, 1, 2] rfl) hP hD hS
  · have h := h.2 hc5
    refine lv_iload_n hx hb d_C_draw_8 rfl (lv_at hl 2 rfl) ?_
    refine lv_sipush (v := 999) hx hb d_C_draw_9 (by decide) ?_
    refine lv_icmp_gt hx hb d_C_draw_12 rfl (fun hc12 => ?_) (fun hc12 => ?_)
    · have h := h.1 hc12
      exact b_C_draw_19 C hlS hX h (lv_sub hl [0, 1, 2] rfl) hP hD hS
    · have h := h.2 hc12
      refine lv_iconst (v := 1) hx hb d_C_draw_15 (by decide) ?_
      refine lv_goto hx hb d_C_draw_16 rfl ?_
      exact b_C_draw_20 C hlS hX h (lv_sub hl [0, 1, 2] rfl) hP hD hS
def rm_C_withdraw : Room := { frames := 7, cells := 2, slots := 12, locals := 110 }
set_option maxHeartbeats 4000000 in
set_option maxRecDepth 100000 in
theorem b_C_withdraw_42 {p : Program} {l : Launch} {e : Env} {s : State} {m : MethodId} {args : Array Value} {below : List Frame} {meth : Method} {c : Code} {D : va_G} {cI cL cZ cS : ClassId} {ad : Nat → Nat} {wr : va_W} {A : Nat → Prop} {Q : Mem → Prop} {E : String → Mem → Prop} {σ : Mem} {H : Heap} {locs : List Loc} {ls : Array Slot} (C : wC TB "PreferenceCount" c_C_withdraw 2 none D cls (tyl cI cL cZ cS) A p s m args meth c) (hlS : l.stackTraces = false) (hX : ∀ x ∈ c.exceptionTable.toList, False) (h : wp_C_withdraw_42 Q E σ) (hl : lv_has ls 2 []) (hP : va_P D cls (wW 77 (fX cI cL cS ad) ad σ ++ wr) H) (hD : va_D A (wW 77 (fX cI cL cS ad) ad σ ++ wr)) (hS : va_S A s.heap H locs) : W p l e (headSpec (Cond.code y_C_withdraw c_C_withdraw 2 none :: TB) rm_C_withdraw).room s m args below meth c H locs 1 6 (vx_MQ below (va_Qv Q (wB D cls (tyl cI cL cZ cS) 77 (fX cI cL cS ad) ad wr A) A) (wX D cls (tyl cI cL cZ cS) 77 (fX cI cL cS ad) ad wr A E) args s 2 12 A) (F0 m 42 ls []) := by
  have hx := C.1
  have hb := C.2.1
  have hts := C.2.2.2.2.1
  have hown := C.2.2.2.2.2.1
  have hml := C.2.2.2.2.2.2.1
  have h : E xIA σ := h
  exact x_throw (X := xIA) (text := "no such candidate, withdrawn already, or too few would be left") C hlS hX hP hD hS (by decide +kernel) kw_177 kw_11 (by decide +kernel) xat_IA xgo_IA hl.1 d_C_withdraw_42 d_C_withdraw_45 d_C_withdraw_46 d_C_withdraw_48 d_C_withdraw_51 (Nat.le_of_ble_eq_true rfl) (Nat.le_of_ble_eq_true rfl) (Nat.le_of_ble_eq_true rfl) (Nat.le_of_ble_eq_true rfl) (Nat.le_of_ble_eq_true rfl) (Nat.le_of_ble_eq_true rfl) h
set_option maxHeartbeats 4000000 in
set_option maxRecDepth 100000 in
theorem m_C_withdraw {l : Launch} {D : va_G} {cI cL cZ cS : ClassId} {ad : Nat → Nat} {wr : va_W} {sz : Nat} {Q : Mem → Prop} {E : String → Mem → Prop} {x1 : Int32} {σ : Mem} (hlS : l.stackTraces = false) (h : wp_C_withdraw Q E x1 σ) : vx_Met l y_C_withdraw (Cond.code y_C_withdraw c_C_withdraw 2 none :: TB) rm_C_withdraw (wPc D cls (tyl cI cL cZ cS) 77 (fX cI cL cS ad) ad wr sz σ [.ref (ad 0), .int x1]) (va_Qv Q (wB D cls (tyl cI cL cZ cS) 77 (fX cI cL cS ad) ad wr (wA 77 (fX cI cL cS ad) ad wr sz σ)) (wA 77 (fX cI cL cS ad) ad wr sz σ)) (wX D cls (tyl cI cL cZ cS) 77 (fX cI cL cS ad) ad wr (wA 77 (fX cI cL cS ad) ad wr sz σ) E) 2 12 (wA 77 (fX cI cL cS ad) ad wr sz σ) := by
  refine vx_ofW (cc := c_C_withdraw) (maxL := 2) (ret := none) (by decide) rfl ?_
  intro p e s m args below meth c s₁ B hml hX hv
  obtain ⟨rfl, hsz, hP, hK, hD0, hN⟩ := hv
  subst hsz
  have hD : va_D (wA 77 (fX cI cL cS ad) ad wr s.heap.size σ) (wW 77 (fX cI cL cS ad) ad σ ++ wr) := hD0.self (sz := s.heap.size)
  have hA : ∀ q : Nat, s.heap.size ≤ q → (wA 77 (fX cI cL cS ad) ad wr s.heap.size σ) q := fun q h => Or.inr h
  have hN : NX (wA 77 (fX cI cL cS ad) ad wr s.heap.size σ) s s.heap := hN
  generalize (wA 77 (fX cI cL cS ad) ad wr s.heap.size σ) = A at hD hA hN ⊢
  have C : wC TB "PreferenceCount" c_C_withdraw 2 none D cls (tyl cI cL cZ cS) A p s m ([.ref (ad 0), .int x1].toArray) meth c := ⟨B.exec, B.bytes, B.returns, B.notSynchronized, fun w hw => atoms_spec (ws := Cond.code y_C_withdraw c_C_withdraw 2 none :: TB) B.pre w (List.mem_cons_of_mem _ hw), findClass_of_methodNamed B.named, hml, hK, hN, hA⟩
  have hx := C.1
  have hb := C.2.1
  have hts := C.2.2.2.2.1
  have hown := C.2.2.2.2.2.1
  have hS : va_S A s.heap s.heap [] := va_S.rf
  have hl := lv_entry ([.ref (ad 0), .int x1]) (n := 2) (Nat.le_of_ble_eq_true rfl)
  rw [lg_entry_eq]
  generalize (lg_sl ([.ref (ad 0), .int x1]) ++ List.replicate (2 - (lg_sl ([.ref (ad 0), .int x1])).length) Slot.unset).toArray = ls at hl ⊢
  have hl : lv_has ls 2 [(0, .ref (ad 0)), (1, .int x1)] := hl
  have h : wp_C_refuseOnceBegun (fun σ1 => wp_R_has (fun r9 σ9 => (r9 = 0 → (wp_C_withdraw_42 Q E σ9)) ∧ (¬ r9 = 0 → (wp_R_isContinuing (fun r20 σ20 => (r20 = 0 → (wp_C_withdraw_42 Q E σ20)) ∧ (¬ r20 = 0 → (wp_R_continuing (fun r30 σ30 => (((σ30.1 0 3) + (1 : Int32)) < r30 → (wp_R_exclude (fun σ57 => Q σ57) x1 σ30)) ∧ (¬ ((σ30.1 0 3) + (1 : Int32)) < r30 → (wp_C_withdraw_42 Q E σ30))) σ20))) x1 σ9))) x1 σ1) E σ := h
  refine lv_aload_n hx hb d_C_withdraw_0 rfl (lv_at hl 0 rfl) ?_
  refine x_callv C hX hD hS (Nat.le_of_ble_eq_true rfl) (Nat.le_of_ble_eq_true rfl) (vx_runV (As := []) (rest := []) ⟨hx, hb, hml, hown, hts⟩ (m_C_refuseOnceBegun hlS h) (cwV 0 hts (g_V kw_253 kw_255 kp_2 kw_1 kw_256) rfl rfl rfl (by decide +kernel) ⟨Nat.le_of_ble_eq_true rfl, Nat.le_of_ble_eq_true rfl⟩) (r_preV (o := 0) C hP hD hS (by decide) rfl rfl) rfl rfl hl.1 rfl (lv_room (Nat.le_of_ble_eq_true rfl)) d_C_withdraw_1 ⟨Nat.le_of_ble_eq_true rfl, Nat.le_of_ble_eq_true rfl⟩) (fun σ1 H locs h hP hD hS => ?_)
  refine lv_aload_n hx hb d_C_withdraw_4 rfl (lv_at hl 0 rfl) ?_
  refine r_get C ku_C hP (by decide) rfl rfl 0 (by decide) kw_132 rfl d_C_withdraw_5 ?_
  refine lv_iload_n hx hb d_C_withdraw_8 rfl (lv_at hl 1 rfl) ?_
  refine r_calli C hD hS (va_runV (As := [.int x1]) (rest := []) ⟨hx, hb, hml, hown, hts⟩ (m_R_has h) (cwV 1 hts (g_V kw_277 kw_278 kw_279 kw_2 kw_280) rfl rfl rfl (by decide +kernel) ⟨Nat.le_of_ble_eq_true rfl, Nat.le_of_ble_eq_true rfl⟩) (r_preV (o := 1) C hP hD hS (by decide) rfl rfl) rfl rfl hl.1 rfl (lv_room (Nat.le_of_ble_eq_true rfl)) d_C_withdraw_9 ⟨Nat.le_of_ble_eq_true rfl, Nat.le_of_ble_eq_true rfl⟩) (fun r9 σ9 H locs h hP hD hS => ?_)
  refine lv_if_eq hx hb d_C_withdraw_12 rfl (fun hc12 => ?_) (fun hc12 => ?_)
  · have h := h.1 hc12
    exact b_C_withdraw_42 C hlS hX h (lv_sub hl [] rfl) hP hD hS
  · have h := h.2 hc12
    refine lv_aload_n hx hb d_C_withdraw_15 rfl (lv_at hl 0 rfl) ?_
    refine r_get C ku_C hP (by decide) rfl rfl 0 (by decide) kw_132 rfl d_C_withdraw_16 ?_
    refine lv_iload_n hx hb d_C_withdraw_19 rfl (lv_at hl 1 rfl) ?_
    refine r_calli C hD hS (va_runV (As := [.int x1]) (rest := []) ⟨hx, hb, hml, hown, hts⟩ (m_R_isContinuing h) (cwV 1 hts (g_V kw_293 kw_294 kw_295 kw_2 kw_296) rfl rfl rfl (by decide +kernel) ⟨Nat.le_of_ble_eq_true rfl, Nat.le_of_ble_eq_true rfl⟩) (r_preV (o := 1) C hP hD hS (by decide) rfl rfl) rfl rfl hl.1 rfl (lv_room (Nat.le_of_ble_eq_true rfl)) d_C_withdraw_20 ⟨Nat.le_of_ble_eq_true rfl, Nat.le_of_ble_eq_true rfl⟩) (fun r20 σ20 H locs h hP hD hS => ?_)
    refine lv_if_eq hx hb d_C_withdraw_23 rfl (fun hc23 => ?_) (fun hc23 => ?_)
    · have h := h.1 hc23
      exact b_C_withdraw_42 C hlS hX h (lv_sub hl [] rfl) hP hD hS
    · have h := h.2 hc23
      refine lv_aload_n hx hb d_C_withdraw_26 rfl (lv_at hl 0 rfl) ?_
      refine r_get C ku_C hP (by decide) rfl rfl 0 (by decide) kw_132 rfl d_C_withdraw_27 ?_
      refine r_calli C hD hS (va_runV (As := []) (rest := []) ⟨hx, hb, hml, hown, hts⟩ (m_R_continuing h) (cwV 0 hts (g_V kw_165 kw_166 kw_167 kw_2 kw_168) rfl rfl rfl (by decide +kernel) ⟨Nat.le_of_ble_eq_true rfl, Nat.le_of_ble_eq_true rfl⟩) (r_preV (o := 1) C hP hD hS (by decide) rfl rfl) rfl rfl hl.1 rfl (lv_room (Nat.le_of_ble_eq_true rfl)) d_C_withdraw_30 ⟨Nat.le_of_ble_eq_true rfl, Nat.le_of_ble_eq_true rfl⟩) (fun r30 σ30 H locs h hP hD hS => ?_)
      refine lv_aload_n hx hb d_C_withdraw_33 rfl (lv_at hl 0 rfl) ?_
      refine r_get C ku_C hP (by decide) rfl rfl 3 (by decide) kw_135 rfl d_C_withdraw_34 ?_
      refine lv_iconst (v := 1) hx hb d_C_withdraw_37 (by decide) ?_
      refine lv_iadd hx hb d_C_withdraw_38 ?_
      refine lv_icmp_gt hx hb d_C_withdraw_39 rfl (fun hc39 => ?_) (fun hc39 => ?_)
      · have h := h.1 hc39
        refine lv_aload_n hx hb d_C_withdraw_52 rfl (lv_at hl 0 rfl) ?_
        refine r_get C ku_C hP (by decide) rfl rfl 0 (by decide) kw_132 rfl d_C_withdraw_53 ?_
        refine lv_iload_n hx hb d_C_withdraw_56 rfl (lv_at hl 1 rfl) ?_
        refine r_callv C hD hS (va_runV (As := [.int x1]) (rest := []) ⟨hx, hb, hml, hown, hts⟩ (m_R_exclude h) (cwV 1 hts (g_V kw_298 kw_299 kw_300 kw_2 kw_301) rfl rfl rfl (by decide +kernel) ⟨Nat.le_of_ble_eq_true rfl, Nat.le_of_ble_eq_true rfl⟩) (r_preV (o := 1) C hP hD hS (by decide) rfl rfl) rfl rfl hl.1 rfl (lv_room (Nat.le_of_ble_eq_true rfl)) d_C_withdraw_57 ⟨Nat.le_of_ble_eq_true rfl, Nat.le_of_ble_eq_true rfl⟩) (fun σ57 H locs h hP hD hS => ?_)
        exact x_vret (Nat.le_of_ble_eq_true rfl) (Nat.le_of_ble_eq_true rfl) C hP hD hS d_C_withdraw_60 h
      · have h := h.2 hc39
        exact b_C_withdraw_42 C hlS hX h (lv_sub hl [] rfl) hP hD hS
def rm_C_lay : Room := { frames := 7, cells := 2, slots := 12, locals := 110 }
set_option maxHeartbeats 4000000 in
set_option maxRecDepth 100000 in
theorem b_C_lay_43 {p : Program} {l : Launch} {e : Env} {s : State} {m : MethodId} {args : Array Value} {below : List Frame} {meth : Method} {c : Code} {D : va_G} {cI cL cZ cS : ClassId} {ad : Nat → Nat} {wr : va_W} {A : Nat → Prop} {Q : Int32 → Mem → Prop} {E : String → Mem → Prop} {σ : Mem} {H : Heap} {locs : List Loc} {ls : Array Slot} (C : wC TB "PreferenceCount" c_C_lay 5 (some .int) D cls (tyl cI cL cZ cS) A p s m args meth c) (hlS : l.stackTraces = false) (hX : ∀ x ∈ c.exceptionTable.toList, False) (h : wp_C_lay_43 Q E σ) (hl : lv_has ls 5 []) (hP : va_P D cls (wW 77 (fX cI cL cS ad) ad σ ++ wr) H) (hD : va_D A (wW 77 (fX cI cL cS ad) ad σ ++ wr)) (hS : va_S A s.heap H locs) : W p l e (headSpec (Cond.code y_C_lay c_C_lay 5 (some .int) :: TB) rm_C_lay).room s m args below meth c H locs 1 6 (vx_MQ below (va_Qi Q (wB D cls (tyl cI cL cZ cS) 77 (fX cI cL cS ad) ad wr A) A) (wX D cls (tyl cI cL cZ cS) 77 (fX cI cL cS ad) ad wr A E) args s 2 12 A) (F0 m 43 ls []) := by
  have hx := C.1
  have hb := C.2.1
  have hts := C.2.2.2.2.1
  have hown := C.2.2.2.2.2.1
  have hml := C.2.2.2.2.2.2.1
  have h : E xIA σ := h
  exact x_throw (X := xIA) (text := "no ranking of 1 to 7 candidates, or not 1 to 50 papers in all") C hlS hX hP hD hS (by decide +kernel) kw_177 kw_11 (by decide +kernel) xat_IA xgo_IA hl.1 d_C_lay_43 d_C_lay_46 d_C_lay_47 d_C_lay_49 d_C_lay_52 (Nat.le_of_ble_eq_true rfl) (Nat.le_of_ble_eq_true rfl) (Nat.le_of_ble_eq_true rfl) (Nat.le_of_ble_eq_true rfl) (Nat.le_of_ble_eq_true rfl) (Nat.le_of_ble_eq_true rfl) h
set_option maxHeartbeats 4000000 in
set_option maxRecDepth 100000 in
theorem b_C_lay_28 {p : Program} {l : Launch} {e : Env} {s : State} {m : MethodId} {args : Array Value} {below : List Frame} {meth : Method} {c : Code} {D : va_G} {cI cL cZ cS : ClassId} {ad : Nat → Nat} {wr : va_W} {A : Nat → Prop} {Q : Int32 → Mem → Prop} {E : String → Mem → Prop} {y1 : Int64} {x3 : Int32} {t0 : Int32} {σ : Mem} {H : Heap} {locs : List Loc} {ls : Array Slot} (C : wC TB "PreferenceCount" c_C_lay 5 (some .int) D cls (tyl cI cL cZ cS) A p s m args meth c) (hlS : l.stackTraces = false) (hX : ∀ x ∈ c.exceptionTable.toList, False) (h : wp_C_lay_28 Q E y1 x3 t0 σ) (hl : lv_has ls 5 [(0, .ref (ad 0)), (1, .long y1), (3, .int x3)]) (hP : va_P D cls (wW 77 (fX cI cL cS ad) ad σ ++ wr) H) (hD : va_D A (wW 77 (fX cI cL cS ad) ad σ ++ wr)) (hS : va_S A s.heap H locs) : W p l e (headSpec (Cond.code y_C_lay c_C_lay 5 (some .int) :: TB) rm_C_lay).room s m args below meth c H locs 1 6 (vx_MQ below (va_Qi Q (wB D cls (tyl cI cL cZ cS) 77 (fX cI cL cS ad) ad wr A) A) (wX D cls (tyl cI cL cZ cS) 77 (fX cI cL cS ad) ad wr A E) args s 2 12 A) (F0 m 28 ls [.int t0]) := by
  have hx := C.1
  have hb := C.2.1
  have hts := C.2.2.2.2.1
  have hown := C.2.2.2.2.2.1
  have hml := C.2.2.2.2.2.2.1
  have h : (t0 = 0 → (wp_C_lay_43 Q E σ)) ∧ (¬ t0 = 0 → (wp_C_isRanking (fun r37 σ37 => (r37 = 0 → (wp_C_lay_43 Q E σ37)) ∧ (¬ r37 = 0 → (wp_P_put (fun σ59 => Q (σ59.1 4 5) σ59) y1 x3 σ37))) y1 σ)) := h
  refine lv_istore (lv' := [(4, .int t0), (0, .ref (ad 0)), (1, .long y1), (3, .int x3)]) hx hb d_C_lay_28 hl (by decide) rfl (fun ls hl => ?_)
  refine lv_iload hx hb d_C_lay_30 (lv_at hl 0 rfl) ?_
  refine lv_if_eq hx hb d_C_lay_32 rfl (fun hc32 => ?_) (fun hc32 => ?_)
  · have h := h.1 hc32
    exact b_C_lay_43 C hlS hX h (lv_sub hl [] rfl) hP hD hS
  · have h := h.2 hc32
    refine lv_aload_n hx hb d_C_lay_35 rfl (lv_at hl 1 rfl) ?_
    refine lv_lload_n hx hb d_C_lay_36 rfl (lv_at hl 2 rfl) ?_
    refine r_calli C hD hS (va_runV (As := [.long y1]) (rest := []) ⟨hx, hb, hml, hown, hts⟩ (m_C_isRanking h) (cwV 1 hts (g_V kw_309 kw_311 kp_4 kw_1 kw_312) rfl rfl rfl (by decide +kernel) ⟨Nat.le_of_ble_eq_true rfl, Nat.le_of_ble_eq_true rfl⟩) (r_preV (o := 0) C hP hD hS (by decide) rfl rfl) rfl rfl hl.1 rfl (lv_room (Nat.le_of_ble_eq_true rfl)) d_C_lay_37 ⟨Nat.le_of_ble_eq_true rfl, Nat.le_of_ble_eq_true rfl⟩) (fun r37 σ37 H locs h hP hD hS => ?_)
    refine lv_if_ne hx hb d_C_lay_40 rfl (fun hc40 => ?_) (fun hc40 => ?_)
    · have h := h.2 hc40
      refine lv_aload_n hx hb d_C_lay_53 rfl (lv_at hl 1 rfl) ?_
      refine r_get C ku_C hP (by decide) rfl rfl 1 (by decide) kw_133 rfl d_C_lay_54 ?_
      refine lv_lload_n hx hb d_C_lay_57 rfl (lv_at hl 2 rfl) ?_
      refine lv_iload_n hx hb d_C_lay_58 rfl (lv_at hl 3 rfl) ?_
      refine r_callv C hD hS (va_runV (As := [.long y1, .int x3]) (rest := []) ⟨hx, hb, hml, hown, hts⟩ (m_P_put h) (cwV 2 hts (g_V kw_318 kw_319 kw_320 kw_3 kw_321) rfl rfl rfl (by decide +kernel) ⟨Nat.le_of_ble_eq_true rfl, Nat.le_of_ble_eq_true rfl⟩) (r_preV (o := 4) C hP hD hS (by decide) rfl rfl) rfl rfl hl.1 rfl (lv_room (Nat.le_of_ble_eq_true rfl)) d_C_lay_59 ⟨Nat.le_of_ble_eq_true rfl, Nat.le_of_ble_eq_true rfl⟩) (fun σ59 H locs h hP hD hS => ?_)
      refine lv_aload_n hx hb d_C_lay_62 rfl (lv_at hl 1 rfl) ?_
      refine r_get C ku_C hP (by decide) rfl rfl 1 (by decide) kw_133 rfl d_C_lay_63 ?_
      refine r_get C ku_P hP (by decide) rfl rfl 5 (by decide) kw_88 rfl d_C_lay_66 ?_
      exact x_iret (Nat.le_of_ble_eq_true rfl) (Nat.le_of_ble_eq_true rfl) C hP hD hS d_C_lay_69 h
    · have h := h.1 hc40
      exact b_C_lay_43 C hlS hX h (lv_sub hl [] rfl) hP hD hS
set_option maxHeartbeats 4000000 in
set_option maxRecDepth 100000 in
theorem b_C_lay_27 {p : Program} {l : Launch} {e : Env} {s : State} {m : MethodId} {args : Array Value} {below : List Frame} {meth : Method} {c : Code} {D : va_G} {cI cL cZ cS : ClassId} {ad : Nat → Nat} {wr : va_W} {A : Nat → Prop} {Q : Int32 → Mem → Prop} {E : String → Mem → Prop} {y1 : Int64} {x3 : Int32} {σ : Mem} {H : Heap} {locs : List Loc} {ls : Array Slot} (C : wC TB "PreferenceCount" c_C_lay 5 (some .int) D cls (tyl cI cL cZ cS) A p s m args meth c) (hlS : l.stackTraces = false) (hX : ∀ x ∈ c.exceptionTable.toList, False) (h : wp_C_lay_27 Q E y1 x3 σ) (hl : lv_has ls 5 [(0, .ref (ad 0)), (1, .long y1), (3, .int x3)]) (hP : va_P D cls (wW 77 (fX cI cL cS ad) ad σ ++ wr) H) (hD : va_D A (wW 77 (fX cI cL cS ad) ad σ ++ wr)) (hS : va_S A s.heap H locs) : W p l e (headSpec (Cond.code y_C_lay c_C_lay 5 (some .int) :: TB) rm_C_lay).room s m args below meth c H locs 1 6 (vx_MQ below (va_Qi Q (wB D cls (tyl cI cL cZ cS) 77 (fX cI cL cS ad) ad wr A) A) (wX D cls (tyl cI cL cZ cS) 77 (fX cI cL cS ad) ad wr A E) args s 2 12 A) (F0 m 27 ls []) := by
  have hx := C.1
  have hb := C.2.1
  have hts := C.2.2.2.2.1
  have hown := C.2.2.2.2.2.1
  have hml := C.2.2.2.2.2.2.1
  have h : wp_C_lay_28 Q E y1 x3 (0 : Int32) σ := h
  refine lv_iconst (v := 0) hx hb d_C_lay_27 (by decide) ?_
  exact b_C_lay_28 C hlS hX h (lv_sub hl [0, 1, 2] rfl) hP hD hS
set_option maxHeartbeats 4000000 in
set_option maxRecDepth 100000 in
theorem m_C_lay {l : Launch} {D : va_G} {cI cL cZ cS : ClassId} {ad : Nat → Nat} {wr : va_W} {sz : Nat} {Q : Int32 → Mem → Prop} {E : String → Mem → Prop} {y1 : Int64} {x3 : Int32} {σ : Mem} (hlS : l.stackTraces = false) (h : wp_C_lay Q E y1 x3 σ) : vx_Met l y_C_lay (Cond.code y_C_lay c_C_lay 5 (some .int) :: TB) rm_C_lay (wPc D cls (tyl cI cL cZ cS) 77 (fX cI cL cS ad) ad wr sz σ [.ref (ad 0), .long y1, .int x3]) (va_Qi Q (wB D cls (tyl cI cL cZ cS) 77 (fX cI cL cS ad) ad wr (wA 77 (fX cI cL cS ad) ad wr sz σ)) (wA 77 (fX cI cL cS ad) ad wr sz σ)) (wX D cls (tyl cI cL cZ cS) 77 (fX cI cL cS ad) ad wr (wA 77 (fX cI cL cS ad) ad wr sz σ) E) 2 12 (wA 77 (fX cI cL cS ad) ad wr sz σ) := by
  refine vx_ofW (cc := c_C_lay) (maxL := 5) (ret := (some .int)) (by decide) rfl ?_
  intro p e s m args below meth c s₁ B hml hX hv
  obtain ⟨rfl, hsz, hP, hK, hD0, hN⟩ := hv
  subst hsz
  have hD : va_D (wA 77 (fX cI cL cS ad) ad wr s.heap.size σ) (wW 77 (fX cI cL cS ad) ad σ ++ wr) := hD0.self (sz := s.heap.size)
  have hA : ∀ q : Nat, s.heap.size ≤ q → (wA 77 (fX cI cL cS ad) ad wr s.heap.size σ) q := fun q h => Or.inr h
  have hN : NX (wA 77 (fX cI cL cS ad) ad wr s.heap.size σ) s s.heap := hN
  generalize (wA 77 (fX cI cL cS ad) ad wr s.heap.size σ) = A at hD hA hN ⊢
  have C : wC TB "PreferenceCount" c_C_lay 5 (some .int) D cls (tyl cI cL cZ cS) A p s m ([.ref (ad 0), .long y1, .int x3].toArray) meth c := ⟨B.exec, B.bytes, B.returns, B.notSynchronized, fun w hw => atoms_spec (ws := Cond.code y_C_lay c_C_lay 5 (some .int) :: TB) B.pre w (List.mem_cons_of_mem _ hw), findClass_of_methodNamed B.named, hml, hK, hN, hA⟩
  have hx := C.1
  have hb := C.2.1
  have hts := C.2.2.2.2.1
  have hown := C.2.2.2.2.2.1
  have hS : va_S A s.heap s.heap [] := va_S.rf
  have hl := lv_entry ([.ref (ad 0), .long y1, .int x3]) (n := 5) (Nat.le_of_ble_eq_true rfl)
  rw [lg_entry_eq]
  generalize (lg_sl ([.ref (ad 0), .long y1, .int x3]) ++ List.replicate (5 - (lg_sl ([.ref (ad 0), .long y1, .int x3])).length) Slot.unset).toArray = ls at hl ⊢
  have hl : lv_has ls 5 [(0, .ref (ad 0)), (1, .long y1), (3, .int x3)] := hl
  have h : wp_C_refuseOnceBegun (fun σ1 => (x3 < (1 : Int32) → (wp_C_lay_27 Q E y1 x3 σ1)) ∧ (¬ x3 < (1 : Int32) → ((((50 : Int32) - (σ1.1 4 5)) < x3 → (wp_C_lay_27 Q E y1 x3 σ1)) ∧ (¬ ((50 : Int32) - (σ1.1 4 5)) < x3 → (wp_C_lay_28 Q E y1 x3 (1 : Int32) σ1))))) E σ := h
  refine lv_aload_n hx hb d_C_lay_0 rfl (lv_at hl 0 rfl) ?_
  refine x_callv C hX hD hS (Nat.le_of_ble_eq_true rfl) (Nat.le_of_ble_eq_true rfl) (vx_runV (As := []) (rest := []) ⟨hx, hb, hml, hown, hts⟩ (m_C_refuseOnceBegun hlS h) (cwV 0 hts (g_V kw_253 kw_255 kp_2 kw_1 kw_256) rfl rfl rfl (by decide +kernel) ⟨Nat.le_of_ble_eq_true rfl, Nat.le_of_ble_eq_true rfl⟩) (r_preV (o := 0) C hP hD hS (by decide) rfl rfl) rfl rfl hl.1 rfl (lv_room (Nat.le_of_ble_eq_true rfl)) d_C_lay_1 ⟨Nat.le_of_ble_eq_true rfl, Nat.le_of_ble_eq_true rfl⟩) (fun σ1 H locs h hP hD hS => ?_)
  refine lv_iload_n hx hb d_C_lay_4 rfl (lv_at hl 2 rfl) ?_
  refine lv_iconst (v := 1) hx hb d_C_lay_5 (by decide) ?_
  refine lv_icmp_lt hx hb d_C_lay_6 rfl (fun hc6 => ?_) (fun hc6 => ?_)
  · have h := h.1 hc6
    exact b_C_lay_27 C hlS hX h (lv_sub hl [0, 1, 2] rfl) hP hD hS
  · have h := h.2 hc6
    refine lv_iload_n hx hb d_C_lay_9 rfl (lv_at hl 2 rfl) ?_
    refine lv_bipush (v := 50) hx hb d_C_lay_10 (by decide) ?_
    refine lv_aload_n hx hb d_C_lay_12 rfl (lv_at hl 0 rfl) ?_
    refine r_get C ku_C hP (by decide) rfl rfl 1 (by decide) kw_133 rfl d_C_lay_13 ?_
    refine r_get C ku_P hP (by decide) rfl rfl 5 (by decide) kw_88 rfl d_C_lay_16 ?_
    refine lv_isub hx hb d_C_lay_19 ?_
    refine lv_icmp_gt hx hb d_C_lay_20 rfl (fun hc20 => ?_) (fun hc20 => ?_)
    · have h := h.1 hc20
      exact b_C_lay_27 C hlS hX h (lv_sub hl [0, 1, 2] rfl) hP hD hS
    · have h := h.2 hc20
      refine lv_iconst (v := 1) hx hb d_C_lay_23 (by decide) ?_
      refine lv_goto hx hb d_C_lay_24 rfl ?_
      exact b_C_lay_28 C hlS hX h (lv_sub hl [0, 1, 2] rfl) hP hD hS
def rm_C_open : Room := { frames := 7, cells := 2, slots := 12, locals := 151 }
set_option maxHeartbeats 4000000 in
set_option maxRecDepth 100000 in
theorem m_C_open {l : Launch} {D : va_G} {cI cL cZ cS : ClassId} {ad : Nat → Nat} {wr : va_W} {sz : Nat} {Q : Int32 → Mem → Prop} {E : String → Mem → Prop} {σ : Mem} (hlS : l.stackTraces = false) (h : wp_C_open Q E σ) : vx_Met l y_C_open (Cond.code y_C_open c_C_open 1 (some .int) :: TB) rm_C_open (wPc D cls (tyl cI cL cZ cS) 77 (fX cI cL cS ad) ad wr sz σ [.ref (ad 0)]) (va_Qi Q (wB D cls (tyl cI cL cZ cS) 77 (fX cI cL cS ad) ad wr (wA 77 (fX cI cL cS ad) ad wr sz σ)) (wA 77 (fX cI cL cS ad) ad wr sz σ)) (wX D cls (tyl cI cL cZ cS) 77 (fX cI cL cS ad) ad wr (wA 77 (fX cI cL cS ad) ad wr sz σ) E) 2 12 (wA 77 (fX cI cL cS ad) ad wr sz σ) := by
  refine vx_ofW (cc := c_C_open) (maxL := 1) (ret := (some .int)) (by decide) rfl ?_
  intro p e s m args below meth c s₁ B hml hX hv
  obtain ⟨rfl, hsz, hP, hK, hD0, hN⟩ := hv
  subst hsz
  have hD : va_D (wA 77 (fX cI cL cS ad) ad wr s.heap.size σ) (wW 77 (fX cI cL cS ad) ad σ ++ wr) := hD0.self (sz := s.heap.size)
  have hA : ∀ q : Nat, s.heap.size ≤ q → (wA 77 (fX cI cL cS ad) ad wr s.heap.size σ) q := fun q h => Or.inr h
  have hN : NX (wA 77 (fX cI cL cS ad) ad wr s.heap.size σ) s s.heap := hN
  generalize (wA 77 (fX cI cL cS ad) ad wr s.heap.size σ) = A at hD hA hN ⊢
  have C : wC TB "PreferenceCount" c_C_open 1 (some .int) D cls (tyl cI cL cZ cS) A p s m ([.ref (ad 0)].toArray) meth c := ⟨B.exec, B.bytes, B.returns, B.notSynchronized, fun w hw => atoms_spec (ws := Cond.code y_C_open c_C_open 1 (some .int) :: TB) B.pre w (List.mem_cons_of_mem _ hw), findClass_of_methodNamed B.named, hml, hK, hN, hA⟩
  have hx := C.1
  have hb := C.2.1
  have hts := C.2.2.2.2.1
  have hown := C.2.2.2.2.2.1
  have hS : va_S A s.heap s.heap [] := va_S.rf
  have hl := lv_entry ([.ref (ad 0)]) (n := 1) (Nat.le_of_ble_eq_true rfl)
  rw [lg_entry_eq]
  generalize (lg_sl ([.ref (ad 0)]) ++ List.replicate (1 - (lg_sl ([.ref (ad 0)])).length) Slot.unset).toArray = ls at hl ⊢
  have hl : lv_has ls 1 [(0, .ref (ad 0))] := hl
  have h : wp_C_refuseOnceBegun (fun σ1 => ((σ1.1 4 5) = 0 → (E xIS σ1)) ∧ (¬ (σ1.1 4 5) = 0 → (wp_C_setQuota (fun σ25 => ∀ σ30 : Mem, σ30 = mI σ25 0 4 (0 : Int32) → (vp_in (0 : Int32) 13 ∧ (wp_S_clear (fun σ39 => wp_C_passOn (fun σ46 => wp_C_settle (fun σ50 => Q (Int64.toInt32 (σ50.2 0 6)) σ50) σ46) (-1 : Int32) (1 : Int64) (1 : Int64) σ39) (12 + 5 * (Int32.toNatClampNeg (0 : Int32))) σ30))) σ1))) E σ := h
  refine lv_aload_n hx hb d_C_open_0 rfl (lv_at hl 0 rfl) ?_
  refine x_callv C hX hD hS (Nat.le_of_ble_eq_true rfl) (Nat.le_of_ble_eq_true rfl) (vx_runV (As := []) (rest := []) ⟨hx, hb, hml, hown, hts⟩ (m_C_refuseOnceBegun hlS h) (cwV 0 hts (g_V kw_253 kw_255 kp_2 kw_1 kw_256) rfl rfl rfl (by decide +kernel) ⟨Nat.le_of_ble_eq_true rfl, Nat.le_of_ble_eq_true rfl⟩) (r_preV (o := 0) C hP hD hS (by decide) rfl rfl) rfl rfl hl.1 rfl (lv_room (Nat.le_of_ble_eq_true rfl)) d_C_open_1 ⟨Nat.le_of_ble_eq_true rfl, Nat.le_of_ble_eq_true rfl⟩) (fun σ1 H locs h hP hD hS => ?_)
  refine lv_aload_n hx hb d_C_open_4 rfl (lv_at hl 0 rfl) ?_
  refine r_get C ku_C hP (by decide) rfl rfl 1 (by decide) kw_133 rfl d_C_open_5 ?_
  refine r_get C ku_P hP (by decide) rfl rfl 5 (by decide) kw_88 rfl d_C_open_8 ?_
  refine lv_if_ne hx hb d_C_open_11 rfl (fun hc11 => ?_) (fun hc11 => ?_)
  · have h := h.2 hc11
    refine lv_aload_n hx hb d_C_open_24 rfl (lv_at hl 0 rfl) ?_
    refine r_callv C hD hS (va_runV (As := []) (rest := []) ⟨hx, hb, hml, hown, hts⟩ (m_C_setQuota h) (cwV 0 hts (g_V kw_337 kw_339 kp_5 kw_1 kw_340) rfl rfl rfl (by decide +kernel) ⟨Nat.le_of_ble_eq_true rfl, Nat.le_of_ble_eq_true rfl⟩) (r_preV (o := 0) C hP hD hS (by decide) rfl rfl) rfl rfl hl.1 rfl (lv_room (Nat.le_of_ble_eq_true rfl)) d_C_open_25 ⟨Nat.le_of_ble_eq_true rfl, Nat.le_of_ble_eq_true rfl⟩) (fun σ25 H locs h hP hD hS => ?_)
    refine lv_aload_n hx hb d_C_open_28 rfl (lv_at hl 0 rfl) ?_
    refine lv_iconst (v := 0) hx hb d_C_open_29 (by decide) ?_
    refine r_putI (ty := .int) C ku_C ft_C fo_C fn_C hP hD hS (by decide) rfl rfl 4 (by decide) kw_136 rfl (by decide +kernel) rfl rfl (Nat.le_of_ble_eq_true rfl) d_C_open_30 rfl (fun σ30 e30 H locs hP hD hS => ?_)
    have h := h σ30 e30
    refine lv_aload_n hx hb d_C_open_33 rfl (lv_at hl 0 rfl) ?_
    refine r_get C ku_C hP (by decide) rfl rfl 2 (by decide) kw_134 rfl d_C_open_34 ?_
    refine lv_iconst (v := 0) hx hb d_C_open_37 (by decide) ?_
    obtain ⟨hi38, h⟩ := h
    refine r_aald C hP (by decide) rfl rfl hi38 d_C_open_38 ?_
    refine r_callv C hD hS (va_runV (As := []) (rest := []) ⟨hx, hb, hml, hown, hts⟩ (m_S_clear (st_in hi38) h) (cwV 0 hts (g_V kw_342 kw_343 kw_344 kw_6 kw_345) rfl rfl rfl (by decide +kernel) ⟨Nat.le_of_ble_eq_true rfl, Nat.le_of_ble_eq_true rfl⟩) (r_preV (o := (12 + 5 * (Int32.toNatClampNeg (0 : Int32)))) C hP hD hS (st_lt (st_in hi38)) (st_cell (st_in hi38) _ _) rfl) rfl rfl hl.1 rfl (lv_room (Nat.le_of_ble_eq_true rfl)) d_C_open_39 ⟨Nat.le_of_ble_eq_true rfl, Nat.le_of_ble_eq_true rfl⟩) (fun σ39 H locs h hP hD hS => ?_)
    refine lv_aload_n hx hb d_C_open_42 rfl (lv_at hl 0 rfl) ?_
    refine lv_iconst (v := (-1)) hx hb d_C_open_43 (by decide) ?_
    refine lv_lconst (v := 1) hx hb d_C_open_44 (by decide) ?_
    refine lv_lconst (v := 1) hx hb d_C_open_45 (by decide) ?_
    refine r_callv C hD hS (va_runV (As := [.int (-1 : Int32), .long (1 : Int64), .long (1 : Int64)]) (rest := []) ⟨hx, hb, hml, hown, hts⟩ (m_C_passOn h) (cwV 3 hts (g_V kw_353 kw_355 kp_6 kw_1 kw_356) rfl rfl rfl (by decide +kernel) ⟨Nat.le_of_ble_eq_true rfl, Nat.le_of_ble_eq_true rfl⟩) (r_preV (o := 0) C hP hD hS (by decide) rfl rfl) rfl rfl hl.1 rfl (lv_room (Nat.le_of_ble_eq_true rfl)) d_C_open_46 ⟨Nat.le_of_ble_eq_true rfl, Nat.le_of_ble_eq_true rfl⟩) (fun σ46 H locs h hP hD hS => ?_)
    refine lv_aload_n hx hb d_C_open_49 rfl (lv_at hl 0 rfl) ?_
    refine r_callv C hD hS (va_runV (As := []) (rest := []) ⟨hx, hb, hml, hown, hts⟩ (m_C_settle h) (cwV 0 hts (g_V kw_374 kw_376 kp_9 kw_1 kw_377) rfl rfl rfl (by decide +kernel) ⟨Nat.le_of_ble_eq_true rfl, Nat.le_of_ble_eq_true rfl⟩) (r_preV (o := 0) C hP hD hS (by decide) rfl rfl) rfl rfl hl.1 rfl (lv_room (Nat.le_of_ble_eq_true rfl)) d_C_open_50 ⟨Nat.le_of_ble_eq_true rfl, Nat.le_of_ble_eq_true rfl⟩) (fun σ50 H locs h hP hD hS => ?_)
    refine lv_aload_n hx hb d_C_open_53 rfl (lv_at hl 0 rfl) ?_
    refine r_get C ku_C hP (by decide) rfl rfl 6 (by decide) kw_138 rfl d_C_open_54 ?_
    refine lv_l2i hx hb d_C_open_57 rfl ?_
    exact x_iret (Nat.le_of_ble_eq_true rfl) (Nat.le_of_ble_eq_true rfl) C hP hD hS d_C_open_58 h
  · have h := h.1 hc11
    exact x_throw (X := xIS) (text := "there are no papers") C hlS hX hP hD hS (by decide +kernel) kw_261 kw_12 (by decide +kernel) xat_IS xgo_IS hl.1 d_C_open_14 d_C_open_17 d_C_open_18 d_C_open_20 d_C_open_23 (Nat.le_of_ble_eq_true rfl) (Nat.le_of_ble_eq_true rfl) (Nat.le_of_ble_eq_true rfl) (Nat.le_of_ble_eq_true rfl) (Nat.le_of_ble_eq_true rfl) (Nat.le_of_ble_eq_true rfl) h
def rm_C_step : Room := { frames := 6, cells := 1, slots := 6, locals := 161 }
set_option maxHeartbeats 4000000 in
set_option maxRecDepth 100000 in
theorem b_C_step_128 {p : Program} {l : Launch} {e : Env} {s : State} {m : MethodId} {args : Array Value} {below : List Frame} {meth : Method} {c : Code} {D : va_G} {cI cL cZ cS : ClassId} {ad : Nat → Nat} {wr : va_W} {A : Nat → Prop} {Q : Int32 → Mem → Prop} {E : String → Mem → Prop} {t0 : Int32} {σ : Mem} {H : Heap} {locs : List Loc} {ls : Array Slot} (C : wC TB "PreferenceCount" c_C_step 4 (some .int) D cls (tyl cI cL cZ cS) A p s m args meth c) (hlS : l.stackTraces = false) (hX : ∀ x ∈ c.exceptionTable.toList, False) (h : wp_C_step_128 Q E t0 σ) (hl : lv_has ls 4 []) (hP : va_P D cls (wW 77 (fX cI cL cS ad) ad σ ++ wr) H) (hD : va_D A (wW 77 (fX cI cL cS ad) ad σ ++ wr)) (hS : va_S A s.heap H locs) : W p l e (headSpec (Cond.code y_C_step c_C_step 4 (some .int) :: TB) rm_C_step).room s m args below meth c H locs 0 0 (vx_MQ below (va_Qi Q (wB D cls (tyl cI cL cZ cS) 77 (fX cI cL cS ad) ad wr A) A) (wX D cls (tyl cI cL cZ cS) 77 (fX cI cL cS ad) ad wr A E) args s 1 6 A) (F0 m 128 ls [.int t0]) := by
  have hx := C.1
  have hb := C.2.1
  have hts := C.2.2.2.2.1
  have hown := C.2.2.2.2.2.1
  have hml := C.2.2.2.2.2.2.1
  have h : Q t0 σ := h
  exact x_iret (Nat.le_of_ble_eq_true rfl) (Nat.le_of_ble_eq_true rfl) C hP hD hS d_C_step_128 h
set_option maxHeartbeats 4000000 in
set_option maxRecDepth 100000 in
theorem b_C_step_112 {p : Program} {l : Launch} {e : Env} {s : State} {m : MethodId} {args : Array Value} {below : List Frame} {meth : Method} {c : Code} {D : va_G} {cI cL cZ cS : ClassId} {ad : Nat → Nat} {wr : va_W} {A : Nat → Prop} {Q : Int32 → Mem → Prop} {E : String → Mem → Prop} {x2 : Int32} {x3 : Int32} {σ : Mem} {H : Heap} {locs : List Loc} {ls : Array Slot} (C : wC TB "PreferenceCount" c_C_step 4 (some .int) D cls (tyl cI cL cZ cS) A p s m args meth c) (hlS : l.stackTraces = false) (hX : ∀ x ∈ c.exceptionTable.toList, False) (h : wp_C_step_112 Q E x2 x3 σ) (hl : lv_has ls 4 [(0, .ref (ad 0)), (2, .int x2), (3, .int x3)]) (hP : va_P D cls (wW 77 (fX cI cL cS ad) ad σ ++ wr) H) (hD : va_D A (wW 77 (fX cI cL cS ad) ad σ ++ wr)) (hS : va_S A s.heap H locs) : W p l e (headSpec (Cond.code y_C_step c_C_step 4 (some .int) :: TB) rm_C_step).room s m args below meth c H locs 0 0 (vx_MQ below (va_Qi Q (wB D cls (tyl cI cL cZ cS) 77 (fX cI cL cS ad) ad wr A) A) (wX D cls (tyl cI cL cZ cS) 77 (fX cI cL cS ad) ad wr A E) args s 1 6 A) (F0 m 112 ls []) := by
  have hx := C.1
  have hb := C.2.1
  have hts := C.2.2.2.2.1
  have hown := C.2.2.2.2.2.1
  have hml := C.2.2.2.2.2.2.1
  have h : wp_C_settle (fun σ113 => (x2 = 0 → (wp_C_step_128 Q E (x3 + (16 : Int32)) σ113)) ∧ (¬ x2 = 0 → (wp_C_step_128 Q E x3 σ113))) σ := h
  refine lv_aload_n hx hb d_C_step_112 rfl (lv_at hl 0 rfl) ?_
  refine r_callv C hD hS (va_runV (As := []) (rest := []) ⟨hx, hb, hml, hown, hts⟩ (m_C_settle h) (cwV 0 hts (g_V kw_374 kw_376 kp_9 kw_1 kw_377) rfl rfl rfl (by decide +kernel) ⟨Nat.le_of_ble_eq_true rfl, Nat.le_of_ble_eq_true rfl⟩) (r_preV (o := 0) C hP hD hS (by decide) rfl rfl) rfl rfl hl.1 rfl (lv_room (Nat.le_of_ble_eq_true rfl)) d_C_step_113 ⟨Nat.le_of_ble_eq_true rfl, Nat.le_of_ble_eq_true rfl⟩) (fun σ113 H locs h hP hD hS => ?_)
  refine lv_iload_n hx hb d_C_step_116 rfl (lv_at hl 1 rfl) ?_
  refine lv_if_eq hx hb d_C_step_117 rfl (fun hc117 => ?_) (fun hc117 => ?_)
  · have h := h.1 hc117
    refine lv_iload_n hx hb d_C_step_124 rfl (lv_at hl 2 rfl) ?_
    refine lv_bipush (v := 16) hx hb d_C_step_125 (by decide) ?_
    refine lv_iadd hx hb d_C_step_127 ?_
    exact b_C_step_128 C hlS hX h (lv_sub hl [] rfl) hP hD hS
  · have h := h.2 hc117
    refine lv_iload_n hx hb d_C_step_120 rfl (lv_at hl 2 rfl) ?_
    refine lv_goto hx hb d_C_step_121 rfl ?_
    exact b_C_step_128 C hlS hX h (lv_sub hl [] rfl) hP hD hS
set_option maxHeartbeats 4000000 in
set_option maxRecDepth 100000 in
theorem b_C_step_61 {p : Program} {l : Launch} {e : Env} {s : State} {m : MethodId} {args : Array Value} {below : List Frame} {meth : Method} {c : Code} {D : va_G} {cI cL cZ cS : ClassId} {ad : Nat → Nat} {wr : va_W} {A : Nat → Prop} {Q : Int32 → Mem → Prop} {E : String → Mem → Prop} {x2 : Int32} {t0 : Int32} {σ : Mem} {H : Heap} {locs : List Loc} {ls : Array Slot} (C : wC TB "PreferenceCount" c_C_step 4 (some .int) D cls (tyl cI cL cZ cS) A p s m args meth c) (hlS : l.stackTraces = false) (hX : ∀ x ∈ c.exceptionTable.toList, False) (h : wp_C_step_61 Q E x2 t0 σ) (hl : lv_has ls 4 [(0, .ref (ad 0)), (2, .int x2)]) (hP : va_P D cls (wW 77 (fX cI cL cS ad) ad σ ++ wr) H) (hD : va_D A (wW 77 (fX cI cL cS ad) ad σ ++ wr)) (hS : va_S A s.heap H locs) : W p l e (headSpec (Cond.code y_C_step c_C_step 4 (some .int) :: TB) rm_C_step).room s m args below meth c H locs 0 0 (vx_MQ below (va_Qi Q (wB D cls (tyl cI cL cZ cS) 77 (fX cI cL cS ad) ad wr A) A) (wX D cls (tyl cI cL cZ cS) 77 (fX cI cL cS ad) ad wr A E) args s 1 6 A) (F0 m 61 ls [.int t0]) := by
  have hx := C.1
  have hb := C.2.1
  have hts := C.2.2.2.2.1
  have hown := C.2.2.2.2.2.1
  have hml := C.2.2.2.2.2.2.1
  have h : ∀ σ69 : Mem, σ69 = mI σ 0 4 ((σ.1 0 4) + (1 : Int32)) → (vp_in (σ69.1 0 4) 13 ∧ (vp_in ((σ69.1 0 4) - (1 : Int32)) 13 ∧ (wp_S_followOn (fun σ92 => (x2 = 0 → (wp_C_excludeAndPass (fun σ109 => wp_C_step_112 Q E x2 t0 σ109) t0 σ92)) ∧ (¬ x2 = 0 → (wp_C_passSurplus (fun σ101 => wp_C_step_112 Q E x2 t0 σ101) t0 σ92))) (12 + 5 * (Int32.toNatClampNeg (σ69.1 0 4))) (12 + 5 * (Int32.toNatClampNeg ((σ69.1 0 4) - (1 : Int32)))) σ69))) := h
  refine lv_istore_n (lv' := [(3, .int t0), (0, .ref (ad 0)), (2, .int x2)]) hx hb d_C_step_61 rfl hl (by decide) rfl (fun ls hl => ?_)
  refine lv_aload_n hx hb d_C_step_62 rfl (lv_at hl 1 rfl) ?_
  refine lv_dup hx hb d_C_step_63 rfl ?_
  refine r_get C ku_C hP (by decide) rfl rfl 4 (by decide) kw_136 rfl d_C_step_64 ?_
  refine lv_iconst (v := 1) hx hb d_C_step_67 (by decide) ?_
  refine lv_iadd hx hb d_C_step_68 ?_
  refine r_putI (ty := .int) C ku_C ft_C fo_C fn_C hP hD hS (by decide) rfl rfl 4 (by decide) kw_136 rfl (by decide +kernel) rfl rfl (Nat.le_of_ble_eq_true rfl) d_C_step_69 rfl (fun σ69 e69 H locs hP hD hS => ?_)
  have h := h σ69 e69
  refine lv_aload_n hx hb d_C_step_72 rfl (lv_at hl 1 rfl) ?_
  refine r_get C ku_C hP (by decide) rfl rfl 2 (by decide) kw_134 rfl d_C_step_73 ?_
  refine lv_aload_n hx hb d_C_step_76 rfl (lv_at hl 1 rfl) ?_
  refine r_get C ku_C hP (by decide) rfl rfl 4 (by decide) kw_136 rfl d_C_step_77 ?_
  obtain ⟨hi80, h⟩ := h
  refine r_aald C hP (by decide) rfl rfl hi80 d_C_step_80 ?_
  refine lv_aload_n hx hb d_C_step_81 rfl (lv_at hl 1 rfl) ?_
  refine r_get C ku_C hP (by decide) rfl rfl 2 (by decide) kw_134 rfl d_C_step_82 ?_
  refine lv_aload_n hx hb d_C_step_85 rfl (lv_at hl 1 rfl) ?_
  refine r_get C ku_C hP (by decide) rfl rfl 4 (by decide) kw_136 rfl d_C_step_86 ?_
  refine lv_iconst (v := 1) hx hb d_C_step_89 (by decide) ?_
  refine lv_isub hx hb d_C_step_90 ?_
  obtain ⟨hi91, h⟩ := h
  refine r_aald C hP (by decide) rfl rfl hi91 d_C_step_91 ?_
  refine r_callv C hD hS (va_runV (As := [.ref (ad (12 + 5 * (Int32.toNatClampNeg ((σ69.1 0 4) - (1 : Int32)))))]) (rest := []) ⟨hx, hb, hml, hown, hts⟩ (m_S_followOn (st_in hi80) (st_in hi91) h) (cwV 1 hts (g_V kw_421 kw_422 kw_423 kw_6 kw_424) rfl rfl rfl (by decide +kernel) ⟨Nat.le_of_ble_eq_true rfl, Nat.le_of_ble_eq_true rfl⟩) (r_preV (o := (12 + 5 * (Int32.toNatClampNeg (σ69.1 0 4)))) C hP hD hS (st_lt (st_in hi80)) (st_cell (st_in hi80) _ _) rfl) rfl rfl hl.1 rfl (lv_room (Nat.le_of_ble_eq_true rfl)) d_C_step_92 ⟨Nat.le_of_ble_eq_true rfl, Nat.le_of_ble_eq_true rfl⟩) (fun σ92 H locs h hP hD hS => ?_)
  refine lv_iload_n hx hb d_C_step_95 rfl (lv_at hl 2 rfl) ?_
  refine lv_if_eq hx hb d_C_step_96 rfl (fun hc96 => ?_) (fun hc96 => ?_)
  · have h := h.1 hc96
    refine lv_aload_n hx hb d_C_step_107 rfl (lv_at hl 1 rfl) ?_
    refine lv_iload_n hx hb d_C_step_108 rfl (lv_at hl 0 rfl) ?_
    refine r_callv C hD hS (va_runV (As := [.int t0]) (rest := []) ⟨hx, hb, hml, hown, hts⟩ (m_C_excludeAndPass h) (cwV 1 hts (g_V kw_437 kw_439 kp_16 kw_1 kw_440) rfl rfl rfl (by decide +kernel) ⟨Nat.le_of_ble_eq_true rfl, Nat.le_of_ble_eq_true rfl⟩) (r_preV (o := 0) C hP hD hS (by decide) rfl rfl) rfl rfl hl.1 rfl (lv_room (Nat.le_of_ble_eq_true rfl)) d_C_step_109 ⟨Nat.le_of_ble_eq_true rfl, Nat.le_of_ble_eq_true rfl⟩) (fun σ109 H locs h hP hD hS => ?_)
    exact b_C_step_112 C hlS hX h (lv_sub hl [1, 2, 0] rfl) hP hD hS
  · have h := h.2 hc96
    refine lv_aload_n hx hb d_C_step_99 rfl (lv_at hl 1 rfl) ?_
    refine lv_iload_n hx hb d_C_step_100 rfl (lv_at hl 0 rfl) ?_
    refine r_callv C hD hS (va_runV (As := [.int t0]) (rest := []) ⟨hx, hb, hml, hown, hts⟩ (m_C_passSurplus h) (cwV 1 hts (g_V kw_432 kw_434 kp_15 kw_1 kw_435) rfl rfl rfl (by decide +kernel) ⟨Nat.le_of_ble_eq_true rfl, Nat.le_of_ble_eq_true rfl⟩) (r_preV (o := 0) C hP hD hS (by decide) rfl rfl) rfl rfl hl.1 rfl (lv_room (Nat.le_of_ble_eq_true rfl)) d_C_step_101 ⟨Nat.le_of_ble_eq_true rfl, Nat.le_of_ble_eq_true rfl⟩) (fun σ101 H locs h hP hD hS => ?_)
    refine lv_goto hx hb d_C_step_104 rfl ?_
    exact b_C_step_112 C hlS hX h (lv_sub hl [1, 2, 0] rfl) hP hD hS
set_option maxHeartbeats 4000000 in
set_option maxRecDepth 100000 in
theorem b_C_step_48 {p : Program} {l : Launch} {e : Env} {s : State} {m : MethodId} {args : Array Value} {below : List Frame} {meth : Method} {c : Code} {D : va_G} {cI cL cZ cS : ClassId} {ad : Nat → Nat} {wr : va_W} {A : Nat → Prop} {Q : Int32 → Mem → Prop} {E : String → Mem → Prop} {x1 : Int32} {t0 : Int32} {σ : Mem} {H : Heap} {locs : List Loc} {ls : Array Slot} (C : wC TB "PreferenceCount" c_C_step 4 (some .int) D cls (tyl cI cL cZ cS) A p s m args meth c) (hlS : l.stackTraces = false) (hX : ∀ x ∈ c.exceptionTable.toList, False) (h : wp_C_step_48 Q E x1 t0 σ) (hl : lv_has ls 4 [(0, .ref (ad 0)), (1, .int x1)]) (hP : va_P D cls (wW 77 (fX cI cL cS ad) ad σ ++ wr) H) (hD : va_D A (wW 77 (fX cI cL cS ad) ad σ ++ wr)) (hS : va_S A s.heap H locs) : W p l e (headSpec (Cond.code y_C_step c_C_step 4 (some .int) :: TB) rm_C_step).room s m args below meth c H locs 0 0 (vx_MQ below (va_Qi Q (wB D cls (tyl cI cL cZ cS) 77 (fX cI cL cS ad) ad wr A) A) (wX D cls (tyl cI cL cZ cS) 77 (fX cI cL cS ad) ad wr A E) args s 1 6 A) (F0 m 48 ls [.int t0]) := by
  have hx := C.1
  have hb := C.2.1
  have hts := C.2.2.2.2.1
  have hown := C.2.2.2.2.2.1
  have hml := C.2.2.2.2.2.2.1
  have h : (t0 = 0 → (wp_C_hindmost (fun r58 σ58 => wp_C_step_61 Q E t0 r58 σ58) σ)) ∧ (¬ t0 = 0 → (wp_C_step_61 Q E t0 x1 σ)) := h
  refine lv_istore_n (lv' := [(2, .int t0), (0, .ref (ad 0)), (1, .int x1)]) hx hb d_C_step_48 rfl hl (by decide) rfl (fun ls hl => ?_)
  refine lv_iload_n hx hb d_C_step_49 rfl (lv_at hl 0 rfl) ?_
  refine lv_if_eq hx hb d_C_step_50 rfl (fun hc50 => ?_) (fun hc50 => ?_)
  · have h := h.1 hc50
    refine lv_aload_n hx hb d_C_step_57 rfl (lv_at hl 1 rfl) ?_
    refine r_calli C hD hS (va_runV (As := []) (rest := []) ⟨hx, hb, hml, hown, hts⟩ (m_C_hindmost h) (cwV 0 hts (g_V kw_417 kw_419 kp_14 kw_1 kw_420) rfl rfl rfl (by decide +kernel) ⟨Nat.le_of_ble_eq_true rfl, Nat.le_of_ble_eq_true rfl⟩) (r_preV (o := 0) C hP hD hS (by decide) rfl rfl) rfl rfl hl.1 rfl (lv_room (Nat.le_of_ble_eq_true rfl)) d_C_step_58 ⟨Nat.le_of_ble_eq_true rfl, Nat.le_of_ble_eq_true rfl⟩) (fun r58 σ58 H locs h hP hD hS => ?_)
    exact b_C_step_61 C hlS hX h (lv_sub hl [1, 0] rfl) hP hD hS
  · have h := h.2 hc50
    refine lv_iload_n hx hb d_C_step_53 rfl (lv_at hl 2 rfl) ?_
    refine lv_goto hx hb d_C_step_54 rfl ?_
    exact b_C_step_61 C hlS hX h (lv_sub hl [1, 0] rfl) hP hD hS
set_option maxHeartbeats 4000000 in
set_option maxRecDepth 100000 in
theorem b_C_step_47 {p : Program} {l : Launch} {e : Env} {s : State} {m : MethodId} {args : Array Value} {below : List Frame} {meth : Method} {c : Code} {D : va_G} {cI cL cZ cS : ClassId} {ad : Nat → Nat} {wr : va_W} {A : Nat → Prop} {Q : Int32 → Mem → Prop} {E : String → Mem → Prop} {x1 : Int32} {σ : Mem} {H : Heap} {locs : List Loc} {ls : Array Slot} (C : wC TB "PreferenceCount" c_C_step 4 (some .int) D cls (tyl cI cL cZ cS) A p s m args meth c) (hlS : l.stackTraces = false) (hX : ∀ x ∈ c.exceptionTable.toList, False) (h : wp_C_step_47 Q E x1 σ) (hl : lv_has ls 4 [(0, .ref (ad 0)), (1, .int x1)]) (hP : va_P D cls (wW 77 (fX cI cL cS ad) ad σ ++ wr) H) (hD : va_D A (wW 77 (fX cI cL cS ad) ad σ ++ wr)) (hS : va_S A s.heap H locs) : W p l e (headSpec (Cond.code y_C_step c_C_step 4 (some .int) :: TB) rm_C_step).room s m args below meth c H locs 0 0 (vx_MQ below (va_Qi Q (wB D cls (tyl cI cL cZ cS) 77 (fX cI cL cS ad) ad wr A) A) (wX D cls (tyl cI cL cZ cS) 77 (fX cI cL cS ad) ad wr A E) args s 1 6 A) (F0 m 47 ls []) := by
  have hx := C.1
  have hb := C.2.1
  have hts := C.2.2.2.2.1
  have hown := C.2.2.2.2.2.1
  have hml := C.2.2.2.2.2.2.1
  have h : wp_C_step_48 Q E x1 (0 : Int32) σ := h
  refine lv_iconst (v := 0) hx hb d_C_step_47 (by decide) ?_
  exact b_C_step_48 C hlS hX h (lv_sub hl [0, 1] rfl) hP hD hS
set_option maxHeartbeats 4000000 in
set_option maxRecDepth 100000 in
theorem b_C_step_14 {p : Program} {l : Launch} {e : Env} {s : State} {m : MethodId} {args : Array Value} {below : List Frame} {meth : Method} {c : Code} {D : va_G} {cI cL cZ cS : ClassId} {ad : Nat → Nat} {wr : va_W} {A : Nat → Prop} {Q : Int32 → Mem → Prop} {E : String → Mem → Prop} {σ : Mem} {H : Heap} {locs : List Loc} {ls : Array Slot} (C : wC TB "PreferenceCount" c_C_step 4 (some .int) D cls (tyl cI cL cZ cS) A p s m args meth c) (hlS : l.stackTraces = false) (hX : ∀ x ∈ c.exceptionTable.toList, False) (h : wp_C_step_14 Q E σ) (hl : lv_has ls 4 []) (hP : va_P D cls (wW 77 (fX cI cL cS ad) ad σ ++ wr) H) (hD : va_D A (wW 77 (fX cI cL cS ad) ad σ ++ wr)) (hS : va_S A s.heap H locs) : W p l e (headSpec (Cond.code y_C_step c_C_step 4 (some .int) :: TB) rm_C_step).room s m args below meth c H locs 0 0 (vx_MQ below (va_Qi Q (wB D cls (tyl cI cL cZ cS) 77 (fX cI cL cS ad) ad wr A) A) (wX D cls (tyl cI cL cZ cS) 77 (fX cI cL cS ad) ad wr A E) args s 1 6 A) (F0 m 14 ls []) := by
  have hx := C.1
  have hb := C.2.1
  have hts := C.2.2.2.2.1
  have hown := C.2.2.2.2.2.1
  have hml := C.2.2.2.2.2.2.1
  have h : E xIS σ := h
  exact x_throw (X := xIS) (text := "the count has not begun, or is over") C hlS hX hP hD hS (by decide +kernel) kw_261 kw_12 (by decide +kernel) xat_IS xgo_IS hl.1 d_C_step_14 d_C_step_17 d_C_step_18 d_C_step_20 d_C_step_23 (Nat.le_of_ble_eq_true rfl) (Nat.le_of_ble_eq_true rfl) (Nat.le_of_ble_eq_true rfl) (Nat.le_of_ble_eq_true rfl) (Nat.le_of_ble_eq_true rfl) (Nat.le_of_ble_eq_true rfl) h
set_option maxHeartbeats 4000000 in
set_option maxRecDepth 100000 in
theorem m_C_step {l : Launch} {D : va_G} {cI cL cZ cS : ClassId} {ad : Nat → Nat} {wr : va_W} {sz : Nat} {Q : Int32 → Mem → Prop} {E : String → Mem → Prop} {σ : Mem} (hlS : l.stackTraces = false) (h : wp_C_step Q E σ) : vx_Met l y_C_step (Cond.code y_C_step c_C_step 4 (some .int) :: TB) rm_C_step (wPc D cls (tyl cI cL cZ cS) 77 (fX cI cL cS ad) ad wr sz σ [.ref (ad 0)]) (va_Qi Q (wB D cls (tyl cI cL cZ cS) 77 (fX cI cL cS ad) ad wr (wA 77 (fX cI cL cS ad) ad wr sz σ)) (wA 77 (fX cI cL cS ad) ad wr sz σ)) (wX D cls (tyl cI cL cZ cS) 77 (fX cI cL cS ad) ad wr (wA 77 (fX cI cL cS ad) ad wr sz σ) E) 1 6 (wA 77 (fX cI cL cS ad) ad wr sz σ) := by
  refine vx_ofW (cc := c_C_step) (maxL := 4) (ret := (some .int)) (by decide) rfl ?_
  intro p e s m args below meth c s₁ B hml hX hv
  obtain ⟨rfl, hsz, hP, hK, hD0, hN⟩ := hv
  subst hsz
  have hD : va_D (wA 77 (fX cI cL cS ad) ad wr s.heap.size σ) (wW 77 (fX cI cL cS ad) ad σ ++ wr) := hD0.self (sz := s.heap.size)
  have hA : ∀ q : Nat, s.heap.size ≤ q → (wA 77 (fX cI cL cS ad) ad wr s.heap.size σ) q := fun q h => Or.inr h
  have hN : NX (wA 77 (fX cI cL cS ad) ad wr s.heap.size σ) s s.heap := hN
  generalize (wA 77 (fX cI cL cS ad) ad wr s.heap.size σ) = A at hD hA hN ⊢
  have C : wC TB "PreferenceCount" c_C_step 4 (some .int) D cls (tyl cI cL cZ cS) A p s m ([.ref (ad 0)].toArray) meth c := ⟨B.exec, B.bytes, B.returns, B.notSynchronized, fun w hw => atoms_spec (ws := Cond.code y_C_step c_C_step 4 (some .int) :: TB) B.pre w (List.mem_cons_of_mem _ hw), findClass_of_methodNamed B.named, hml, hK, hN, hA⟩
  have hx := C.1
  have hb := C.2.1
  have hts := C.2.2.2.2.1
  have hown := C.2.2.2.2.2.1
  have hS : va_S A s.heap s.heap [] := va_S.rf
  have hl := lv_entry ([.ref (ad 0)]) (n := 4) (Nat.le_of_ble_eq_true rfl)
  rw [lg_entry_eq]
  generalize (lg_sl ([.ref (ad 0)]) ++ List.replicate (4 - (lg_sl ([.ref (ad 0)])).length) Slot.unset).toArray = ls at hl ⊢
  have hl : lv_has ls 4 [(0, .ref (ad 0))] := hl
  have h : wp_C_hasBegun (fun r1 σ1 => (r1 = 0 → (wp_C_step_14 Q E σ1)) ∧ (¬ r1 = 0 → (((σ1.1 0 5) = 0 → (wp_C_foremost (fun r26 σ26 => (r26 = (-1 : Int32) → (wp_C_step_47 Q E r26 σ26)) ∧ (¬ r26 = (-1 : Int32) → (wp_C_isAboveQuota (fun r37 σ37 => (r37 = 0 → (wp_C_step_47 Q E r26 σ37)) ∧ (¬ r37 = 0 → (wp_C_step_48 Q E r26 (1 : Int32) σ37))) r26 σ26))) (1 : Int32) σ1)) ∧ (¬ (σ1.1 0 5) = 0 → (wp_C_step_14 Q E σ1))))) σ := h
  refine lv_aload_n hx hb d_C_step_0 rfl (lv_at hl 0 rfl) ?_
  refine r_calli C hD hS (va_runV (As := []) (rest := []) ⟨hx, hb, hml, hown, hts⟩ (m_C_hasBegun h) (cwV 0 hts (g_V kw_257 kw_259 kp_3 kw_1 kw_260) rfl rfl rfl (by decide +kernel) ⟨Nat.le_of_ble_eq_true rfl, Nat.le_of_ble_eq_true rfl⟩) (r_preV (o := 0) C hP hD hS (by decide) rfl rfl) rfl rfl hl.1 rfl (lv_room (Nat.le_of_ble_eq_true rfl)) d_C_step_1 ⟨Nat.le_of_ble_eq_true rfl, Nat.le_of_ble_eq_true rfl⟩) (fun r1 σ1 H locs h hP hD hS => ?_)
  refine lv_if_eq hx hb d_C_step_4 rfl (fun hc4 => ?_) (fun hc4 => ?_)
  · have h := h.1 hc4
    exact b_C_step_14 C hlS hX h (lv_sub hl [] rfl) hP hD hS
  · have h := h.2 hc4
    refine lv_aload_n hx hb d_C_step_7 rfl (lv_at hl 0 rfl) ?_
    refine r_get C ku_C hP (by decide) rfl rfl 5 (by decide) kw_137 rfl d_C_step_8 ?_
    refine lv_if_eq hx hb d_C_step_11 rfl (fun hc11 => ?_) (fun hc11 => ?_)
    · have h := h.1 hc11
      refine lv_aload_n hx hb d_C_step_24 rfl (lv_at hl 0 rfl) ?_
      refine lv_iconst (v := 1) hx hb d_C_step_25 (by decide) ?_
      refine r_calli C hD hS (va_runV (As := [.int (1 : Int32)]) (rest := []) ⟨hx, hb, hml, hown, hts⟩ (m_C_foremost h) (cwV 1 hts (g_V kw_382 kw_384 kp_11 kw_1 kw_385) rfl rfl rfl (by decide +kernel) ⟨Nat.le_of_ble_eq_true rfl, Nat.le_of_ble_eq_true rfl⟩) (r_preV (o := 0) C hP hD hS (by decide) rfl rfl) rfl rfl hl.1 rfl (lv_room (Nat.le_of_ble_eq_true rfl)) d_C_step_26 ⟨Nat.le_of_ble_eq_true rfl, Nat.le_of_ble_eq_true rfl⟩) (fun r26 σ26 H locs h hP hD hS => ?_)
      refine lv_istore_n (lv' := [(1, .int r26), (0, .ref (ad 0))]) hx hb d_C_step_29 rfl hl (by decide) rfl (fun ls hl => ?_)
      refine lv_iload_n hx hb d_C_step_30 rfl (lv_at hl 0 rfl) ?_
      refine lv_iconst (v := (-1)) hx hb d_C_step_31 (by decide) ?_
      refine lv_icmp_eq hx hb d_C_step_32 rfl (fun hc32 => ?_) (fun hc32 => ?_)
      · have h := h.1 hc32
        exact b_C_step_47 C hlS hX h (lv_sub hl [1, 0] rfl) hP hD hS
      · have h := h.2 hc32
        refine lv_aload_n hx hb d_C_step_35 rfl (lv_at hl 1 rfl) ?_
        refine lv_iload_n hx hb d_C_step_36 rfl (lv_at hl 0 rfl) ?_
        refine r_calli C hD hS (va_runV (As := [.int r26]) (rest := []) ⟨hx, hb, hml, hown, hts⟩ (m_C_isAboveQuota h) (cwV 1 hts (g_V kw_401 kw_403 kp_13 kw_1 kw_404) rfl rfl rfl (by decide +kernel) ⟨Nat.le_of_ble_eq_true rfl, Nat.le_of_ble_eq_true rfl⟩) (r_preV (o := 0) C hP hD hS (by decide) rfl rfl) rfl rfl hl.1 rfl (lv_room (Nat.le_of_ble_eq_true rfl)) d_C_step_37 ⟨Nat.le_of_ble_eq_true rfl, Nat.le_of_ble_eq_true rfl⟩) (fun r37 σ37 H locs h hP hD hS => ?_)
        refine lv_if_eq hx hb d_C_step_40 rfl (fun hc40 => ?_) (fun hc40 => ?_)
        · have h := h.1 hc40
          exact b_C_step_47 C hlS hX h (lv_sub hl [1, 0] rfl) hP hD hS
        · have h := h.2 hc40
          refine lv_iconst (v := 1) hx hb d_C_step_43 (by decide) ?_
          refine lv_goto hx hb d_C_step_44 rfl ?_
          exact b_C_step_48 C hlS hX h (lv_sub hl [1, 0] rfl) hP hD hS
    · have h := h.2 hc11
      exact b_C_step_14 C hlS hX h (lv_sub hl [] rfl) hP hD hS
def rm_C_status : Room := { frames := 6, cells := 1, slots := 6, locals := 90 }
set_option maxHeartbeats 4000000 in
set_option maxRecDepth 100000 in
theorem m_C_status {l : Launch} {D : va_G} {cI cL cZ cS : ClassId} {ad : Nat → Nat} {wr : va_W} {sz : Nat} {Q : Int32 → Mem → Prop} {E : String → Mem → Prop} {x1 : Int32} {σ : Mem} (hlS : l.stackTraces = false) (h : wp_C_status Q E x1 σ) : vx_Met l y_C_status (Cond.code y_C_status c_C_status 2 (some .int) :: TB) rm_C_status (wPc D cls (tyl cI cL cZ cS) 77 (fX cI cL cS ad) ad wr sz σ [.ref (ad 0), .int x1]) (va_Qi Q (wB D cls (tyl cI cL cZ cS) 77 (fX cI cL cS ad) ad wr (wA 77 (fX cI cL cS ad) ad wr sz σ)) (wA 77 (fX cI cL cS ad) ad wr sz σ)) (wX D cls (tyl cI cL cZ cS) 77 (fX cI cL cS ad) ad wr (wA 77 (fX cI cL cS ad) ad wr sz σ) E) 1 6 (wA 77 (fX cI cL cS ad) ad wr sz σ) := by
  refine vx_ofW (cc := c_C_status) (maxL := 2) (ret := (some .int)) (by decide) rfl ?_
  intro p e s m args below meth c s₁ B hml hX hv
  obtain ⟨rfl, hsz, hP, hK, hD0, hN⟩ := hv
  subst hsz
  have hD : va_D (wA 77 (fX cI cL cS ad) ad wr s.heap.size σ) (wW 77 (fX cI cL cS ad) ad σ ++ wr) := hD0.self (sz := s.heap.size)
  have hA : ∀ q : Nat, s.heap.size ≤ q → (wA 77 (fX cI cL cS ad) ad wr s.heap.size σ) q := fun q h => Or.inr h
  have hN : NX (wA 77 (fX cI cL cS ad) ad wr s.heap.size σ) s s.heap := hN
  generalize (wA 77 (fX cI cL cS ad) ad wr s.heap.size σ) = A at hD hA hN ⊢
  have C : wC TB "PreferenceCount" c_C_status 2 (some .int) D cls (tyl cI cL cZ cS) A p s m ([.ref (ad 0), .int x1].toArray) meth c := ⟨B.exec, B.bytes, B.returns, B.notSynchronized, fun w hw => atoms_spec (ws := Cond.code y_C_status c_C_status 2 (some .int) :: TB) B.pre w (List.mem_cons_of_mem _ hw), findClass_of_methodNamed B.named, hml, hK, hN, hA⟩
  have hx := C.1
  have hb := C.2.1
  have hts := C.2.2.2.2.1
  have hown := C.2.2.2.2.2.1
  have hS : va_S A s.heap s.heap [] := va_S.rf
  have hl := lv_entry ([.ref (ad 0), .int x1]) (n := 2) (Nat.le_of_ble_eq_true rfl)
  rw [lg_entry_eq]
  generalize (lg_sl ([.ref (ad 0), .int x1]) ++ List.replicate (2 - (lg_sl ([.ref (ad 0), .int x1])).length) Slot.unset).toArray = ls at hl ⊢
  have hl : lv_has ls 2 [(0, .ref (ad 0)), (1, .int x1)] := hl
  have h : wp_R_has (fun r5 σ5 => (r5 = 0 → (E xIB σ5)) ∧ (¬ r5 = 0 → (vp_in x1 12 ∧ (Q (σ5.1 3 (Int32.toNatClampNeg x1)) σ5)))) x1 σ := h
  refine lv_aload_n hx hb d_C_status_0 rfl (lv_at hl 0 rfl) ?_
  refine r_get C ku_C hP (by decide) rfl rfl 0 (by decide) kw_132 rfl d_C_status_1 ?_
  refine lv_iload_n hx hb d_C_status_4 rfl (lv_at hl 1 rfl) ?_
  refine r_calli C hD hS (va_runV (As := [.int x1]) (rest := []) ⟨hx, hb, hml, hown, hts⟩ (m_R_has h) (cwV 1 hts (g_V kw_277 kw_278 kw_279 kw_2 kw_280) rfl rfl rfl (by decide +kernel) ⟨Nat.le_of_ble_eq_true rfl, Nat.le_of_ble_eq_true rfl⟩) (r_preV (o := 1) C hP hD hS (by decide) rfl rfl) rfl rfl hl.1 rfl (lv_room (Nat.le_of_ble_eq_true rfl)) d_C_status_5 ⟨Nat.le_of_ble_eq_true rfl, Nat.le_of_ble_eq_true rfl⟩) (fun r5 σ5 H locs h hP hD hS => ?_)
  refine lv_if_ne hx hb d_C_status_8 rfl (fun hc8 => ?_) (fun hc8 => ?_)
  · have h := h.2 hc8
    refine lv_aload_n hx hb d_C_status_21 rfl (lv_at hl 0 rfl) ?_
    refine r_get C ku_C hP (by decide) rfl rfl 0 (by decide) kw_132 rfl d_C_status_22 ?_
    refine r_get C ku_R hP (by decide) rfl rfl 1 (by decide) kw_33 rfl d_C_status_25 ?_
    refine lv_iload_n hx hb d_C_status_28 rfl (lv_at hl 1 rfl) ?_
    obtain ⟨hi29, h⟩ := h
    refine r_iald C hP (by decide) rfl rfl hi29 d_C_status_29 ?_
    exact x_iret (Nat.le_of_ble_eq_true rfl) (Nat.le_of_ble_eq_true rfl) C hP hD hS d_C_status_30 h
  · have h := h.1 hc8
    exact x_throw (X := xIB) (text := "no such candidate") C hlS hX hP hD hS (by decide +kernel) kw_449 kw_15 (by decide +kernel) xat_IB xgo_IB hl.1 d_C_status_11 d_C_status_14 d_C_status_15 d_C_status_17 d_C_status_20 (Nat.le_of_ble_eq_true rfl) (Nat.le_of_ble_eq_true rfl) (Nat.le_of_ble_eq_true rfl) (Nat.le_of_ble_eq_true rfl) (Nat.le_of_ble_eq_true rfl) (Nat.le_of_ble_eq_true rfl) h
def rm_C_total : Room := { frames := 7, cells := 1, slots := 6, locals := 112 }
set_option maxHeartbeats 4000000 in
set_option maxRecDepth 100000 in
theorem b_C_total_38 {p : Program} {l : Launch} {e : Env} {s : State} {m : MethodId} {args : Array Value} {below : List Frame} {meth : Method} {c : Code} {D : va_G} {cI cL cZ cS : ClassId} {ad : Nat → Nat} {wr : va_W} {A : Nat → Prop} {Q : Int64 → Mem → Prop} {E : String → Mem → Prop} {u0 : Int64} {σ : Mem} {H : Heap} {locs : List Loc} {ls : Array Slot} (C : wC TB "PreferenceCount" c_C_total 5 (some .long) D cls (tyl cI cL cZ cS) A p s m args meth c) (hlS : l.stackTraces = false) (hX : ∀ x ∈ c.exceptionTable.toList, False) (h : wp_C_total_38 Q E u0 σ) (hl : lv_has ls 5 []) (hP : va_P D cls (wW 77 (fX cI cL cS ad) ad σ ++ wr) H) (hD : va_D A (wW 77 (fX cI cL cS ad) ad σ ++ wr)) (hS : va_S A s.heap H locs) : W p l e (headSpec (Cond.code y_C_total c_C_total 5 (some .long) :: TB) rm_C_total).room s m args below meth c H locs 1 6 (vx_MQ below (va_Ql Q (wB D cls (tyl cI cL cZ cS) 77 (fX cI cL cS ad) ad wr A) A) (wX D cls (tyl cI cL cZ cS) 77 (fX cI cL cS ad) ad wr A E) args s 1 6 A) (F0 m 38 ls [.long u0]) := by
  have hx := C.1
  have hb := C.2.1
  have hts := C.2.2.2.2.1
  have hown := C.2.2.2.2.2.1
  have hml := C.2.2.2.2.2.2.1
  have h : Q u0 σ := h
  exact x_lret (Nat.le_of_ble_eq_true rfl) (Nat.le_of_ble_eq_true rfl) C hP hD hS d_C_total_38 h
set_option maxHeartbeats 4000000 in
set_option maxRecDepth 100000 in
theorem m_C_total {l : Launch} {D : va_G} {cI cL cZ cS : ClassId} {ad : Nat → Nat} {wr : va_W} {sz : Nat} {Q : Int64 → Mem → Prop} {E : String → Mem → Prop} {x1 : Int32} {x2 : Int32} {x3 : Int32} {σ : Mem} (hlS : l.stackTraces = false) (h : wp_C_total Q E x1 x2 x3 σ) : vx_Met l y_C_total (Cond.code y_C_total c_C_total 5 (some .long) :: TB) rm_C_total (wPc D cls (tyl cI cL cZ cS) 77 (fX cI cL cS ad) ad wr sz σ [.ref (ad 0), .int x1, .int x2, .int x3]) (va_Ql Q (wB D cls (tyl cI cL cZ cS) 77 (fX cI cL cS ad) ad wr (wA 77 (fX cI cL cS ad) ad wr sz σ)) (wA 77 (fX cI cL cS ad) ad wr sz σ)) (wX D cls (tyl cI cL cZ cS) 77 (fX cI cL cS ad) ad wr (wA 77 (fX cI cL cS ad) ad wr sz σ) E) 1 6 (wA 77 (fX cI cL cS ad) ad wr sz σ) := by
  refine vx_ofW (cc := c_C_total) (maxL := 5) (ret := (some .long)) (by decide) rfl ?_
  intro p e s m args below meth c s₁ B hml hX hv
  obtain ⟨rfl, hsz, hP, hK, hD0, hN⟩ := hv
  subst hsz
  have hD : va_D (wA 77 (fX cI cL cS ad) ad wr s.heap.size σ) (wW 77 (fX cI cL cS ad) ad σ ++ wr) := hD0.self (sz := s.heap.size)
  have hA : ∀ q : Nat, s.heap.size ≤ q → (wA 77 (fX cI cL cS ad) ad wr s.heap.size σ) q := fun q h => Or.inr h
  have hN : NX (wA 77 (fX cI cL cS ad) ad wr s.heap.size σ) s s.heap := hN
  generalize (wA 77 (fX cI cL cS ad) ad wr s.heap.size σ) = A at hD hA hN ⊢
  have C : wC TB "PreferenceCount" c_C_total 5 (some .long) D cls (tyl cI cL cZ cS) A p s m ([.ref (ad 0), .int x1, .int x2, .int x3].toArray) meth c := ⟨B.exec, B.bytes, B.returns, B.notSynchronized, fun w hw => atoms_spec (ws := Cond.code y_C_total c_C_total 5 (some .long) :: TB) B.pre w (List.mem_cons_of_mem _ hw), findClass_of_methodNamed B.named, hml, hK, hN, hA⟩
  have hx := C.1
  have hb := C.2.1
  have hts := C.2.2.2.2.1
  have hown := C.2.2.2.2.2.1
  have hS : va_S A s.heap s.heap [] := va_S.rf
  have hl := lv_entry ([.ref (ad 0), .int x1, .int x2, .int x3]) (n := 5) (Nat.le_of_ble_eq_true rfl)
  rw [lg_entry_eq]
  generalize (lg_sl ([.ref (ad 0), .int x1, .int x2, .int x3]) ++ List.replicate (5 - (lg_sl ([.ref (ad 0), .int x1, .int x2, .int x3])).length) Slot.unset).toArray = ls at hl ⊢
  have hl : lv_has ls 5 [(0, .ref (ad 0)), (1, .int x1), (2, .int x2), (3, .int x3)] := hl
  have h : wp_C_refuseUnknown (fun σ3 => vp_in x1 13 ∧ ((x3 = 0 → (vp_in x2 (frLen ((12 + 5 * (Int32.toNatClampNeg x1)) + 1)) ∧ (wp_C_total_38 Q E (σ3.2 (((12 + 5 * (Int32.toNatClampNeg x1)) + 1) + 1) (Int32.toNatClampNeg x2)) σ3))) ∧ (¬ x3 = 0 → (vp_in x2 (frLen ((12 + 5 * (Int32.toNatClampNeg x1)) + 1)) ∧ (wp_C_total_38 Q E (σ3.2 (((12 + 5 * (Int32.toNatClampNeg x1)) + 1) + 2) (Int32.toNatClampNeg x2)) σ3))))) E x1 x2 σ := h
  refine lv_aload_n hx hb d_C_total_0 rfl (lv_at hl 0 rfl) ?_
  refine lv_iload_n hx hb d_C_total_1 rfl (lv_at hl 1 rfl) ?_
  refine lv_iload_n hx hb d_C_total_2 rfl (lv_at hl 2 rfl) ?_
  refine x_callv C hX hD hS (Nat.le_of_ble_eq_true rfl) (Nat.le_of_ble_eq_true rfl) (vx_runV (As := [.int x1, .int x2]) (rest := []) ⟨hx, hb, hml, hown, hts⟩ (m_C_refuseUnknown hlS h) (cwV 2 hts (g_V kw_472 kw_474 kp_17 kw_1 kw_475) rfl rfl rfl (by decide +kernel) ⟨Nat.le_of_ble_eq_true rfl, Nat.le_of_ble_eq_true rfl⟩) (r_preV (o := 0) C hP hD hS (by decide) rfl rfl) rfl rfl hl.1 rfl (lv_room (Nat.le_of_ble_eq_true rfl)) d_C_total_3 ⟨Nat.le_of_ble_eq_true rfl, Nat.le_of_ble_eq_true rfl⟩) (fun σ3 H locs h hP hD hS => ?_)
  refine lv_aload_n hx hb d_C_total_6 rfl (lv_at hl 0 rfl) ?_
  refine r_get C ku_C hP (by decide) rfl rfl 2 (by decide) kw_134 rfl d_C_total_7 ?_
  refine lv_iload_n hx hb d_C_total_10 rfl (lv_at hl 1 rfl) ?_
  obtain ⟨hi11, h⟩ := h
  refine r_aald C hP (by decide) rfl rfl hi11 d_C_total_11 ?_
  refine r_get C ku_S hP (st_lt (st_in hi11)) (st_cell (st_in hi11) _ _) rfl 0 (by decide) kw_112 rfl d_C_total_12 ?_
  refine lv_astore (lv' := [(4, .ref (ad ((12 + 5 * (Int32.toNatClampNeg x1)) + 1))), (0, .ref (ad 0)), (1, .int x1), (2, .int x2), (3, .int x3)]) hx hb d_C_total_15 hl (by decide) rfl (fun ls hl => ?_)
  refine lv_iload_n hx hb d_C_total_17 rfl (lv_at hl 4 rfl) ?_
  refine lv_if_eq hx hb d_C_total_18 rfl (fun hc18 => ?_) (fun hc18 => ?_)
  · have h := h.1 hc18
    refine lv_aload hx hb d_C_total_31 (lv_at hl 0 rfl) ?_
    refine r_get C ku_F hP (fr_lt (st_fr (st_in hi11))) (fr_cell (st_fr (st_in hi11)) _ _) rfl 0 (by decide) kw_68 rfl d_C_total_33 ?_
    refine lv_iload_n hx hb d_C_total_36 rfl (lv_at hl 3 rfl) ?_
    obtain ⟨hi37, h⟩ := h
    refine r_lald C hP (fr_lt1 (st_fr (st_in hi11))) (fr_cell1 (st_fr (st_in hi11)) _ _) rfl hi37 d_C_total_37 ?_
    exact b_C_total_38 C hlS hX h (lv_sub hl [] rfl) hP hD hS
  · have h := h.2 hc18
    refine lv_aload hx hb d_C_total_21 (lv_at hl 0 rfl) ?_
    refine r_get C ku_F hP (fr_lt (st_fr (st_in hi11))) (fr_cell (st_fr (st_in hi11)) _ _) rfl 1 (by decide) kw_70 rfl d_C_total_23 ?_
    refine lv_iload_n hx hb d_C_total_26 rfl (lv_at hl 3 rfl) ?_
    obtain ⟨hi27, h⟩ := h
    refine r_lald C hP (fr_lt2 (st_fr (st_in hi11))) (fr_cell2 (st_fr (st_in hi11)) _ _) rfl hi27 d_C_total_27 ?_
    refine lv_goto hx hb d_C_total_28 rfl ?_
    exact b_C_total_38 C hlS hX h (lv_sub hl [] rfl) hP hD hS
def rm_C_papers : Room := { frames := 6, cells := 1, slots := 6, locals := 90 }
set_option maxHeartbeats 4000000 in
set_option maxRecDepth 100000 in
theorem m_C_papers {l : Launch} {D : va_G} {cI cL cZ cS : ClassId} {ad : Nat → Nat} {wr : va_W} {sz : Nat} {Q : Int32 → Mem → Prop} {E : String → Mem → Prop} {x1 : Int32} {σ : Mem} (hlS : l.stackTraces = false) (h : wp_C_papers Q E x1 σ) : vx_Met l y_C_papers (Cond.code y_C_papers c_C_papers 2 (some .int) :: TB) rm_C_papers (wPc D cls (tyl cI cL cZ cS) 77 (fX cI cL cS ad) ad wr sz σ [.ref (ad 0), .int x1]) (va_Qi Q (wB D cls (tyl cI cL cZ cS) 77 (fX cI cL cS ad) ad wr (wA 77 (fX cI cL cS ad) ad wr sz σ)) (wA 77 (fX cI cL cS ad) ad wr sz σ)) (wX D cls (tyl cI cL cZ cS) 77 (fX cI cL cS ad) ad wr (wA 77 (fX cI cL cS ad) ad wr sz σ) E) 1 6 (wA 77 (fX cI cL cS ad) ad wr sz σ) := by
  refine vx_ofW (cc := c_C_papers) (maxL := 2) (ret := (some .int)) (by decide) rfl ?_
  intro p e s m args below meth c s₁ B hml hX hv
  obtain ⟨rfl, hsz, hP, hK, hD0, hN⟩ := hv
  subst hsz
  have hD : va_D (wA 77 (fX cI cL cS ad) ad wr s.heap.size σ) (wW 77 (fX cI cL cS ad) ad σ ++ wr) := hD0.self (sz := s.heap.size)
  have hA : ∀ q : Nat, s.heap.size ≤ q → (wA 77 (fX cI cL cS ad) ad wr s.heap.size σ) q := fun q h => Or.inr h
  have hN : NX (wA 77 (fX cI cL cS ad) ad wr s.heap.size σ) s s.heap := hN
  generalize (wA 77 (fX cI cL cS ad) ad wr s.heap.size σ) = A at hD hA hN ⊢
  have C : wC TB "PreferenceCount" c_C_papers 2 (some .int) D cls (tyl cI cL cZ cS) A p s m ([.ref (ad 0), .int x1].toArray) meth c := ⟨B.exec, B.bytes, B.returns, B.notSynchronized, fun w hw => atoms_spec (ws := Cond.code y_C_papers c_C_papers 2 (some .int) :: TB) B.pre w (List.mem_cons_of_mem _ hw), findClass_of_methodNamed B.named, hml, hK, hN, hA⟩
  have hx := C.1
  have hb := C.2.1
  have hts := C.2.2.2.2.1
  have hown := C.2.2.2.2.2.1
  have hS : va_S A s.heap s.heap [] := va_S.rf
  have hl := lv_entry ([.ref (ad 0), .int x1]) (n := 2) (Nat.le_of_ble_eq_true rfl)
  rw [lg_entry_eq]
  generalize (lg_sl ([.ref (ad 0), .int x1]) ++ List.replicate (2 - (lg_sl ([.ref (ad 0), .int x1])).length) Slot.unset).toArray = ls at hl ⊢
  have hl : lv_has ls 2 [(0, .ref (ad 0)), (1, .int x1)] := hl
  have h : wp_R_hasOrIsNobody (fun r5 σ5 => (r5 = 0 → (E xIB σ5)) ∧ (¬ r5 = 0 → (wp_P_lyingWith (fun r26 σ26 => Q r26 σ26) x1 σ5))) x1 σ := h
  refine lv_aload_n hx hb d_C_papers_0 rfl (lv_at hl 0 rfl) ?_
  refine r_get C ku_C hP (by decide) rfl rfl 0 (by decide) kw_132 rfl d_C_papers_1 ?_
  refine lv_iload_n hx hb d_C_papers_4 rfl (lv_at hl 1 rfl) ?_
  refine r_calli C hD hS (va_runV (As := [.int x1]) (rest := []) ⟨hx, hb, hml, hown, hts⟩ (m_R_hasOrIsNobody h) (cwV 1 hts (g_V kw_476 kw_477 kw_478 kw_2 kw_479) rfl rfl rfl (by decide +kernel) ⟨Nat.le_of_ble_eq_true rfl, Nat.le_of_ble_eq_true rfl⟩) (r_preV (o := 1) C hP hD hS (by decide) rfl rfl) rfl rfl hl.1 rfl (lv_room (Nat.le_of_ble_eq_true rfl)) d_C_papers_5 ⟨Nat.le_of_ble_eq_true rfl, Nat.le_of_ble_eq_true rfl⟩) (fun r5 σ5 H locs h hP hD hS => ?_)
  refine lv_if_ne hx hb d_C_papers_8 rfl (fun hc8 => ?_) (fun hc8 => ?_)
  · have h := h.2 hc8
    refine lv_aload_n hx hb d_C_papers_21 rfl (lv_at hl 0 rfl) ?_
    refine r_get C ku_C hP (by decide) rfl rfl 1 (by decide) kw_133 rfl d_C_papers_22 ?_
    refine lv_iload_n hx hb d_C_papers_25 rfl (lv_at hl 1 rfl) ?_
    refine r_calli C hD hS (va_runV (As := [.int x1]) (rest := []) ⟨hx, hb, hml, hown, hts⟩ (m_P_lyingWith h) (cwV 1 hts (g_V kw_488 kw_489 kw_490 kw_3 kw_491) rfl rfl rfl (by decide +kernel) ⟨Nat.le_of_ble_eq_true rfl, Nat.le_of_ble_eq_true rfl⟩) (r_preV (o := 4) C hP hD hS (by decide) rfl rfl) rfl rfl hl.1 rfl (lv_room (Nat.le_of_ble_eq_true rfl)) d_C_papers_26 ⟨Nat.le_of_ble_eq_true rfl, Nat.le_of_ble_eq_true rfl⟩) (fun r26 σ26 H locs h hP hD hS => ?_)
    exact x_iret (Nat.le_of_ble_eq_true rfl) (Nat.le_of_ble_eq_true rfl) C hP hD hS d_C_papers_29 h
  · have h := h.1 hc8
    exact x_throw (X := xIB) (text := "no such candidate") C hlS hX hP hD hS (by decide +kernel) kw_449 kw_15 (by decide +kernel) xat_IB xgo_IB hl.1 d_C_papers_11 d_C_papers_14 d_C_papers_15 d_C_papers_17 d_C_papers_20 (Nat.le_of_ble_eq_true rfl) (Nat.le_of_ble_eq_true rfl) (Nat.le_of_ble_eq_true rfl) (Nat.le_of_ble_eq_true rfl) (Nat.le_of_ble_eq_true rfl) (Nat.le_of_ble_eq_true rfl) h
def rm_C_moved : Room := { frames := 7, cells := 1, slots := 6, locals := 112 }
set_option maxHeartbeats 4000000 in
set_option maxRecDepth 100000 in
theorem m_C_moved {l : Launch} {D : va_G} {cI cL cZ cS : ClassId} {ad : Nat → Nat} {wr : va_W} {sz : Nat} {Q : Int32 → Mem → Prop} {E : String → Mem → Prop} {x1 : Int32} {x2 : Int32} {σ : Mem} (hlS : l.stackTraces = false) (h : wp_C_moved Q E x1 x2 σ) : vx_Met l y_C_moved (Cond.code y_C_moved c_C_moved 3 (some .int) :: TB) rm_C_moved (wPc D cls (tyl cI cL cZ cS) 77 (fX cI cL cS ad) ad wr sz σ [.ref (ad 0), .int x1, .int x2]) (va_Qi Q (wB D cls (tyl cI cL cZ cS) 77 (fX cI cL cS ad) ad wr (wA 77 (fX cI cL cS ad) ad wr sz σ)) (wA 77 (fX cI cL cS ad) ad wr sz σ)) (wX D cls (tyl cI cL cZ cS) 77 (fX cI cL cS ad) ad wr (wA 77 (fX cI cL cS ad) ad wr sz σ) E) 1 6 (wA 77 (fX cI cL cS ad) ad wr sz σ) := by
  refine vx_ofW (cc := c_C_moved) (maxL := 3) (ret := (some .int)) (by decide) rfl ?_
  intro p e s m args below meth c s₁ B hml hX hv
  obtain ⟨rfl, hsz, hP, hK, hD0, hN⟩ := hv
  subst hsz
  have hD : va_D (wA 77 (fX cI cL cS ad) ad wr s.heap.size σ) (wW 77 (fX cI cL cS ad) ad σ ++ wr) := hD0.self (sz := s.heap.size)
  have hA : ∀ q : Nat, s.heap.size ≤ q → (wA 77 (fX cI cL cS ad) ad wr s.heap.size σ) q := fun q h => Or.inr h
  have hN : NX (wA 77 (fX cI cL cS ad) ad wr s.heap.size σ) s s.heap := hN
  generalize (wA 77 (fX cI cL cS ad) ad wr s.heap.size σ) = A at hD hA hN ⊢
  have C : wC TB "PreferenceCount" c_C_moved 3 (some .int) D cls (tyl cI cL cZ cS) A p s m ([.ref (ad 0), .int x1, .int x2].toArray) meth c := ⟨B.exec, B.bytes, B.returns, B.notSynchronized, fun w hw => atoms_spec (ws := Cond.code y_C_moved c_C_moved 3 (some .int) :: TB) B.pre w (List.mem_cons_of_mem _ hw), findClass_of_methodNamed B.named, hml, hK, hN, hA⟩
  have hx := C.1
  have hb := C.2.1
  have hts := C.2.2.2.2.1
  have hown := C.2.2.2.2.2.1
  have hS : va_S A s.heap s.heap [] := va_S.rf
  have hl := lv_entry ([.ref (ad 0), .int x1, .int x2]) (n := 3) (Nat.le_of_ble_eq_true rfl)
  rw [lg_entry_eq]
  generalize (lg_sl ([.ref (ad 0), .int x1, .int x2]) ++ List.replicate (3 - (lg_sl ([.ref (ad 0), .int x1, .int x2])).length) Slot.unset).toArray = ls at hl ⊢
  have hl : lv_has ls 3 [(0, .ref (ad 0)), (1, .int x1), (2, .int x2)] := hl
  have h : wp_C_refuseUnknown (fun σ3 => vp_in x1 13 ∧ (vp_in x2 13 ∧ (Q (σ3.1 ((12 + 5 * (Int32.toNatClampNeg x1)) + 4) (Int32.toNatClampNeg x2)) σ3))) E x1 x2 σ := h
  refine lv_aload_n hx hb d_C_moved_0 rfl (lv_at hl 0 rfl) ?_
  refine lv_iload_n hx hb d_C_moved_1 rfl (lv_at hl 1 rfl) ?_
  refine lv_iload_n hx hb d_C_moved_2 rfl (lv_at hl 2 rfl) ?_
  refine x_callv C hX hD hS (Nat.le_of_ble_eq_true rfl) (Nat.le_of_ble_eq_true rfl) (vx_runV (As := [.int x1, .int x2]) (rest := []) ⟨hx, hb, hml, hown, hts⟩ (m_C_refuseUnknown hlS h) (cwV 2 hts (g_V kw_472 kw_474 kp_17 kw_1 kw_475) rfl rfl rfl (by decide +kernel) ⟨Nat.le_of_ble_eq_true rfl, Nat.le_of_ble_eq_true rfl⟩) (r_preV (o := 0) C hP hD hS (by decide) rfl rfl) rfl rfl hl.1 rfl (lv_room (Nat.le_of_ble_eq_true rfl)) d_C_moved_3 ⟨Nat.le_of_ble_eq_true rfl, Nat.le_of_ble_eq_true rfl⟩) (fun σ3 H locs h hP hD hS => ?_)
  refine lv_aload_n hx hb d_C_moved_6 rfl (lv_at hl 0 rfl) ?_
  refine r_get C ku_C hP (by decide) rfl rfl 2 (by decide) kw_134 rfl d_C_moved_7 ?_
  refine lv_iload_n hx hb d_C_moved_10 rfl (lv_at hl 1 rfl) ?_
  obtain ⟨hi11, h⟩ := h
  refine r_aald C hP (by decide) rfl rfl hi11 d_C_moved_11 ?_
  refine r_get C ku_S hP (st_lt (st_in hi11)) (st_cell (st_in hi11) _ _) rfl 1 (by decide) kw_114 rfl d_C_moved_12 ?_
  refine lv_iload_n hx hb d_C_moved_15 rfl (lv_at hl 2 rfl) ?_
  obtain ⟨hi16, h⟩ := h
  refine r_iald C hP (st_lt4 (st_in hi11)) (st_cell4 (st_in hi11) _ _) rfl hi16 d_C_moved_16 ?_
  exact x_iret (Nat.le_of_ble_eq_true rfl) (Nat.le_of_ble_eq_true rfl) C hP hD hS d_C_moved_17 h
