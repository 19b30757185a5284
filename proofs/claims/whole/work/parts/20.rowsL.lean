set_option maxHeartbeats 8000000 in
set_option maxRecDepth 100000 in
theorem b_law_c0 {p : Program} {l : Launch} {e : Env} {s : State} {m : MethodId} {below : List Frame} {meth : Method} {c : Code} {D : va_G} {cI cL cZ cS : ClassId} {aX aM : Nat → Nat} {ao b L : Nat} {xs : Nat → Int32} {A : Nat → Prop} {K : Int32 → Mem → Mem → (Nat → Int64) → Prop} {n ce sl : Nat} {x4 : Int32} {σ τ : Mem} {ou : Nat → Int64} {H : Heap} {locs : List Loc} {ls : Array Slot} (C : wC TB "PreferenceCountLaw" c_L_law 8 ret D cls (tyl cI cL cZ cS) A p s m #[Value.ref b] meth c) (hlS : l.stackTraces = false) (hX : va_X b L xs s s.heap) (hbl : b < s.heap.size) (hbA : ¬ A b) (hK : ∀ {x4 : Int32} {σ τ : Mem} {ou : Nat → Int64} {H : Heap} {locs : List Loc} {ls : Array Slot} {ce sl : Nat}, K x4 σ τ ou → ce + 2 * n ≤ 601024 → sl + 12 * n ≤ 7293034 → lv_has ls 8 [(0, .ref b), (1, .ref (aX 0)), (2, .ref (aM 0)), (3, .ref ao), (4, .int x4)] → va_P D cls (WL cI cL cZ cS aX aM ao σ τ ou) H → va_D A (WL cI cL cZ cS aX aM ao σ τ ou) → va_S A s.heap H locs → W p l e room_1 s m #[Value.ref b] below meth c H locs ce sl (lw_Z below #[Value.ref b] s) (F0 m 23 ls [])) (hce : ce + 2 * (n + 1) ≤ 601024) (hsl : sl + 12 * (n + 1) ≤ 7293034) (h : wp_law_c0 xs L K x4 σ τ ou) (hl : lv_has ls 8 [(0, .ref b), (1, .ref (aX 0)), (2, .ref (aM 0)), (3, .ref ao), (4, .int x4)]) (hP : va_P D cls (WL cI cL cZ cS aX aM ao σ τ ou) H) (hD : va_D A (WL cI cL cZ cS aX aM ao σ τ ou)) (hS : va_S A s.heap H locs) : W p l e room_1 s m #[Value.ref b] below meth c H locs ce sl (lw_Z below #[Value.ref b] s) (F0 m 100 ls []) := by
  have hx := C.1
  have hb := C.2.1
  have hts := C.2.2.2.2.1
  have hown := C.2.2.2.2.2.1
  have hml := C.2.2.2.2.2.2.1
  have h : vp_in (x4 + (1 : Int32)) L ∧ (vp_in (x4 + (2 : Int32)) L ∧ (wp_L_begin (fun r113 σ113 => vp_in (x4 + (1 : Int32)) L ∧ (vp_in (x4 + (2 : Int32)) L ∧ (wp_M_begin (fun τ131 => wp_M_thrown (fun r135 τ135 => (r135 = r113 → (∀ v733 : Int32, v733 = (x4 + 4) → (K v733 σ113 τ135 ou))) ∧ (¬ r135 = r113 → (False))) τ131) (xs (Int32.toNatClampNeg (x4 + (1 : Int32)))) (xs (Int32.toNatClampNeg (x4 + (2 : Int32)))) τ))) (xs (Int32.toNatClampNeg (x4 + (1 : Int32)))) (xs (Int32.toNatClampNeg (x4 + (2 : Int32)))) σ)) := h
  refine lv_aload_n hx hb d_L_law_100 rfl (lv_at hl 1 rfl) ?_
  refine lv_aload_n hx hb d_L_law_101 rfl (lv_at hl 0 rfl) ?_
  refine lv_iload hx hb d_L_law_102 (lv_at hl 4 rfl) ?_
  refine lv_iconst (v := 1) hx hb d_L_law_104 (by decide) ?_
  refine lv_iadd hx hb d_L_law_105 ?_
  obtain ⟨hi106, h⟩ := h
  refine va_sld hx hb hX hbl hbA hS hi106 d_L_law_106 ?_
  refine lv_aload_n hx hb d_L_law_107 rfl (lv_at hl 0 rfl) ?_
  refine lv_iload hx hb d_L_law_108 (lv_at hl 4 rfl) ?_
  refine lv_iconst (v := 2) hx hb d_L_law_110 (by decide) ?_
  refine lv_iadd hx hb d_L_law_111 ?_
  obtain ⟨hi112, h⟩ := h
  refine va_sld hx hb hX hbl hbA hS hi112 d_L_law_112 ?_
  refine r_calli C hD hS (vx_runSW (As := [.ref (aX 0), .int (xs (Int32.toNatClampNeg (x4 + (1 : Int32)))), .int (xs (Int32.toNatClampNeg (x4 + (2 : Int32))))]) (rest := []) ⟨hx, hb, hml, hown, hts⟩ (m_L_begin hlS h) (vx_cwSW 3 hts (g_SW kw_169 kw_170 kw_0 kw_171) rfl rfl rfl (by decide +kernel) ⟨(Nat.le_of_ble_eq_true rfl), (Nat.le_of_ble_eq_true rfl)⟩) (r_preS C hP hD hS) rfl rfl hl.1 rfl (lv_room (Nat.le_of_ble_eq_true rfl)) d_L_law_113 ⟨by show _ + 1 ≤ 601024; omega, by show _ + 6 ≤ 7293034; omega⟩) (fun r113 σ113 H locs h hP hD hS => ?_)
  refine lv_istore (lv' := [(5, .int r113), (0, .ref b), (1, .ref (aX 0)), (2, .ref (aM 0)), (3, .ref ao), (4, .int x4)]) hx hb d_L_law_116 hl (by decide) rfl (fun ls hl => ?_)
  refine lv_aload_n hx hb d_L_law_118 rfl (lv_at hl 3 rfl) ?_
  refine lv_aload_n hx hb d_L_law_119 rfl (lv_at hl 1 rfl) ?_
  refine lv_iload hx hb d_L_law_120 (lv_at hl 5 rfl) ?_
  refine lv_iconst (v := 1) hx hb d_L_law_122 (by decide) ?_
  refine lv_iadd hx hb d_L_law_123 ?_
  obtain ⟨hi124, h⟩ := h
  refine va_sld hx hb hX hbl hbA hS hi124 d_L_law_124 ?_
  refine lv_aload_n hx hb d_L_law_125 rfl (lv_at hl 1 rfl) ?_
  refine lv_iload hx hb d_L_law_126 (lv_at hl 5 rfl) ?_
  refine lv_iconst (v := 2) hx hb d_L_law_128 (by decide) ?_
  refine lv_iadd hx hb d_L_law_129 ?_
  obtain ⟨hi130, h⟩ := h
  refine va_sld hx hb hX hbl hbA hS hi130 d_L_law_130 ?_
  replace hP := l_swP hP
  replace hD := l_swD hD
  refine r_callv C hD hS (va_runV (As := [.int (xs (Int32.toNatClampNeg (x4 + (1 : Int32)))), .int (xs (Int32.toNatClampNeg (x4 + (2 : Int32))))]) (rest := []) ⟨hx, hb, hml, hown, hts⟩ (m_M_begin h) (cwV 2 hts (g_V kw_575 kw_576 kw_577 kw_7 kw_578) rfl rfl rfl (by decide +kernel) ⟨(Nat.le_of_ble_eq_true rfl), (Nat.le_of_ble_eq_true rfl)⟩) (r_preV (o := 0) C hP hD hS (by decide) rfl rfl) rfl rfl hl.1 rfl (lv_room (Nat.le_of_ble_eq_true rfl)) d_L_law_131 ⟨by show _ + 0 ≤ 601024; omega, by show _ + 0 ≤ 7293034; omega⟩) (fun τ131 H locs h hP hD hS => ?_)
  replace hP := l_bkP hP
  replace hD := l_bkD hD
  refine lv_aload_n hx hb d_L_law_134 rfl (lv_at hl 3 rfl) ?_
  replace hP := l_swP hP
  replace hD := l_swD hD
  refine r_calli C hD hS (va_runV (As := []) (rest := []) ⟨hx, hb, hml, hown, hts⟩ (m_M_thrown h) (cwV 0 hts (g_V kw_571 kw_572 kw_573 kw_7 kw_574) rfl rfl rfl (by decide +kernel) ⟨(Nat.le_of_ble_eq_true rfl), (Nat.le_of_ble_eq_true rfl)⟩) (r_preV (o := 0) C hP hD hS (by decide) rfl rfl) rfl rfl hl.1 rfl (lv_room (Nat.le_of_ble_eq_true rfl)) d_L_law_135 ⟨by show _ + 0 ≤ 601024; omega, by show _ + 0 ≤ 7293034; omega⟩) (fun r135 τ135 H locs h hP hD hS => ?_)
  replace hP := l_bkP hP
  replace hD := l_bkD hD
  refine lv_iload hx hb d_L_law_138 (lv_at hl 0 rfl) ?_
  refine lv_icmp_eq hx hb d_L_law_140 rfl (fun hc140 => ?_) (fun hc140 => ?_)
  · have h := h.1 hc140
    refine lv_goto hx hb d_L_law_145 rfl ?_
    obtain ⟨v733, e733⟩ : ∃ z : Int32, z = (x4 + 4) := ⟨_, rfl⟩
    have h := h v733 e733
    refine lv_iinc (k := 5) (v := v733) (lv' := [(4, .int v733), (5, .int r113), (0, .ref b), (1, .ref (aX 0)), (2, .ref (aM 0)), (3, .ref ao)]) hx hb d_L_law_733 hl rfl (by rw [e733] <;> rfl) (by decide) rfl (fun ls hl => ?_)
    refine lv_goto hx hb d_L_law_736 rfl ?_
    exact hK h (by omega) (by omega) (lv_sub hl [2, 3, 4, 5, 0] rfl) hP hD hS
  · have h := h.2 hc140
    refine lv_iconst (v := 0) hx hb d_L_law_143 (by decide) ?_
    exact h.elim
set_option maxHeartbeats 8000000 in
set_option maxRecDepth 100000 in
theorem b_law_c1 {p : Program} {l : Launch} {e : Env} {s : State} {m : MethodId} {below : List Frame} {meth : Method} {c : Code} {D : va_G} {cI cL cZ cS : ClassId} {aX aM : Nat → Nat} {ao b L : Nat} {xs : Nat → Int32} {A : Nat → Prop} {K : Int32 → Mem → Mem → (Nat → Int64) → Prop} {n ce sl : Nat} {x4 : Int32} {σ τ : Mem} {ou : Nat → Int64} {H : Heap} {locs : List Loc} {ls : Array Slot} (C : wC TB "PreferenceCountLaw" c_L_law 8 ret D cls (tyl cI cL cZ cS) A p s m #[Value.ref b] meth c) (hlS : l.stackTraces = false) (hX : va_X b L xs s s.heap) (hbl : b < s.heap.size) (hbA : ¬ A b) (hK : ∀ {x4 : Int32} {σ τ : Mem} {ou : Nat → Int64} {H : Heap} {locs : List Loc} {ls : Array Slot} {ce sl : Nat}, K x4 σ τ ou → ce + 2 * n ≤ 601024 → sl + 12 * n ≤ 7293034 → lv_has ls 8 [(0, .ref b), (1, .ref (aX 0)), (2, .ref (aM 0)), (3, .ref ao), (4, .int x4)] → va_P D cls (WL cI cL cZ cS aX aM ao σ τ ou) H → va_D A (WL cI cL cZ cS aX aM ao σ τ ou) → va_S A s.heap H locs → W p l e room_1 s m #[Value.ref b] below meth c H locs ce sl (lw_Z below #[Value.ref b] s) (F0 m 23 ls [])) (hce : ce + 2 * (n + 1) ≤ 601024) (hsl : sl + 12 * (n + 1) ≤ 7293034) (h : wp_law_c1 xs L K x4 σ τ ou) (hl : lv_has ls 8 [(0, .ref b), (1, .ref (aX 0)), (2, .ref (aM 0)), (3, .ref ao), (4, .int x4)]) (hP : va_P D cls (WL cI cL cZ cS aX aM ao σ τ ou) H) (hD : va_D A (WL cI cL cZ cS aX aM ao σ τ ou)) (hS : va_S A s.heap H locs) : W p l e room_1 s m #[Value.ref b] below meth c H locs ce sl (lw_Z below #[Value.ref b] s) (F0 m 148 ls []) := by
  have hx := C.1
  have hb := C.2.1
  have hts := C.2.2.2.2.1
  have hown := C.2.2.2.2.2.1
  have hml := C.2.2.2.2.2.2.1
  have h : vp_in (x4 + (1 : Int32)) L ∧ (vp_in (x4 + (2 : Int32)) L ∧ (wp_L_draw (fun r161 σ161 => vp_in (x4 + (1 : Int32)) L ∧ (vp_in (x4 + (2 : Int32)) L ∧ (wp_M_draw (fun τ179 => wp_M_thrown (fun r183 τ183 => (r183 = r161 → (∀ v733 : Int32, v733 = (x4 + 4) → (K v733 σ161 τ183 ou))) ∧ (¬ r183 = r161 → (False))) τ179) (xs (Int32.toNatClampNeg (x4 + (1 : Int32)))) (xs (Int32.toNatClampNeg (x4 + (2 : Int32)))) τ))) (xs (Int32.toNatClampNeg (x4 + (1 : Int32)))) (xs (Int32.toNatClampNeg (x4 + (2 : Int32)))) σ)) := h
  refine lv_aload_n hx hb d_L_law_148 rfl (lv_at hl 1 rfl) ?_
  refine lv_aload_n hx hb d_L_law_149 rfl (lv_at hl 0 rfl) ?_
  refine lv_iload hx hb d_L_law_150 (lv_at hl 4 rfl) ?_
  refine lv_iconst (v := 1) hx hb d_L_law_152 (by decide) ?_
  refine lv_iadd hx hb d_L_law_153 ?_
  obtain ⟨hi154, h⟩ := h
  refine va_sld hx hb hX hbl hbA hS hi154 d_L_law_154 ?_
  refine lv_aload_n hx hb d_L_law_155 rfl (lv_at hl 0 rfl) ?_
  refine lv_iload hx hb d_L_law_156 (lv_at hl 4 rfl) ?_
  refine lv_iconst (v := 2) hx hb d_L_law_158 (by decide) ?_
  refine lv_iadd hx hb d_L_law_159 ?_
  obtain ⟨hi160, h⟩ := h
  refine va_sld hx hb hX hbl hbA hS hi160 d_L_law_160 ?_
  refine r_calli C hD hS (vx_runSW (As := [.ref (aX 0), .int (xs (Int32.toNatClampNeg (x4 + (1 : Int32)))), .int (xs (Int32.toNatClampNeg (x4 + (2 : Int32))))]) (rest := []) ⟨hx, hb, hml, hown, hts⟩ (m_L_draw hlS h) (vx_cwSW 3 hts (g_SW kw_245 kw_246 kw_0 kw_247) rfl rfl rfl (by decide +kernel) ⟨(Nat.le_of_ble_eq_true rfl), (Nat.le_of_ble_eq_true rfl)⟩) (r_preS C hP hD hS) rfl rfl hl.1 rfl (lv_room (Nat.le_of_ble_eq_true rfl)) d_L_law_161 ⟨by show _ + 2 ≤ 601024; omega, by show _ + 12 ≤ 7293034; omega⟩) (fun r161 σ161 H locs h hP hD hS => ?_)
  refine lv_istore (lv' := [(5, .int r161), (0, .ref b), (1, .ref (aX 0)), (2, .ref (aM 0)), (3, .ref ao), (4, .int x4)]) hx hb d_L_law_164 hl (by decide) rfl (fun ls hl => ?_)
  refine lv_aload_n hx hb d_L_law_166 rfl (lv_at hl 3 rfl) ?_
  refine lv_aload_n hx hb d_L_law_167 rfl (lv_at hl 1 rfl) ?_
  refine lv_iload hx hb d_L_law_168 (lv_at hl 5 rfl) ?_
  refine lv_iconst (v := 1) hx hb d_L_law_170 (by decide) ?_
  refine lv_iadd hx hb d_L_law_171 ?_
  obtain ⟨hi172, h⟩ := h
  refine va_sld hx hb hX hbl hbA hS hi172 d_L_law_172 ?_
  refine lv_aload_n hx hb d_L_law_173 rfl (lv_at hl 1 rfl) ?_
  refine lv_iload hx hb d_L_law_174 (lv_at hl 5 rfl) ?_
  refine lv_iconst (v := 2) hx hb d_L_law_176 (by decide) ?_
  refine lv_iadd hx hb d_L_law_177 ?_
  obtain ⟨hi178, h⟩ := h
  refine va_sld hx hb hX hbl hbA hS hi178 d_L_law_178 ?_
  replace hP := l_swP hP
  replace hD := l_swD hD
  refine r_callv C hD hS (va_runV (As := [.int (xs (Int32.toNatClampNeg (x4 + (1 : Int32)))), .int (xs (Int32.toNatClampNeg (x4 + (2 : Int32))))]) (rest := []) ⟨hx, hb, hml, hown, hts⟩ (m_M_draw h) (cwV 2 hts (g_V kw_583 kw_584 kw_585 kw_7 kw_586) rfl rfl rfl (by decide +kernel) ⟨(Nat.le_of_ble_eq_true rfl), (Nat.le_of_ble_eq_true rfl)⟩) (r_preV (o := 0) C hP hD hS (by decide) rfl rfl) rfl rfl hl.1 rfl (lv_room (Nat.le_of_ble_eq_true rfl)) d_L_law_179 ⟨by show _ + 0 ≤ 601024; omega, by show _ + 0 ≤ 7293034; omega⟩) (fun τ179 H locs h hP hD hS => ?_)
  replace hP := l_bkP hP
  replace hD := l_bkD hD
  refine lv_aload_n hx hb d_L_law_182 rfl (lv_at hl 3 rfl) ?_
  replace hP := l_swP hP
  replace hD := l_swD hD
  refine r_calli C hD hS (va_runV (As := []) (rest := []) ⟨hx, hb, hml, hown, hts⟩ (m_M_thrown h) (cwV 0 hts (g_V kw_571 kw_572 kw_573 kw_7 kw_574) rfl rfl rfl (by decide +kernel) ⟨(Nat.le_of_ble_eq_true rfl), (Nat.le_of_ble_eq_true rfl)⟩) (r_preV (o := 0) C hP hD hS (by decide) rfl rfl) rfl rfl hl.1 rfl (lv_room (Nat.le_of_ble_eq_true rfl)) d_L_law_183 ⟨by show _ + 0 ≤ 601024; omega, by show _ + 0 ≤ 7293034; omega⟩) (fun r183 τ183 H locs h hP hD hS => ?_)
  replace hP := l_bkP hP
  replace hD := l_bkD hD
  refine lv_iload hx hb d_L_law_186 (lv_at hl 0 rfl) ?_
  refine lv_icmp_eq hx hb d_L_law_188 rfl (fun hc188 => ?_) (fun hc188 => ?_)
  · have h := h.1 hc188
    refine lv_goto hx hb d_L_law_193 rfl ?_
    obtain ⟨v733, e733⟩ : ∃ z : Int32, z = (x4 + 4) := ⟨_, rfl⟩
    have h := h v733 e733
    refine lv_iinc (k := 5) (v := v733) (lv' := [(4, .int v733), (5, .int r161), (0, .ref b), (1, .ref (aX 0)), (2, .ref (aM 0)), (3, .ref ao)]) hx hb d_L_law_733 hl rfl (by rw [e733] <;> rfl) (by decide) rfl (fun ls hl => ?_)
    refine lv_goto hx hb d_L_law_736 rfl ?_
    exact hK h (by omega) (by omega) (lv_sub hl [2, 3, 4, 5, 0] rfl) hP hD hS
  · have h := h.2 hc188
    refine lv_iconst (v := 0) hx hb d_L_law_191 (by decide) ?_
    exact h.elim
set_option maxHeartbeats 8000000 in
set_option maxRecDepth 100000 in
theorem b_law_c2 {p : Program} {l : Launch} {e : Env} {s : State} {m : MethodId} {below : List Frame} {meth : Method} {c : Code} {D : va_G} {cI cL cZ cS : ClassId} {aX aM : Nat → Nat} {ao b L : Nat} {xs : Nat → Int32} {A : Nat → Prop} {K : Int32 → Mem → Mem → (Nat → Int64) → Prop} {n ce sl : Nat} {x4 : Int32} {σ τ : Mem} {ou : Nat → Int64} {H : Heap} {locs : List Loc} {ls : Array Slot} (C : wC TB "PreferenceCountLaw" c_L_law 8 ret D cls (tyl cI cL cZ cS) A p s m #[Value.ref b] meth c) (hlS : l.stackTraces = false) (hX : va_X b L xs s s.heap) (hbl : b < s.heap.size) (hbA : ¬ A b) (hK : ∀ {x4 : Int32} {σ τ : Mem} {ou : Nat → Int64} {H : Heap} {locs : List Loc} {ls : Array Slot} {ce sl : Nat}, K x4 σ τ ou → ce + 2 * n ≤ 601024 → sl + 12 * n ≤ 7293034 → lv_has ls 8 [(0, .ref b), (1, .ref (aX 0)), (2, .ref (aM 0)), (3, .ref ao), (4, .int x4)] → va_P D cls (WL cI cL cZ cS aX aM ao σ τ ou) H → va_D A (WL cI cL cZ cS aX aM ao σ τ ou) → va_S A s.heap H locs → W p l e room_1 s m #[Value.ref b] below meth c H locs ce sl (lw_Z below #[Value.ref b] s) (F0 m 23 ls [])) (hce : ce + 2 * (n + 1) ≤ 601024) (hsl : sl + 12 * (n + 1) ≤ 7293034) (h : wp_law_c2 xs L K x4 σ τ ou) (hl : lv_has ls 8 [(0, .ref b), (1, .ref (aX 0)), (2, .ref (aM 0)), (3, .ref ao), (4, .int x4)]) (hP : va_P D cls (WL cI cL cZ cS aX aM ao σ τ ou) H) (hD : va_D A (WL cI cL cZ cS aX aM ao σ τ ou)) (hS : va_S A s.heap H locs) : W p l e room_1 s m #[Value.ref b] below meth c H locs ce sl (lw_Z below #[Value.ref b] s) (F0 m 196 ls []) := by
  have hx := C.1
  have hb := C.2.1
  have hts := C.2.2.2.2.1
  have hown := C.2.2.2.2.2.1
  have hml := C.2.2.2.2.2.2.1
  have h : vp_in (x4 + (1 : Int32)) L ∧ (wp_L_withdraw (fun r203 σ203 => vp_in (x4 + (1 : Int32)) L ∧ (wp_M_withdraw (fun τ215 => wp_M_thrown (fun r219 τ219 => (r219 = r203 → (∀ v733 : Int32, v733 = (x4 + 4) → (K v733 σ203 τ219 ou))) ∧ (¬ r219 = r203 → (False))) τ215) (xs (Int32.toNatClampNeg (x4 + (1 : Int32)))) τ)) (xs (Int32.toNatClampNeg (x4 + (1 : Int32)))) σ) := h
  refine lv_aload_n hx hb d_L_law_196 rfl (lv_at hl 1 rfl) ?_
  refine lv_aload_n hx hb d_L_law_197 rfl (lv_at hl 0 rfl) ?_
  refine lv_iload hx hb d_L_law_198 (lv_at hl 4 rfl) ?_
  refine lv_iconst (v := 1) hx hb d_L_law_200 (by decide) ?_
  refine lv_iadd hx hb d_L_law_201 ?_
  obtain ⟨hi202, h⟩ := h
  refine va_sld hx hb hX hbl hbA hS hi202 d_L_law_202 ?_
  refine r_calli C hD hS (vx_runSW (As := [.ref (aX 0), .int (xs (Int32.toNatClampNeg (x4 + (1 : Int32))))]) (rest := []) ⟨hx, hb, hml, hown, hts⟩ (m_L_withdraw hlS h) (vx_cwSW 2 hts (g_SW kw_286 kw_287 kw_0 kw_288) rfl rfl rfl (by decide +kernel) ⟨(Nat.le_of_ble_eq_true rfl), (Nat.le_of_ble_eq_true rfl)⟩) (r_preS C hP hD hS) rfl rfl hl.1 rfl (lv_room (Nat.le_of_ble_eq_true rfl)) d_L_law_203 ⟨by show _ + 2 ≤ 601024; omega, by show _ + 12 ≤ 7293034; omega⟩) (fun r203 σ203 H locs h hP hD hS => ?_)
  refine lv_istore (lv' := [(5, .int r203), (0, .ref b), (1, .ref (aX 0)), (2, .ref (aM 0)), (3, .ref ao), (4, .int x4)]) hx hb d_L_law_206 hl (by decide) rfl (fun ls hl => ?_)
  refine lv_aload_n hx hb d_L_law_208 rfl (lv_at hl 3 rfl) ?_
  refine lv_aload_n hx hb d_L_law_209 rfl (lv_at hl 1 rfl) ?_
  refine lv_iload hx hb d_L_law_210 (lv_at hl 5 rfl) ?_
  refine lv_iconst (v := 1) hx hb d_L_law_212 (by decide) ?_
  refine lv_iadd hx hb d_L_law_213 ?_
  obtain ⟨hi214, h⟩ := h
  refine va_sld hx hb hX hbl hbA hS hi214 d_L_law_214 ?_
  replace hP := l_swP hP
  replace hD := l_swD hD
  refine r_callv C hD hS (va_runV (As := [.int (xs (Int32.toNatClampNeg (x4 + (1 : Int32))))]) (rest := []) ⟨hx, hb, hml, hown, hts⟩ (m_M_withdraw h) (cwV 1 hts (g_V kw_591 kw_592 kw_593 kw_7 kw_594) rfl rfl rfl (by decide +kernel) ⟨(Nat.le_of_ble_eq_true rfl), (Nat.le_of_ble_eq_true rfl)⟩) (r_preV (o := 0) C hP hD hS (by decide) rfl rfl) rfl rfl hl.1 rfl (lv_room (Nat.le_of_ble_eq_true rfl)) d_L_law_215 ⟨by show _ + 0 ≤ 601024; omega, by show _ + 0 ≤ 7293034; omega⟩) (fun τ215 H locs h hP hD hS => ?_)
  replace hP := l_bkP hP
  replace hD := l_bkD hD
  refine lv_aload_n hx hb d_L_law_218 rfl (lv_at hl 3 rfl) ?_
  replace hP := l_swP hP
  replace hD := l_swD hD
  refine r_calli C hD hS (va_runV (As := []) (rest := []) ⟨hx, hb, hml, hown, hts⟩ (m_M_thrown h) (cwV 0 hts (g_V kw_571 kw_572 kw_573 kw_7 kw_574) rfl rfl rfl (by decide +kernel) ⟨(Nat.le_of_ble_eq_true rfl), (Nat.le_of_ble_eq_true rfl)⟩) (r_preV (o := 0) C hP hD hS (by decide) rfl rfl) rfl rfl hl.1 rfl (lv_room (Nat.le_of_ble_eq_true rfl)) d_L_law_219 ⟨by show _ + 0 ≤ 601024; omega, by show _ + 0 ≤ 7293034; omega⟩) (fun r219 τ219 H locs h hP hD hS => ?_)
  replace hP := l_bkP hP
  replace hD := l_bkD hD
  refine lv_iload hx hb d_L_law_222 (lv_at hl 0 rfl) ?_
  refine lv_icmp_eq hx hb d_L_law_224 rfl (fun hc224 => ?_) (fun hc224 => ?_)
  · have h := h.1 hc224
    refine lv_goto hx hb d_L_law_229 rfl ?_
    obtain ⟨v733, e733⟩ : ∃ z : Int32, z = (x4 + 4) := ⟨_, rfl⟩
    have h := h v733 e733
    refine lv_iinc (k := 5) (v := v733) (lv' := [(4, .int v733), (5, .int r203), (0, .ref b), (1, .ref (aX 0)), (2, .ref (aM 0)), (3, .ref ao)]) hx hb d_L_law_733 hl rfl (by rw [e733] <;> rfl) (by decide) rfl (fun ls hl => ?_)
    refine lv_goto hx hb d_L_law_736 rfl ?_
    exact hK h (by omega) (by omega) (lv_sub hl [2, 3, 4, 5, 0] rfl) hP hD hS
  · have h := h.2 hc224
    refine lv_iconst (v := 0) hx hb d_L_law_227 (by decide) ?_
    exact h.elim
set_option maxHeartbeats 8000000 in
set_option maxRecDepth 100000 in
theorem b_law_c3 {p : Program} {l : Launch} {e : Env} {s : State} {m : MethodId} {below : List Frame} {meth : Method} {c : Code} {D : va_G} {cI cL cZ cS : ClassId} {aX aM : Nat → Nat} {ao b L : Nat} {xs : Nat → Int32} {A : Nat → Prop} {K : Int32 → Mem → Mem → (Nat → Int64) → Prop} {n ce sl : Nat} {x4 : Int32} {σ τ : Mem} {ou : Nat → Int64} {H : Heap} {locs : List Loc} {ls : Array Slot} (C : wC TB "PreferenceCountLaw" c_L_law 8 ret D cls (tyl cI cL cZ cS) A p s m #[Value.ref b] meth c) (hlS : l.stackTraces = false) (hX : va_X b L xs s s.heap) (hbl : b < s.heap.size) (hbA : ¬ A b) (hK : ∀ {x4 : Int32} {σ τ : Mem} {ou : Nat → Int64} {H : Heap} {locs : List Loc} {ls : Array Slot} {ce sl : Nat}, K x4 σ τ ou → ce + 2 * n ≤ 601024 → sl + 12 * n ≤ 7293034 → lv_has ls 8 [(0, .ref b), (1, .ref (aX 0)), (2, .ref (aM 0)), (3, .ref ao), (4, .int x4)] → va_P D cls (WL cI cL cZ cS aX aM ao σ τ ou) H → va_D A (WL cI cL cZ cS aX aM ao σ τ ou) → va_S A s.heap H locs → W p l e room_1 s m #[Value.ref b] below meth c H locs ce sl (lw_Z below #[Value.ref b] s) (F0 m 23 ls [])) (hce : ce + 2 * (n + 1) ≤ 601024) (hsl : sl + 12 * (n + 1) ≤ 7293034) (h : wp_law_c3 xs L K x4 σ τ ou) (hl : lv_has ls 8 [(0, .ref b), (1, .ref (aX 0)), (2, .ref (aM 0)), (3, .ref ao), (4, .int x4)]) (hP : va_P D cls (WL cI cL cZ cS aX aM ao σ τ ou) H) (hD : va_D A (WL cI cL cZ cS aX aM ao σ τ ou)) (hS : va_S A s.heap H locs) : W p l e room_1 s m #[Value.ref b] below meth c H locs ce sl (lw_Z below #[Value.ref b] s) (F0 m 232 ls []) := by
  have hx := C.1
  have hb := C.2.1
  have hts := C.2.2.2.2.1
  have hown := C.2.2.2.2.2.1
  have hml := C.2.2.2.2.2.2.1
  have h : vp_in (x4 + (1 : Int32)) L ∧ (vp_in (x4 + (2 : Int32)) L ∧ (vp_in (x4 + (3 : Int32)) L ∧ (wp_L_lay (fun r262 σ262 ou262 => vp_in (x4 + (1 : Int32)) L ∧ (vp_in (x4 + (2 : Int32)) L ∧ (vp_in (x4 + (3 : Int32)) L ∧ (wp_M_lay (fun r296 τ296 => wp_M_thrown (fun r302 τ302 => (r302 = r262 → ((r262 = 0 → (((lg_cmp (ou262 0) (Int32.toInt64 r296)) = 0 → (∀ v733 : Int32, v733 = (x4 + 4) → (K v733 σ262 τ302 ou262))) ∧ (¬ (lg_cmp (ou262 0) (Int32.toInt64 r296)) = 0 → (False)))) ∧ (¬ r262 = 0 → (∀ v733 : Int32, v733 = (x4 + 4) → (K v733 σ262 τ302 ou262))))) ∧ (¬ r302 = r262 → (False))) τ296) (((Int32.toInt64 (xs (Int32.toNatClampNeg (x4 + (1 : Int32))))) <<< (Int32.toInt64 (32 : Int32) &&& 63)) ||| ((Int32.toInt64 (xs (Int32.toNatClampNeg (x4 + (2 : Int32))))) &&& (4294967295 : Int64))) (xs (Int32.toNatClampNeg (x4 + (3 : Int32)))) τ)))) ou (((Int32.toInt64 (xs (Int32.toNatClampNeg (x4 + (1 : Int32))))) <<< (Int32.toInt64 (32 : Int32) &&& 63)) ||| ((Int32.toInt64 (xs (Int32.toNatClampNeg (x4 + (2 : Int32))))) &&& (4294967295 : Int64))) (xs (Int32.toNatClampNeg (x4 + (3 : Int32)))) σ))) := h
  refine lv_aload_n hx hb d_L_law_232 rfl (lv_at hl 1 rfl) ?_
  refine lv_aload_n hx hb d_L_law_233 rfl (lv_at hl 0 rfl) ?_
  refine lv_iload hx hb d_L_law_234 (lv_at hl 4 rfl) ?_
  refine lv_iconst (v := 1) hx hb d_L_law_236 (by decide) ?_
  refine lv_iadd hx hb d_L_law_237 ?_
  obtain ⟨hi238, h⟩ := h
  refine va_sld hx hb hX hbl hbA hS hi238 d_L_law_238 ?_
  refine lv_i2l hx hb d_L_law_239 rfl ?_
  refine lv_bipush (v := 32) hx hb d_L_law_240 (by decide) ?_
  refine lv_lshl hx hb d_L_law_242 rfl ?_
  refine lv_aload_n hx hb d_L_law_243 rfl (lv_at hl 0 rfl) ?_
  refine lv_iload hx hb d_L_law_244 (lv_at hl 4 rfl) ?_
  refine lv_iconst (v := 2) hx hb d_L_law_246 (by decide) ?_
  refine lv_iadd hx hb d_L_law_247 ?_
  obtain ⟨hi248, h⟩ := h
  refine va_sld hx hb hX hbl hbA hS hi248 d_L_law_248 ?_
  refine lv_i2l hx hb d_L_law_249 rfl ?_
  refine lv_ldc2 hx hb hown (hts _ kw_699) d_L_law_250 ?_
  refine lv_land hx hb d_L_law_253 ?_
  refine lv_lor hx hb d_L_law_254 ?_
  refine lv_aload_n hx hb d_L_law_255 rfl (lv_at hl 0 rfl) ?_
  refine lv_iload hx hb d_L_law_256 (lv_at hl 4 rfl) ?_
  refine lv_iconst (v := 3) hx hb d_L_law_258 (by decide) ?_
  refine lv_iadd hx hb d_L_law_259 ?_
  obtain ⟨hi260, h⟩ := h
  refine va_sld hx hb hX hbl hbA hS hi260 d_L_law_260 ?_
  refine lv_aload_n hx hb d_L_law_261 rfl (lv_at hl 3 rfl) ?_
  refine o_calli C hD hS (vx_runSW (As := [.ref (aX 0), .long (((Int32.toInt64 (xs (Int32.toNatClampNeg (x4 + (1 : Int32))))) <<< (Int32.toInt64 (32 : Int32) &&& 63)) ||| ((Int32.toInt64 (xs (Int32.toNatClampNeg (x4 + (2 : Int32))))) &&& (4294967295 : Int64))), .int (xs (Int32.toNatClampNeg (x4 + (3 : Int32)))), .ref ao]) (rest := []) ⟨hx, hb, hml, hown, hts⟩ (m_L_lay hlS h) (vx_cwSW 4 hts (g_SW kw_302 kw_303 kw_0 kw_304) rfl rfl rfl (by decide +kernel) ⟨(Nat.le_of_ble_eq_true rfl), (Nat.le_of_ble_eq_true rfl)⟩) (r_preS C hP hD hS) rfl rfl hl.1 rfl (lv_room (Nat.le_of_ble_eq_true rfl)) d_L_law_262 ⟨by show _ + 2 ≤ 601024; omega, by show _ + 12 ≤ 7293034; omega⟩) (fun r262 σ262 ou262 H locs h hP hD hS => ?_)
  refine lv_istore (lv' := [(5, .int r262), (0, .ref b), (1, .ref (aX 0)), (2, .ref (aM 0)), (3, .ref ao), (4, .int x4)]) hx hb d_L_law_265 hl (by decide) rfl (fun ls hl => ?_)
  refine lv_aload_n hx hb d_L_law_267 rfl (lv_at hl 3 rfl) ?_
  refine lv_aload_n hx hb d_L_law_268 rfl (lv_at hl 1 rfl) ?_
  refine lv_iload hx hb d_L_law_269 (lv_at hl 5 rfl) ?_
  refine lv_iconst (v := 1) hx hb d_L_law_271 (by decide) ?_
  refine lv_iadd hx hb d_L_law_272 ?_
  obtain ⟨hi273, h⟩ := h
  refine va_sld hx hb hX hbl hbA hS hi273 d_L_law_273 ?_
  refine lv_i2l hx hb d_L_law_274 rfl ?_
  refine lv_bipush (v := 32) hx hb d_L_law_275 (by decide) ?_
  refine lv_lshl hx hb d_L_law_277 rfl ?_
  refine lv_aload_n hx hb d_L_law_278 rfl (lv_at hl 1 rfl) ?_
  refine lv_iload hx hb d_L_law_279 (lv_at hl 5 rfl) ?_
  refine lv_iconst (v := 2) hx hb d_L_law_281 (by decide) ?_
  refine lv_iadd hx hb d_L_law_282 ?_
  obtain ⟨hi283, h⟩ := h
  refine va_sld hx hb hX hbl hbA hS hi283 d_L_law_283 ?_
  refine lv_i2l hx hb d_L_law_284 rfl ?_
  refine lv_ldc2 hx hb hown (hts _ kw_699) d_L_law_285 ?_
  refine lv_land hx hb d_L_law_288 ?_
  refine lv_lor hx hb d_L_law_289 ?_
  refine lv_aload_n hx hb d_L_law_290 rfl (lv_at hl 1 rfl) ?_
  refine lv_iload hx hb d_L_law_291 (lv_at hl 5 rfl) ?_
  refine lv_iconst (v := 3) hx hb d_L_law_293 (by decide) ?_
  refine lv_iadd hx hb d_L_law_294 ?_
  obtain ⟨hi295, h⟩ := h
  refine va_sld hx hb hX hbl hbA hS hi295 d_L_law_295 ?_
  replace hP := l_swP hP
  replace hD := l_swD hD
  refine r_calli C hD hS (va_runV (As := [.long (((Int32.toInt64 (xs (Int32.toNatClampNeg (x4 + (1 : Int32))))) <<< (Int32.toInt64 (32 : Int32) &&& 63)) ||| ((Int32.toInt64 (xs (Int32.toNatClampNeg (x4 + (2 : Int32))))) &&& (4294967295 : Int64))), .int (xs (Int32.toNatClampNeg (x4 + (3 : Int32))))]) (rest := []) ⟨hx, hb, hml, hown, hts⟩ (m_M_lay h) (cwV 2 hts (g_V kw_603 kw_604 kw_605 kw_7 kw_606) rfl rfl rfl (by decide +kernel) ⟨(Nat.le_of_ble_eq_true rfl), (Nat.le_of_ble_eq_true rfl)⟩) (r_preV (o := 0) C hP hD hS (by decide) rfl rfl) rfl rfl hl.1 rfl (lv_room (Nat.le_of_ble_eq_true rfl)) d_L_law_296 ⟨by show _ + 0 ≤ 601024; omega, by show _ + 0 ≤ 7293034; omega⟩) (fun r296 τ296 H locs h hP hD hS => ?_)
  replace hP := l_bkP hP
  replace hD := l_bkD hD
  refine lv_istore (lv' := [(6, .int r296), (5, .int r262), (0, .ref b), (1, .ref (aX 0)), (2, .ref (aM 0)), (3, .ref ao), (4, .int x4)]) hx hb d_L_law_299 hl (by decide) rfl (fun ls hl => ?_)
  refine lv_aload_n hx hb d_L_law_301 rfl (lv_at hl 4 rfl) ?_
  replace hP := l_swP hP
  replace hD := l_swD hD
  refine r_calli C hD hS (va_runV (As := []) (rest := []) ⟨hx, hb, hml, hown, hts⟩ (m_M_thrown h) (cwV 0 hts (g_V kw_571 kw_572 kw_573 kw_7 kw_574) rfl rfl rfl (by decide +kernel) ⟨(Nat.le_of_ble_eq_true rfl), (Nat.le_of_ble_eq_true rfl)⟩) (r_preV (o := 0) C hP hD hS (by decide) rfl rfl) rfl rfl hl.1 rfl (lv_room (Nat.le_of_ble_eq_true rfl)) d_L_law_302 ⟨by show _ + 0 ≤ 601024; omega, by show _ + 0 ≤ 7293034; omega⟩) (fun r302 τ302 H locs h hP hD hS => ?_)
  replace hP := l_bkP hP
  replace hD := l_bkD hD
  refine lv_iload hx hb d_L_law_305 (lv_at hl 1 rfl) ?_
  refine lv_icmp_eq hx hb d_L_law_307 rfl (fun hc307 => ?_) (fun hc307 => ?_)
  · have h := h.1 hc307
    refine lv_iload hx hb d_L_law_312 (lv_at hl 1 rfl) ?_
    refine lv_if_ne hx hb d_L_law_314 rfl (fun hc314 => ?_) (fun hc314 => ?_)
    · have h := h.2 hc314
      refine lv_goto hx hb d_L_law_329 rfl ?_
      obtain ⟨v733, e733⟩ : ∃ z : Int32, z = (x4 + 4) := ⟨_, rfl⟩
      have h := h v733 e733
      refine lv_iinc (k := 6) (v := v733) (lv' := [(4, .int v733), (6, .int r296), (5, .int r262), (0, .ref b), (1, .ref (aX 0)), (2, .ref (aM 0)), (3, .ref ao)]) hx hb d_L_law_733 hl rfl (by rw [e733] <;> rfl) (by decide) rfl (fun ls hl => ?_)
      refine lv_goto hx hb d_L_law_736 rfl ?_
      exact hK h (by omega) (by omega) (lv_sub hl [3, 4, 5, 6, 0] rfl) hP hD hS
    · have h := h.1 hc314
      refine lv_aload_n hx hb d_L_law_317 rfl (lv_at hl 5 rfl) ?_
      refine lv_iconst (v := 0) hx hb d_L_law_318 (by decide) ?_
      refine o_lald C hP rfl d_L_law_319 ?_
      refine lv_iload hx hb d_L_law_320 (lv_at hl 0 rfl) ?_
      refine lv_i2l hx hb d_L_law_322 rfl ?_
      refine W.lcmp hx hb d_L_law_323 ?_
      refine lv_if_eq hx hb d_L_law_324 rfl (fun hc324 => ?_) (fun hc324 => ?_)
      · have h := h.1 hc324
        refine lv_goto hx hb d_L_law_329 rfl ?_
        obtain ⟨v733, e733⟩ : ∃ z : Int32, z = (x4 + 4) := ⟨_, rfl⟩
        have h := h v733 e733
        refine lv_iinc (k := 6) (v := v733) (lv' := [(4, .int v733), (6, .int r296), (5, .int r262), (0, .ref b), (1, .ref (aX 0)), (2, .ref (aM 0)), (3, .ref ao)]) hx hb d_L_law_733 hl rfl (by rw [e733] <;> rfl) (by decide) rfl (fun ls hl => ?_)
        refine lv_goto hx hb d_L_law_736 rfl ?_
        exact hK h (by omega) (by omega) (lv_sub hl [3, 4, 5, 6, 0] rfl) hP hD hS
      · have h := h.2 hc324
        refine lv_iconst (v := 0) hx hb d_L_law_327 (by decide) ?_
        exact h.elim
  · have h := h.2 hc307
    refine lv_iconst (v := 0) hx hb d_L_law_310 (by decide) ?_
    exact h.elim
set_option maxHeartbeats 8000000 in
set_option maxRecDepth 100000 in
theorem b_law_c4 {p : Program} {l : Launch} {e : Env} {s : State} {m : MethodId} {below : List Frame} {meth : Method} {c : Code} {D : va_G} {cI cL cZ cS : ClassId} {aX aM : Nat → Nat} {ao b L : Nat} {xs : Nat → Int32} {A : Nat → Prop} {K : Int32 → Mem → Mem → (Nat → Int64) → Prop} {n ce sl : Nat} {x4 : Int32} {σ τ : Mem} {ou : Nat → Int64} {H : Heap} {locs : List Loc} {ls : Array Slot} (C : wC TB "PreferenceCountLaw" c_L_law 8 ret D cls (tyl cI cL cZ cS) A p s m #[Value.ref b] meth c) (hlS : l.stackTraces = false) (hX : va_X b L xs s s.heap) (hbl : b < s.heap.size) (hbA : ¬ A b) (hK : ∀ {x4 : Int32} {σ τ : Mem} {ou : Nat → Int64} {H : Heap} {locs : List Loc} {ls : Array Slot} {ce sl : Nat}, K x4 σ τ ou → ce + 2 * n ≤ 601024 → sl + 12 * n ≤ 7293034 → lv_has ls 8 [(0, .ref b), (1, .ref (aX 0)), (2, .ref (aM 0)), (3, .ref ao), (4, .int x4)] → va_P D cls (WL cI cL cZ cS aX aM ao σ τ ou) H → va_D A (WL cI cL cZ cS aX aM ao σ τ ou) → va_S A s.heap H locs → W p l e room_1 s m #[Value.ref b] below meth c H locs ce sl (lw_Z below #[Value.ref b] s) (F0 m 23 ls [])) (hce : ce + 2 * (n + 1) ≤ 601024) (hsl : sl + 12 * (n + 1) ≤ 7293034) (h : wp_law_c4 xs L K x4 σ τ ou) (hl : lv_has ls 8 [(0, .ref b), (1, .ref (aX 0)), (2, .ref (aM 0)), (3, .ref ao), (4, .int x4)]) (hP : va_P D cls (WL cI cL cZ cS aX aM ao σ τ ou) H) (hD : va_D A (WL cI cL cZ cS aX aM ao σ τ ou)) (hS : va_S A s.heap H locs) : W p l e room_1 s m #[Value.ref b] below meth c H locs ce sl (lw_Z below #[Value.ref b] s) (F0 m 332 ls []) := by
  have hx := C.1
  have hb := C.2.1
  have hts := C.2.2.2.2.1
  have hown := C.2.2.2.2.2.1
  have hml := C.2.2.2.2.2.2.1
  have h : wp_L_open (fun r334 σ334 ou334 => wp_M_open (fun r340 τ340 => wp_M_thrown (fun r346 τ346 => (r346 = r334 → ((r334 = 0 → (((lg_cmp (ou334 0) (Int32.toInt64 r340)) = 0 → (∀ v733 : Int32, v733 = (x4 + 4) → (K v733 σ334 τ346 ou334))) ∧ (¬ (lg_cmp (ou334 0) (Int32.toInt64 r340)) = 0 → (False)))) ∧ (¬ r334 = 0 → (∀ v733 : Int32, v733 = (x4 + 4) → (K v733 σ334 τ346 ou334))))) ∧ (¬ r346 = r334 → (False))) τ340) τ) ou σ := h
  refine lv_aload_n hx hb d_L_law_332 rfl (lv_at hl 1 rfl) ?_
  refine lv_aload_n hx hb d_L_law_333 rfl (lv_at hl 3 rfl) ?_
  refine o_calli C hD hS (vx_runSW (As := [.ref (aX 0), .ref ao]) (rest := []) ⟨hx, hb, hml, hown, hts⟩ (m_L_open hlS h) (vx_cwSW 2 hts (g_SW kw_329 kw_330 kw_0 kw_331) rfl rfl rfl (by decide +kernel) ⟨(Nat.le_of_ble_eq_true rfl), (Nat.le_of_ble_eq_true rfl)⟩) (r_preS C hP hD hS) rfl rfl hl.1 rfl (lv_room (Nat.le_of_ble_eq_true rfl)) d_L_law_334 ⟨by show _ + 2 ≤ 601024; omega, by show _ + 12 ≤ 7293034; omega⟩) (fun r334 σ334 ou334 H locs h hP hD hS => ?_)
  refine lv_istore (lv' := [(5, .int r334), (0, .ref b), (1, .ref (aX 0)), (2, .ref (aM 0)), (3, .ref ao), (4, .int x4)]) hx hb d_L_law_337 hl (by decide) rfl (fun ls hl => ?_)
  refine lv_aload_n hx hb d_L_law_339 rfl (lv_at hl 3 rfl) ?_
  replace hP := l_swP hP
  replace hD := l_swD hD
  refine r_calli C hD hS (va_runV (As := []) (rest := []) ⟨hx, hb, hml, hown, hts⟩ (m_M_open h) (cwV 0 hts (g_V kw_612 kw_613 kw_614 kw_7 kw_615) rfl rfl rfl (by decide +kernel) ⟨(Nat.le_of_ble_eq_true rfl), (Nat.le_of_ble_eq_true rfl)⟩) (r_preV (o := 0) C hP hD hS (by decide) rfl rfl) rfl rfl hl.1 rfl (lv_room (Nat.le_of_ble_eq_true rfl)) d_L_law_340 ⟨by show _ + 0 ≤ 601024; omega, by show _ + 0 ≤ 7293034; omega⟩) (fun r340 τ340 H locs h hP hD hS => ?_)
  replace hP := l_bkP hP
  replace hD := l_bkD hD
  refine lv_istore (lv' := [(6, .int r340), (5, .int r334), (0, .ref b), (1, .ref (aX 0)), (2, .ref (aM 0)), (3, .ref ao), (4, .int x4)]) hx hb d_L_law_343 hl (by decide) rfl (fun ls hl => ?_)
  refine lv_aload_n hx hb d_L_law_345 rfl (lv_at hl 4 rfl) ?_
  replace hP := l_swP hP
  replace hD := l_swD hD
  refine r_calli C hD hS (va_runV (As := []) (rest := []) ⟨hx, hb, hml, hown, hts⟩ (m_M_thrown h) (cwV 0 hts (g_V kw_571 kw_572 kw_573 kw_7 kw_574) rfl rfl rfl (by decide +kernel) ⟨(Nat.le_of_ble_eq_true rfl), (Nat.le_of_ble_eq_true rfl)⟩) (r_preV (o := 0) C hP hD hS (by decide) rfl rfl) rfl rfl hl.1 rfl (lv_room (Nat.le_of_ble_eq_true rfl)) d_L_law_346 ⟨by show _ + 0 ≤ 601024; omega, by show _ + 0 ≤ 7293034; omega⟩) (fun r346 τ346 H locs h hP hD hS => ?_)
  replace hP := l_bkP hP
  replace hD := l_bkD hD
  refine lv_iload hx hb d_L_law_349 (lv_at hl 1 rfl) ?_
  refine lv_icmp_eq hx hb d_L_law_351 rfl (fun hc351 => ?_) (fun hc351 => ?_)
  · have h := h.1 hc351
    refine lv_iload hx hb d_L_law_356 (lv_at hl 1 rfl) ?_
    refine lv_if_ne hx hb d_L_law_358 rfl (fun hc358 => ?_) (fun hc358 => ?_)
    · have h := h.2 hc358
      refine lv_goto hx hb d_L_law_373 rfl ?_
      obtain ⟨v733, e733⟩ : ∃ z : Int32, z = (x4 + 4) := ⟨_, rfl⟩
      have h := h v733 e733
      refine lv_iinc (k := 6) (v := v733) (lv' := [(4, .int v733), (6, .int r340), (5, .int r334), (0, .ref b), (1, .ref (aX 0)), (2, .ref (aM 0)), (3, .ref ao)]) hx hb d_L_law_733 hl rfl (by rw [e733] <;> rfl) (by decide) rfl (fun ls hl => ?_)
      refine lv_goto hx hb d_L_law_736 rfl ?_
      exact hK h (by omega) (by omega) (lv_sub hl [3, 4, 5, 6, 0] rfl) hP hD hS
    · have h := h.1 hc358
      refine lv_aload_n hx hb d_L_law_361 rfl (lv_at hl 5 rfl) ?_
      refine lv_iconst (v := 0) hx hb d_L_law_362 (by decide) ?_
      refine o_lald C hP rfl d_L_law_363 ?_
      refine lv_iload hx hb d_L_law_364 (lv_at hl 0 rfl) ?_
      refine lv_i2l hx hb d_L_law_366 rfl ?_
      refine W.lcmp hx hb d_L_law_367 ?_
      refine lv_if_eq hx hb d_L_law_368 rfl (fun hc368 => ?_) (fun hc368 => ?_)
      · have h := h.1 hc368
        refine lv_goto hx hb d_L_law_373 rfl ?_
        obtain ⟨v733, e733⟩ : ∃ z : Int32, z = (x4 + 4) := ⟨_, rfl⟩
        have h := h v733 e733
        refine lv_iinc (k := 6) (v := v733) (lv' := [(4, .int v733), (6, .int r340), (5, .int r334), (0, .ref b), (1, .ref (aX 0)), (2, .ref (aM 0)), (3, .ref ao)]) hx hb d_L_law_733 hl rfl (by rw [e733] <;> rfl) (by decide) rfl (fun ls hl => ?_)
        refine lv_goto hx hb d_L_law_736 rfl ?_
        exact hK h (by omega) (by omega) (lv_sub hl [3, 4, 5, 6, 0] rfl) hP hD hS
      · have h := h.2 hc368
        refine lv_iconst (v := 0) hx hb d_L_law_371 (by decide) ?_
        exact h.elim
  · have h := h.2 hc351
    refine lv_iconst (v := 0) hx hb d_L_law_354 (by decide) ?_
    exact h.elim
set_option maxHeartbeats 8000000 in
set_option maxRecDepth 100000 in
theorem b_law_c5 {p : Program} {l : Launch} {e : Env} {s : State} {m : MethodId} {below : List Frame} {meth : Method} {c : Code} {D : va_G} {cI cL cZ cS : ClassId} {aX aM : Nat → Nat} {ao b L : Nat} {xs : Nat → Int32} {A : Nat → Prop} {K : Int32 → Mem → Mem → (Nat → Int64) → Prop} {n ce sl : Nat} {x4 : Int32} {σ τ : Mem} {ou : Nat → Int64} {H : Heap} {locs : List Loc} {ls : Array Slot} (C : wC TB "PreferenceCountLaw" c_L_law 8 ret D cls (tyl cI cL cZ cS) A p s m #[Value.ref b] meth c) (hlS : l.stackTraces = false) (hX : va_X b L xs s s.heap) (hbl : b < s.heap.size) (hbA : ¬ A b) (hK : ∀ {x4 : Int32} {σ τ : Mem} {ou : Nat → Int64} {H : Heap} {locs : List Loc} {ls : Array Slot} {ce sl : Nat}, K x4 σ τ ou → ce + 2 * n ≤ 601024 → sl + 12 * n ≤ 7293034 → lv_has ls 8 [(0, .ref b), (1, .ref (aX 0)), (2, .ref (aM 0)), (3, .ref ao), (4, .int x4)] → va_P D cls (WL cI cL cZ cS aX aM ao σ τ ou) H → va_D A (WL cI cL cZ cS aX aM ao σ τ ou) → va_S A s.heap H locs → W p l e room_1 s m #[Value.ref b] below meth c H locs ce sl (lw_Z below #[Value.ref b] s) (F0 m 23 ls [])) (hce : ce + 2 * (n + 1) ≤ 601024) (hsl : sl + 12 * (n + 1) ≤ 7293034) (h : wp_law_c5 xs L K x4 σ τ ou) (hl : lv_has ls 8 [(0, .ref b), (1, .ref (aX 0)), (2, .ref (aM 0)), (3, .ref ao), (4, .int x4)]) (hP : va_P D cls (WL cI cL cZ cS aX aM ao σ τ ou) H) (hD : va_D A (WL cI cL cZ cS aX aM ao σ τ ou)) (hS : va_S A s.heap H locs) : W p l e room_1 s m #[Value.ref b] below meth c H locs ce sl (lw_Z below #[Value.ref b] s) (F0 m 376 ls []) := by
  have hx := C.1
  have hb := C.2.1
  have hts := C.2.2.2.2.1
  have hown := C.2.2.2.2.2.1
  have hml := C.2.2.2.2.2.2.1
  have h : wp_L_step (fun r378 σ378 ou378 => wp_M_step (fun r384 τ384 => wp_M_thrown (fun r390 τ390 => (r390 = r378 → ((r378 = 0 → (((lg_cmp (ou378 0) (Int32.toInt64 r384)) = 0 → (∀ v733 : Int32, v733 = (x4 + 4) → (K v733 σ378 τ390 ou378))) ∧ (¬ (lg_cmp (ou378 0) (Int32.toInt64 r384)) = 0 → (False)))) ∧ (¬ r378 = 0 → (∀ v733 : Int32, v733 = (x4 + 4) → (K v733 σ378 τ390 ou378))))) ∧ (¬ r390 = r378 → (False))) τ384) τ) ou σ := h
  refine lv_aload_n hx hb d_L_law_376 rfl (lv_at hl 1 rfl) ?_
  refine lv_aload_n hx hb d_L_law_377 rfl (lv_at hl 3 rfl) ?_
  refine o_calli C hD hS (vx_runSW (As := [.ref (aX 0), .ref ao]) (rest := []) ⟨hx, hb, hml, hown, hts⟩ (m_L_step hlS h) (vx_cwSW 2 hts (g_SW kw_409 kw_410 kw_0 kw_411) rfl rfl rfl (by decide +kernel) ⟨(Nat.le_of_ble_eq_true rfl), (Nat.le_of_ble_eq_true rfl)⟩) (r_preS C hP hD hS) rfl rfl hl.1 rfl (lv_room (Nat.le_of_ble_eq_true rfl)) d_L_law_378 ⟨by show _ + 1 ≤ 601024; omega, by show _ + 6 ≤ 7293034; omega⟩) (fun r378 σ378 ou378 H locs h hP hD hS => ?_)
  refine lv_istore (lv' := [(5, .int r378), (0, .ref b), (1, .ref (aX 0)), (2, .ref (aM 0)), (3, .ref ao), (4, .int x4)]) hx hb d_L_law_381 hl (by decide) rfl (fun ls hl => ?_)
  refine lv_aload_n hx hb d_L_law_383 rfl (lv_at hl 3 rfl) ?_
  replace hP := l_swP hP
  replace hD := l_swD hD
  refine r_calli C hD hS (va_runV (As := []) (rest := []) ⟨hx, hb, hml, hown, hts⟩ (m_M_step h) (cwV 0 hts (g_V kw_659 kw_660 kw_661 kw_7 kw_662) rfl rfl rfl (by decide +kernel) ⟨(Nat.le_of_ble_eq_true rfl), (Nat.le_of_ble_eq_true rfl)⟩) (r_preV (o := 0) C hP hD hS (by decide) rfl rfl) rfl rfl hl.1 rfl (lv_room (Nat.le_of_ble_eq_true rfl)) d_L_law_384 ⟨by show _ + 0 ≤ 601024; omega, by show _ + 0 ≤ 7293034; omega⟩) (fun r384 τ384 H locs h hP hD hS => ?_)
  replace hP := l_bkP hP
  replace hD := l_bkD hD
  refine lv_istore (lv' := [(6, .int r384), (5, .int r378), (0, .ref b), (1, .ref (aX 0)), (2, .ref (aM 0)), (3, .ref ao), (4, .int x4)]) hx hb d_L_law_387 hl (by decide) rfl (fun ls hl => ?_)
  refine lv_aload_n hx hb d_L_law_389 rfl (lv_at hl 4 rfl) ?_
  replace hP := l_swP hP
  replace hD := l_swD hD
  refine r_calli C hD hS (va_runV (As := []) (rest := []) ⟨hx, hb, hml, hown, hts⟩ (m_M_thrown h) (cwV 0 hts (g_V kw_571 kw_572 kw_573 kw_7 kw_574) rfl rfl rfl (by decide +kernel) ⟨(Nat.le_of_ble_eq_true rfl), (Nat.le_of_ble_eq_true rfl)⟩) (r_preV (o := 0) C hP hD hS (by decide) rfl rfl) rfl rfl hl.1 rfl (lv_room (Nat.le_of_ble_eq_true rfl)) d_L_law_390 ⟨by show _ + 0 ≤ 601024; omega, by show _ + 0 ≤ 7293034; omega⟩) (fun r390 τ390 H locs h hP hD hS => ?_)
  replace hP := l_bkP hP
  replace hD := l_bkD hD
  refine lv_iload hx hb d_L_law_393 (lv_at hl 1 rfl) ?_
  refine lv_icmp_eq hx hb d_L_law_395 rfl (fun hc395 => ?_) (fun hc395 => ?_)
  · have h := h.1 hc395
    refine lv_iload hx hb d_L_law_400 (lv_at hl 1 rfl) ?_
    refine lv_if_ne hx hb d_L_law_402 rfl (fun hc402 => ?_) (fun hc402 => ?_)
    · have h := h.2 hc402
      refine lv_goto hx hb d_L_law_417 rfl ?_
      obtain ⟨v733, e733⟩ : ∃ z : Int32, z = (x4 + 4) := ⟨_, rfl⟩
      have h := h v733 e733
      refine lv_iinc (k := 6) (v := v733) (lv' := [(4, .int v733), (6, .int r384), (5, .int r378), (0, .ref b), (1, .ref (aX 0)), (2, .ref (aM 0)), (3, .ref ao)]) hx hb d_L_law_733 hl rfl (by rw [e733] <;> rfl) (by decide) rfl (fun ls hl => ?_)
      refine lv_goto hx hb d_L_law_736 rfl ?_
      exact hK h (by omega) (by omega) (lv_sub hl [3, 4, 5, 6, 0] rfl) hP hD hS
    · have h := h.1 hc402
      refine lv_aload_n hx hb d_L_law_405 rfl (lv_at hl 5 rfl) ?_
      refine lv_iconst (v := 0) hx hb d_L_law_406 (by decide) ?_
      refine o_lald C hP rfl d_L_law_407 ?_
      refine lv_iload hx hb d_L_law_408 (lv_at hl 0 rfl) ?_
      refine lv_i2l hx hb d_L_law_410 rfl ?_
      refine W.lcmp hx hb d_L_law_411 ?_
      refine lv_if_eq hx hb d_L_law_412 rfl (fun hc412 => ?_) (fun hc412 => ?_)
      · have h := h.1 hc412
        refine lv_goto hx hb d_L_law_417 rfl ?_
        obtain ⟨v733, e733⟩ : ∃ z : Int32, z = (x4 + 4) := ⟨_, rfl⟩
        have h := h v733 e733
        refine lv_iinc (k := 6) (v := v733) (lv' := [(4, .int v733), (6, .int r384), (5, .int r378), (0, .ref b), (1, .ref (aX 0)), (2, .ref (aM 0)), (3, .ref ao)]) hx hb d_L_law_733 hl rfl (by rw [e733] <;> rfl) (by decide) rfl (fun ls hl => ?_)
        refine lv_goto hx hb d_L_law_736 rfl ?_
        exact hK h (by omega) (by omega) (lv_sub hl [3, 4, 5, 6, 0] rfl) hP hD hS
      · have h := h.2 hc412
        refine lv_iconst (v := 0) hx hb d_L_law_415 (by decide) ?_
        exact h.elim
  · have h := h.2 hc395
    refine lv_iconst (v := 0) hx hb d_L_law_398 (by decide) ?_
    exact h.elim
set_option maxHeartbeats 8000000 in
set_option maxRecDepth 100000 in
theorem b_law_c6 {p : Program} {l : Launch} {e : Env} {s : State} {m : MethodId} {below : List Frame} {meth : Method} {c : Code} {D : va_G} {cI cL cZ cS : ClassId} {aX aM : Nat → Nat} {ao b L : Nat} {xs : Nat → Int32} {A : Nat → Prop} {K : Int32 → Mem → Mem → (Nat → Int64) → Prop} {n ce sl : Nat} {x4 : Int32} {σ τ : Mem} {ou : Nat → Int64} {H : Heap} {locs : List Loc} {ls : Array Slot} (C : wC TB "PreferenceCountLaw" c_L_law 8 ret D cls (tyl cI cL cZ cS) A p s m #[Value.ref b] meth c) (hlS : l.stackTraces = false) (hX : va_X b L xs s s.heap) (hbl : b < s.heap.size) (hbA : ¬ A b) (hK : ∀ {x4 : Int32} {σ τ : Mem} {ou : Nat → Int64} {H : Heap} {locs : List Loc} {ls : Array Slot} {ce sl : Nat}, K x4 σ τ ou → ce + 2 * n ≤ 601024 → sl + 12 * n ≤ 7293034 → lv_has ls 8 [(0, .ref b), (1, .ref (aX 0)), (2, .ref (aM 0)), (3, .ref ao), (4, .int x4)] → va_P D cls (WL cI cL cZ cS aX aM ao σ τ ou) H → va_D A (WL cI cL cZ cS aX aM ao σ τ ou) → va_S A s.heap H locs → W p l e room_1 s m #[Value.ref b] below meth c H locs ce sl (lw_Z below #[Value.ref b] s) (F0 m 23 ls [])) (hce : ce + 2 * (n + 1) ≤ 601024) (hsl : sl + 12 * (n + 1) ≤ 7293034) (h : wp_law_c6 xs L K x4 σ τ ou) (hl : lv_has ls 8 [(0, .ref b), (1, .ref (aX 0)), (2, .ref (aM 0)), (3, .ref ao), (4, .int x4)]) (hP : va_P D cls (WL cI cL cZ cS aX aM ao σ τ ou) H) (hD : va_D A (WL cI cL cZ cS aX aM ao σ τ ou)) (hS : va_S A s.heap H locs) : W p l e room_1 s m #[Value.ref b] below meth c H locs ce sl (lw_Z below #[Value.ref b] s) (F0 m 420 ls []) := by
  have hx := C.1
  have hb := C.2.1
  have hts := C.2.2.2.2.1
  have hown := C.2.2.2.2.2.1
  have hml := C.2.2.2.2.2.2.1
  have h : wp_C_over (fun r421 σ421 => wp_M_over (fun r425 τ425 => (r421 = r425 → (∀ v733 : Int32, v733 = (x4 + 4) → (K v733 σ421 τ425 ou))) ∧ (¬ r421 = r425 → (False))) τ) σ := h
  refine lv_aload_n hx hb d_L_law_420 rfl (lv_at hl 1 rfl) ?_
  refine r_calli C hD hS (va_runV (As := []) (rest := []) ⟨hx, hb, hml, hown, hts⟩ (m_C_over h) (cwV 0 hts (g_V kw_157 kw_158 kw_159 kw_1 kw_160) rfl rfl rfl (by decide +kernel) ⟨(Nat.le_of_ble_eq_true rfl), (Nat.le_of_ble_eq_true rfl)⟩) (r_preV (o := 0) C hP hD hS (by decide) rfl rfl) rfl rfl hl.1 rfl (lv_room (Nat.le_of_ble_eq_true rfl)) d_L_law_421 ⟨by show _ + 0 ≤ 601024; omega, by show _ + 0 ≤ 7293034; omega⟩) (fun r421 σ421 H locs h hP hD hS => ?_)
  refine lv_aload_n hx hb d_L_law_424 rfl (lv_at hl 2 rfl) ?_
  replace hP := l_swP hP
  replace hD := l_swD hD
  refine r_calli C hD hS (va_runV (As := []) (rest := [.int r421]) ⟨hx, hb, hml, hown, hts⟩ (m_M_over h) (cwV 0 hts (g_V kw_671 kw_672 kw_673 kw_7 kw_674) rfl rfl rfl (by decide +kernel) ⟨(Nat.le_of_ble_eq_true rfl), (Nat.le_of_ble_eq_true rfl)⟩) (r_preV (o := 0) C hP hD hS (by decide) rfl rfl) rfl rfl hl.1 rfl (lv_room (Nat.le_of_ble_eq_true rfl)) d_L_law_425 ⟨by show _ + 0 ≤ 601024; omega, by show _ + 0 ≤ 7293034; omega⟩) (fun r425 τ425 H locs h hP hD hS => ?_)
  replace hP := l_bkP hP
  replace hD := l_bkD hD
  refine lv_icmp_eq hx hb d_L_law_428 rfl (fun hc428 => ?_) (fun hc428 => ?_)
  · have h := h.1 hc428
    obtain ⟨v733, e733⟩ : ∃ z : Int32, z = (x4 + 4) := ⟨_, rfl⟩
    have h := h v733 e733
    refine lv_iinc (k := 4) (v := v733) (lv' := [(4, .int v733), (0, .ref b), (1, .ref (aX 0)), (2, .ref (aM 0)), (3, .ref ao)]) hx hb d_L_law_733 hl rfl (by rw [e733] <;> rfl) (by decide) rfl (fun ls hl => ?_)
    refine lv_goto hx hb d_L_law_736 rfl ?_
    exact hK h (by omega) (by omega) (lv_sub hl [1, 2, 3, 4, 0] rfl) hP hD hS
  · have h := h.2 hc428
    refine lv_iconst (v := 0) hx hb d_L_law_431 (by decide) ?_
    exact h.elim
set_option maxHeartbeats 8000000 in
set_option maxRecDepth 100000 in
theorem b_law_c7 {p : Program} {l : Launch} {e : Env} {s : State} {m : MethodId} {below : List Frame} {meth : Method} {c : Code} {D : va_G} {cI cL cZ cS : ClassId} {aX aM : Nat → Nat} {ao b L : Nat} {xs : Nat → Int32} {A : Nat → Prop} {K : Int32 → Mem → Mem → (Nat → Int64) → Prop} {n ce sl : Nat} {x4 : Int32} {σ τ : Mem} {ou : Nat → Int64} {H : Heap} {locs : List Loc} {ls : Array Slot} (C : wC TB "PreferenceCountLaw" c_L_law 8 ret D cls (tyl cI cL cZ cS) A p s m #[Value.ref b] meth c) (hlS : l.stackTraces = false) (hX : va_X b L xs s s.heap) (hbl : b < s.heap.size) (hbA : ¬ A b) (hK : ∀ {x4 : Int32} {σ τ : Mem} {ou : Nat → Int64} {H : Heap} {locs : List Loc} {ls : Array Slot} {ce sl : Nat}, K x4 σ τ ou → ce + 2 * n ≤ 601024 → sl + 12 * n ≤ 7293034 → lv_has ls 8 [(0, .ref b), (1, .ref (aX 0)), (2, .ref (aM 0)), (3, .ref ao), (4, .int x4)] → va_P D cls (WL cI cL cZ cS aX aM ao σ τ ou) H → va_D A (WL cI cL cZ cS aX aM ao σ τ ou) → va_S A s.heap H locs → W p l e room_1 s m #[Value.ref b] below meth c H locs ce sl (lw_Z below #[Value.ref b] s) (F0 m 23 ls [])) (hce : ce + 2 * (n + 1) ≤ 601024) (hsl : sl + 12 * (n + 1) ≤ 7293034) (h : wp_law_c7 xs L K x4 σ τ ou) (hl : lv_has ls 8 [(0, .ref b), (1, .ref (aX 0)), (2, .ref (aM 0)), (3, .ref ao), (4, .int x4)]) (hP : va_P D cls (WL cI cL cZ cS aX aM ao σ τ ou) H) (hD : va_D A (WL cI cL cZ cS aX aM ao σ τ ou)) (hS : va_S A s.heap H locs) : W p l e room_1 s m #[Value.ref b] below meth c H locs ce sl (lw_Z below #[Value.ref b] s) (F0 m 433 ls []) := by
  have hx := C.1
  have hb := C.2.1
  have hts := C.2.2.2.2.1
  have hown := C.2.2.2.2.2.1
  have hml := C.2.2.2.2.2.2.1
  have h : vp_in (x4 + (1 : Int32)) L ∧ (wp_C_state (fun r440 σ440 => vp_in (x4 + (1 : Int32)) L ∧ (wp_M_state (fun r450 τ450 => (r440 = r450 → (∀ v733 : Int32, v733 = (x4 + 4) → (K v733 σ440 τ450 ou))) ∧ (¬ r440 = r450 → (False))) (xs (Int32.toNatClampNeg (x4 + (1 : Int32)))) τ)) (xs (Int32.toNatClampNeg (x4 + (1 : Int32)))) σ) := h
  refine lv_aload_n hx hb d_L_law_433 rfl (lv_at hl 1 rfl) ?_
  refine lv_aload_n hx hb d_L_law_434 rfl (lv_at hl 0 rfl) ?_
  refine lv_iload hx hb d_L_law_435 (lv_at hl 4 rfl) ?_
  refine lv_iconst (v := 1) hx hb d_L_law_437 (by decide) ?_
  refine lv_iadd hx hb d_L_law_438 ?_
  obtain ⟨hi439, h⟩ := h
  refine va_sld hx hb hX hbl hbA hS hi439 d_L_law_439 ?_
  refine r_calli C hD hS (va_runV (As := [.int (xs (Int32.toNatClampNeg (x4 + (1 : Int32))))]) (rest := []) ⟨hx, hb, hml, hown, hts⟩ (m_C_state h) (cwV 1 hts (g_V kw_161 kw_162 kw_163 kw_1 kw_164) rfl rfl rfl (by decide +kernel) ⟨(Nat.le_of_ble_eq_true rfl), (Nat.le_of_ble_eq_true rfl)⟩) (r_preV (o := 0) C hP hD hS (by decide) rfl rfl) rfl rfl hl.1 rfl (lv_room (Nat.le_of_ble_eq_true rfl)) d_L_law_440 ⟨by show _ + 0 ≤ 601024; omega, by show _ + 0 ≤ 7293034; omega⟩) (fun r440 σ440 H locs h hP hD hS => ?_)
  refine lv_aload_n hx hb d_L_law_443 rfl (lv_at hl 2 rfl) ?_
  refine lv_aload_n hx hb d_L_law_444 rfl (lv_at hl 0 rfl) ?_
  refine lv_iload hx hb d_L_law_445 (lv_at hl 4 rfl) ?_
  refine lv_iconst (v := 1) hx hb d_L_law_447 (by decide) ?_
  refine lv_iadd hx hb d_L_law_448 ?_
  obtain ⟨hi449, h⟩ := h
  refine va_sld hx hb hX hbl hbA hS hi449 d_L_law_449 ?_
  replace hP := l_swP hP
  replace hD := l_swD hD
  refine r_calli C hD hS (va_runV (As := [.int (xs (Int32.toNatClampNeg (x4 + (1 : Int32))))]) (rest := [.int r440]) ⟨hx, hb, hml, hown, hts⟩ (m_M_state h) (cwV 1 hts (g_V kw_675 kw_676 kw_677 kw_7 kw_678) rfl rfl rfl (by decide +kernel) ⟨(Nat.le_of_ble_eq_true rfl), (Nat.le_of_ble_eq_true rfl)⟩) (r_preV (o := 0) C hP hD hS (by decide) rfl rfl) rfl rfl hl.1 rfl (lv_room (Nat.le_of_ble_eq_true rfl)) d_L_law_450 ⟨by show _ + 0 ≤ 601024; omega, by show _ + 0 ≤ 7293034; omega⟩) (fun r450 τ450 H locs h hP hD hS => ?_)
  replace hP := l_bkP hP
  replace hD := l_bkD hD
  refine lv_icmp_eq hx hb d_L_law_453 rfl (fun hc453 => ?_) (fun hc453 => ?_)
  · have h := h.1 hc453
    obtain ⟨v733, e733⟩ : ∃ z : Int32, z = (x4 + 4) := ⟨_, rfl⟩
    have h := h v733 e733
    refine lv_iinc (k := 4) (v := v733) (lv' := [(4, .int v733), (0, .ref b), (1, .ref (aX 0)), (2, .ref (aM 0)), (3, .ref ao)]) hx hb d_L_law_733 hl rfl (by rw [e733] <;> rfl) (by decide) rfl (fun ls hl => ?_)
    refine lv_goto hx hb d_L_law_736 rfl ?_
    exact hK h (by omega) (by omega) (lv_sub hl [1, 2, 3, 4, 0] rfl) hP hD hS
  · have h := h.2 hc453
    refine lv_iconst (v := 0) hx hb d_L_law_456 (by decide) ?_
    exact h.elim
set_option maxHeartbeats 8000000 in
set_option maxRecDepth 100000 in
theorem b_law_c8 {p : Program} {l : Launch} {e : Env} {s : State} {m : MethodId} {below : List Frame} {meth : Method} {c : Code} {D : va_G} {cI cL cZ cS : ClassId} {aX aM : Nat → Nat} {ao b L : Nat} {xs : Nat → Int32} {A : Nat → Prop} {K : Int32 → Mem → Mem → (Nat → Int64) → Prop} {n ce sl : Nat} {x4 : Int32} {σ τ : Mem} {ou : Nat → Int64} {H : Heap} {locs : List Loc} {ls : Array Slot} (C : wC TB "PreferenceCountLaw" c_L_law 8 ret D cls (tyl cI cL cZ cS) A p s m #[Value.ref b] meth c) (hlS : l.stackTraces = false) (hX : va_X b L xs s s.heap) (hbl : b < s.heap.size) (hbA : ¬ A b) (hK : ∀ {x4 : Int32} {σ τ : Mem} {ou : Nat → Int64} {H : Heap} {locs : List Loc} {ls : Array Slot} {ce sl : Nat}, K x4 σ τ ou → ce + 2 * n ≤ 601024 → sl + 12 * n ≤ 7293034 → lv_has ls 8 [(0, .ref b), (1, .ref (aX 0)), (2, .ref (aM 0)), (3, .ref ao), (4, .int x4)] → va_P D cls (WL cI cL cZ cS aX aM ao σ τ ou) H → va_D A (WL cI cL cZ cS aX aM ao σ τ ou) → va_S A s.heap H locs → W p l e room_1 s m #[Value.ref b] below meth c H locs ce sl (lw_Z below #[Value.ref b] s) (F0 m 23 ls [])) (hce : ce + 2 * (n + 1) ≤ 601024) (hsl : sl + 12 * (n + 1) ≤ 7293034) (h : wp_law_c8 xs L K x4 σ τ ou) (hl : lv_has ls 8 [(0, .ref b), (1, .ref (aX 0)), (2, .ref (aM 0)), (3, .ref ao), (4, .int x4)]) (hP : va_P D cls (WL cI cL cZ cS aX aM ao σ τ ou) H) (hD : va_D A (WL cI cL cZ cS aX aM ao σ τ ou)) (hS : va_S A s.heap H locs) : W p l e room_1 s m #[Value.ref b] below meth c H locs ce sl (lw_Z below #[Value.ref b] s) (F0 m 458 ls []) := by
  have hx := C.1
  have hb := C.2.1
  have hts := C.2.2.2.2.1
  have hown := C.2.2.2.2.2.1
  have hml := C.2.2.2.2.2.2.1
  have h : vp_in (x4 + (1 : Int32)) L ∧ (wp_L_status (fun r466 σ466 ou466 => vp_in (x4 + (1 : Int32)) L ∧ (wp_M_status (fun r478 τ478 => wp_M_thrown (fun r484 τ484 => (r484 = r466 → ((r466 = 0 → (((lg_cmp (ou466 0) (Int32.toInt64 r478)) = 0 → (∀ v733 : Int32, v733 = (x4 + 4) → (K v733 σ466 τ484 ou466))) ∧ (¬ (lg_cmp (ou466 0) (Int32.toInt64 r478)) = 0 → (False)))) ∧ (¬ r466 = 0 → (∀ v733 : Int32, v733 = (x4 + 4) → (K v733 σ466 τ484 ou466))))) ∧ (¬ r484 = r466 → (False))) τ478) (xs (Int32.toNatClampNeg (x4 + (1 : Int32)))) τ)) ou (xs (Int32.toNatClampNeg (x4 + (1 : Int32)))) σ) := h
  refine lv_aload_n hx hb d_L_law_458 rfl (lv_at hl 1 rfl) ?_
  refine lv_aload_n hx hb d_L_law_459 rfl (lv_at hl 0 rfl) ?_
  refine lv_iload hx hb d_L_law_460 (lv_at hl 4 rfl) ?_
  refine lv_iconst (v := 1) hx hb d_L_law_462 (by decide) ?_
  refine lv_iadd hx hb d_L_law_463 ?_
  obtain ⟨hi464, h⟩ := h
  refine va_sld hx hb hX hbl hbA hS hi464 d_L_law_464 ?_
  refine lv_aload_n hx hb d_L_law_465 rfl (lv_at hl 3 rfl) ?_
  refine o_calli C hD hS (vx_runSW (As := [.ref (aX 0), .int (xs (Int32.toNatClampNeg (x4 + (1 : Int32)))), .ref ao]) (rest := []) ⟨hx, hb, hml, hown, hts⟩ (m_L_status hlS h) (vx_cwSW 3 hts (g_SW kw_441 kw_442 kw_0 kw_443) rfl rfl rfl (by decide +kernel) ⟨(Nat.le_of_ble_eq_true rfl), (Nat.le_of_ble_eq_true rfl)⟩) (r_preS C hP hD hS) rfl rfl hl.1 rfl (lv_room (Nat.le_of_ble_eq_true rfl)) d_L_law_466 ⟨by show _ + 1 ≤ 601024; omega, by show _ + 6 ≤ 7293034; omega⟩) (fun r466 σ466 ou466 H locs h hP hD hS => ?_)
  refine lv_istore (lv' := [(5, .int r466), (0, .ref b), (1, .ref (aX 0)), (2, .ref (aM 0)), (3, .ref ao), (4, .int x4)]) hx hb d_L_law_469 hl (by decide) rfl (fun ls hl => ?_)
  refine lv_aload_n hx hb d_L_law_471 rfl (lv_at hl 3 rfl) ?_
  refine lv_aload_n hx hb d_L_law_472 rfl (lv_at hl 1 rfl) ?_
  refine lv_iload hx hb d_L_law_473 (lv_at hl 5 rfl) ?_
  refine lv_iconst (v := 1) hx hb d_L_law_475 (by decide) ?_
  refine lv_iadd hx hb d_L_law_476 ?_
  obtain ⟨hi477, h⟩ := h
  refine va_sld hx hb hX hbl hbA hS hi477 d_L_law_477 ?_
  replace hP := l_swP hP
  replace hD := l_swD hD
  refine r_calli C hD hS (va_runV (As := [.int (xs (Int32.toNatClampNeg (x4 + (1 : Int32))))]) (rest := []) ⟨hx, hb, hml, hown, hts⟩ (m_M_status h) (cwV 1 hts (g_V kw_679 kw_680 kw_681 kw_7 kw_682) rfl rfl rfl (by decide +kernel) ⟨(Nat.le_of_ble_eq_true rfl), (Nat.le_of_ble_eq_true rfl)⟩) (r_preV (o := 0) C hP hD hS (by decide) rfl rfl) rfl rfl hl.1 rfl (lv_room (Nat.le_of_ble_eq_true rfl)) d_L_law_478 ⟨by show _ + 0 ≤ 601024; omega, by show _ + 0 ≤ 7293034; omega⟩) (fun r478 τ478 H locs h hP hD hS => ?_)
  replace hP := l_bkP hP
  replace hD := l_bkD hD
  refine lv_istore (lv' := [(6, .int r478), (5, .int r466), (0, .ref b), (1, .ref (aX 0)), (2, .ref (aM 0)), (3, .ref ao), (4, .int x4)]) hx hb d_L_law_481 hl (by decide) rfl (fun ls hl => ?_)
  refine lv_aload_n hx hb d_L_law_483 rfl (lv_at hl 4 rfl) ?_
  replace hP := l_swP hP
  replace hD := l_swD hD
  refine r_calli C hD hS (va_runV (As := []) (rest := []) ⟨hx, hb, hml, hown, hts⟩ (m_M_thrown h) (cwV 0 hts (g_V kw_571 kw_572 kw_573 kw_7 kw_574) rfl rfl rfl (by decide +kernel) ⟨(Nat.le_of_ble_eq_true rfl), (Nat.le_of_ble_eq_true rfl)⟩) (r_preV (o := 0) C hP hD hS (by decide) rfl rfl) rfl rfl hl.1 rfl (lv_room (Nat.le_of_ble_eq_true rfl)) d_L_law_484 ⟨by show _ + 0 ≤ 601024; omega, by show _ + 0 ≤ 7293034; omega⟩) (fun r484 τ484 H locs h hP hD hS => ?_)
  replace hP := l_bkP hP
  replace hD := l_bkD hD
  refine lv_iload hx hb d_L_law_487 (lv_at hl 1 rfl) ?_
  refine lv_icmp_eq hx hb d_L_law_489 rfl (fun hc489 => ?_) (fun hc489 => ?_)
  · have h := h.1 hc489
    refine lv_iload hx hb d_L_law_494 (lv_at hl 1 rfl) ?_
    refine lv_if_ne hx hb d_L_law_496 rfl (fun hc496 => ?_) (fun hc496 => ?_)
    · have h := h.2 hc496
      refine lv_goto hx hb d_L_law_511 rfl ?_
      obtain ⟨v733, e733⟩ : ∃ z : Int32, z = (x4 + 4) := ⟨_, rfl⟩
      have h := h v733 e733
      refine lv_iinc (k := 6) (v := v733) (lv' := [(4, .int v733), (6, .int r478), (5, .int r466), (0, .ref b), (1, .ref (aX 0)), (2, .ref (aM 0)), (3, .ref ao)]) hx hb d_L_law_733 hl rfl (by rw [e733] <;> rfl) (by decide) rfl (fun ls hl => ?_)
      refine lv_goto hx hb d_L_law_736 rfl ?_
      exact hK h (by omega) (by omega) (lv_sub hl [3, 4, 5, 6, 0] rfl) hP hD hS
    · have h := h.1 hc496
      refine lv_aload_n hx hb d_L_law_499 rfl (lv_at hl 5 rfl) ?_
      refine lv_iconst (v := 0) hx hb d_L_law_500 (by decide) ?_
      refine o_lald C hP rfl d_L_law_501 ?_
      refine lv_iload hx hb d_L_law_502 (lv_at hl 0 rfl) ?_
      refine lv_i2l hx hb d_L_law_504 rfl ?_
      refine W.lcmp hx hb d_L_law_505 ?_
      refine lv_if_eq hx hb d_L_law_506 rfl (fun hc506 => ?_) (fun hc506 => ?_)
      · have h := h.1 hc506
        refine lv_goto hx hb d_L_law_511 rfl ?_
        obtain ⟨v733, e733⟩ : ∃ z : Int32, z = (x4 + 4) := ⟨_, rfl⟩
        have h := h v733 e733
        refine lv_iinc (k := 6) (v := v733) (lv' := [(4, .int v733), (6, .int r478), (5, .int r466), (0, .ref b), (1, .ref (aX 0)), (2, .ref (aM 0)), (3, .ref ao)]) hx hb d_L_law_733 hl rfl (by rw [e733] <;> rfl) (by decide) rfl (fun ls hl => ?_)
        refine lv_goto hx hb d_L_law_736 rfl ?_
        exact hK h (by omega) (by omega) (lv_sub hl [3, 4, 5, 6, 0] rfl) hP hD hS
      · have h := h.2 hc506
        refine lv_iconst (v := 0) hx hb d_L_law_509 (by decide) ?_
        exact h.elim
  · have h := h.2 hc489
    refine lv_iconst (v := 0) hx hb d_L_law_492 (by decide) ?_
    exact h.elim
set_option maxHeartbeats 8000000 in
set_option maxRecDepth 100000 in
theorem b_law_c9 {p : Program} {l : Launch} {e : Env} {s : State} {m : MethodId} {below : List Frame} {meth : Method} {c : Code} {D : va_G} {cI cL cZ cS : ClassId} {aX aM : Nat → Nat} {ao b L : Nat} {xs : Nat → Int32} {A : Nat → Prop} {K : Int32 → Mem → Mem → (Nat → Int64) → Prop} {n ce sl : Nat} {x4 : Int32} {σ τ : Mem} {ou : Nat → Int64} {H : Heap} {locs : List Loc} {ls : Array Slot} (C : wC TB "PreferenceCountLaw" c_L_law 8 ret D cls (tyl cI cL cZ cS) A p s m #[Value.ref b] meth c) (hlS : l.stackTraces = false) (hX : va_X b L xs s s.heap) (hbl : b < s.heap.size) (hbA : ¬ A b) (hK : ∀ {x4 : Int32} {σ τ : Mem} {ou : Nat → Int64} {H : Heap} {locs : List Loc} {ls : Array Slot} {ce sl : Nat}, K x4 σ τ ou → ce + 2 * n ≤ 601024 → sl + 12 * n ≤ 7293034 → lv_has ls 8 [(0, .ref b), (1, .ref (aX 0)), (2, .ref (aM 0)), (3, .ref ao), (4, .int x4)] → va_P D cls (WL cI cL cZ cS aX aM ao σ τ ou) H → va_D A (WL cI cL cZ cS aX aM ao σ τ ou) → va_S A s.heap H locs → W p l e room_1 s m #[Value.ref b] below meth c H locs ce sl (lw_Z below #[Value.ref b] s) (F0 m 23 ls [])) (hce : ce + 2 * (n + 1) ≤ 601024) (hsl : sl + 12 * (n + 1) ≤ 7293034) (h : wp_law_c9 xs L K x4 σ τ ou) (hl : lv_has ls 8 [(0, .ref b), (1, .ref (aX 0)), (2, .ref (aM 0)), (3, .ref ao), (4, .int x4)]) (hP : va_P D cls (WL cI cL cZ cS aX aM ao σ τ ou) H) (hD : va_D A (WL cI cL cZ cS aX aM ao σ τ ou)) (hS : va_S A s.heap H locs) : W p l e room_1 s m #[Value.ref b] below meth c H locs ce sl (lw_Z below #[Value.ref b] s) (F0 m 514 ls []) := by
  have hx := C.1
  have hb := C.2.1
  have hts := C.2.2.2.2.1
  have hown := C.2.2.2.2.2.1
  have hml := C.2.2.2.2.2.2.1
  have h : vp_in (x4 + (1 : Int32)) L ∧ (vp_in (x4 + (2 : Int32)) L ∧ (vp_in (x4 + (3 : Int32)) L ∧ (((xs (Int32.toNatClampNeg (x4 + (3 : Int32)))) = 0 → (wp_L_total (fun r542 σ542 ou542 => vp_in (x4 + (1 : Int32)) L ∧ (vp_in (x4 + (2 : Int32)) L ∧ (vp_in (x4 + (3 : Int32)) L ∧ (((xs (Int32.toNatClampNeg (x4 + (3 : Int32)))) = 0 → (wp_M_total (fun r574 τ574 => wp_M_thrown (fun r580 τ580 => (r580 = r542 → ((r542 = 0 → (((lg_cmp (ou542 0) r574) = 0 → (∀ v733 : Int32, v733 = (x4 + 4) → (K v733 σ542 τ580 ou542))) ∧ (¬ (lg_cmp (ou542 0) r574) = 0 → (False)))) ∧ (¬ r542 = 0 → (∀ v733 : Int32, v733 = (x4 + 4) → (K v733 σ542 τ580 ou542))))) ∧ (¬ r580 = r542 → (False))) τ574) (xs (Int32.toNatClampNeg (x4 + (1 : Int32)))) (xs (Int32.toNatClampNeg (x4 + (2 : Int32)))) (0 : Int32) τ)) ∧ (¬ (xs (Int32.toNatClampNeg (x4 + (3 : Int32)))) = 0 → (wp_M_total (fun r574 τ574 => wp_M_thrown (fun r580 τ580 => (r580 = r542 → ((r542 = 0 → (((lg_cmp (ou542 0) r574) = 0 → (∀ v733 : Int32, v733 = (x4 + 4) → (K v733 σ542 τ580 ou542))) ∧ (¬ (lg_cmp (ou542 0) r574) = 0 → (False)))) ∧ (¬ r542 = 0 → (∀ v733 : Int32, v733 = (x4 + 4) → (K v733 σ542 τ580 ou542))))) ∧ (¬ r580 = r542 → (False))) τ574) (xs (Int32.toNatClampNeg (x4 + (1 : Int32)))) (xs (Int32.toNatClampNeg (x4 + (2 : Int32)))) (1 : Int32) τ)))))) ou (xs (Int32.toNatClampNeg (x4 + (1 : Int32)))) (xs (Int32.toNatClampNeg (x4 + (2 : Int32)))) (0 : Int32) σ)) ∧ (¬ (xs (Int32.toNatClampNeg (x4 + (3 : Int32)))) = 0 → (wp_L_total (fun r542 σ542 ou542 => vp_in (x4 + (1 : Int32)) L ∧ (vp_in (x4 + (2 : Int32)) L ∧ (vp_in (x4 + (3 : Int32)) L ∧ (((xs (Int32.toNatClampNeg (x4 + (3 : Int32)))) = 0 → (wp_M_total (fun r574 τ574 => wp_M_thrown (fun r580 τ580 => (r580 = r542 → ((r542 = 0 → (((lg_cmp (ou542 0) r574) = 0 → (∀ v733 : Int32, v733 = (x4 + 4) → (K v733 σ542 τ580 ou542))) ∧ (¬ (lg_cmp (ou542 0) r574) = 0 → (False)))) ∧ (¬ r542 = 0 → (∀ v733 : Int32, v733 = (x4 + 4) → (K v733 σ542 τ580 ou542))))) ∧ (¬ r580 = r542 → (False))) τ574) (xs (Int32.toNatClampNeg (x4 + (1 : Int32)))) (xs (Int32.toNatClampNeg (x4 + (2 : Int32)))) (0 : Int32) τ)) ∧ (¬ (xs (Int32.toNatClampNeg (x4 + (3 : Int32)))) = 0 → (wp_M_total (fun r574 τ574 => wp_M_thrown (fun r580 τ580 => (r580 = r542 → ((r542 = 0 → (((lg_cmp (ou542 0) r574) = 0 → (∀ v733 : Int32, v733 = (x4 + 4) → (K v733 σ542 τ580 ou542))) ∧ (¬ (lg_cmp (ou542 0) r574) = 0 → (False)))) ∧ (¬ r542 = 0 → (∀ v733 : Int32, v733 = (x4 + 4) → (K v733 σ542 τ580 ou542))))) ∧ (¬ r580 = r542 → (False))) τ574) (xs (Int32.toNatClampNeg (x4 + (1 : Int32)))) (xs (Int32.toNatClampNeg (x4 + (2 : Int32)))) (1 : Int32) τ)))))) ou (xs (Int32.toNatClampNeg (x4 + (1 : Int32)))) (xs (Int32.toNatClampNeg (x4 + (2 : Int32)))) (1 : Int32) σ))))) := h
  refine lv_aload_n hx hb d_L_law_514 rfl (lv_at hl 1 rfl) ?_
  refine lv_aload_n hx hb d_L_law_515 rfl (lv_at hl 0 rfl) ?_
  refine lv_iload hx hb d_L_law_516 (lv_at hl 4 rfl) ?_
  refine lv_iconst (v := 1) hx hb d_L_law_518 (by decide) ?_
  refine lv_iadd hx hb d_L_law_519 ?_
  obtain ⟨hi520, h⟩ := h
  refine va_sld hx hb hX hbl hbA hS hi520 d_L_law_520 ?_
  refine lv_aload_n hx hb d_L_law_521 rfl (lv_at hl 0 rfl) ?_
  refine lv_iload hx hb d_L_law_522 (lv_at hl 4 rfl) ?_
  refine lv_iconst (v := 2) hx hb d_L_law_524 (by decide) ?_
  refine lv_iadd hx hb d_L_law_525 ?_
  obtain ⟨hi526, h⟩ := h
  refine va_sld hx hb hX hbl hbA hS hi526 d_L_law_526 ?_
  refine lv_aload_n hx hb d_L_law_527 rfl (lv_at hl 0 rfl) ?_
  refine lv_iload hx hb d_L_law_528 (lv_at hl 4 rfl) ?_
  refine lv_iconst (v := 3) hx hb d_L_law_530 (by decide) ?_
  refine lv_iadd hx hb d_L_law_531 ?_
  obtain ⟨hi532, h⟩ := h
  refine va_sld hx hb hX hbl hbA hS hi532 d_L_law_532 ?_
  refine lv_if_eq hx hb d_L_law_533 rfl (fun hc533 => ?_) (fun hc533 => ?_)
  · have h := h.1 hc533
    refine lv_iconst (v := 0) hx hb d_L_law_540 (by decide) ?_
    refine lv_aload_n hx hb d_L_law_541 rfl (lv_at hl 3 rfl) ?_
    refine o_calli C hD hS (vx_runSW (As := [.ref (aX 0), .int (xs (Int32.toNatClampNeg (x4 + (1 : Int32)))), .int (xs (Int32.toNatClampNeg (x4 + (2 : Int32)))), .int (0 : Int32), .ref ao]) (rest := []) ⟨hx, hb, hml, hown, hts⟩ (m_L_total hlS h) (vx_cwSW 5 hts (g_SW kw_465 kw_466 kw_0 kw_467) rfl rfl rfl (by decide +kernel) ⟨(Nat.le_of_ble_eq_true rfl), (Nat.le_of_ble_eq_true rfl)⟩) (r_preS C hP hD hS) rfl rfl hl.1 rfl (lv_room (Nat.le_of_ble_eq_true rfl)) d_L_law_542 ⟨by show _ + 1 ≤ 601024; omega, by show _ + 6 ≤ 7293034; omega⟩) (fun r542 σ542 ou542 H locs h hP hD hS => ?_)
    refine lv_istore (lv' := [(5, .int r542), (0, .ref b), (1, .ref (aX 0)), (2, .ref (aM 0)), (3, .ref ao), (4, .int x4)]) hx hb d_L_law_545 hl (by decide) rfl (fun ls hl => ?_)
    refine lv_aload_n hx hb d_L_law_547 rfl (lv_at hl 3 rfl) ?_
    refine lv_aload_n hx hb d_L_law_548 rfl (lv_at hl 1 rfl) ?_
    refine lv_iload hx hb d_L_law_549 (lv_at hl 5 rfl) ?_
    refine lv_iconst (v := 1) hx hb d_L_law_551 (by decide) ?_
    refine lv_iadd hx hb d_L_law_552 ?_
    obtain ⟨hi553, h⟩ := h
    refine va_sld hx hb hX hbl hbA hS hi553 d_L_law_553 ?_
    refine lv_aload_n hx hb d_L_law_554 rfl (lv_at hl 1 rfl) ?_
    refine lv_iload hx hb d_L_law_555 (lv_at hl 5 rfl) ?_
    refine lv_iconst (v := 2) hx hb d_L_law_557 (by decide) ?_
    refine lv_iadd hx hb d_L_law_558 ?_
    obtain ⟨hi559, h⟩ := h
    refine va_sld hx hb hX hbl hbA hS hi559 d_L_law_559 ?_
    refine lv_aload_n hx hb d_L_law_560 rfl (lv_at hl 1 rfl) ?_
    refine lv_iload hx hb d_L_law_561 (lv_at hl 5 rfl) ?_
    refine lv_iconst (v := 3) hx hb d_L_law_563 (by decide) ?_
    refine lv_iadd hx hb d_L_law_564 ?_
    obtain ⟨hi565, h⟩ := h
    refine va_sld hx hb hX hbl hbA hS hi565 d_L_law_565 ?_
    refine lv_if_eq hx hb d_L_law_566 rfl (fun hc566 => ?_) (fun hc566 => ?_)
    · have h := h.1 hc566
      refine lv_iconst (v := 0) hx hb d_L_law_573 (by decide) ?_
      replace hP := l_swP hP
      replace hD := l_swD hD
      refine r_calll C hD hS (va_runV (As := [.int (xs (Int32.toNatClampNeg (x4 + (1 : Int32)))), .int (xs (Int32.toNatClampNeg (x4 + (2 : Int32)))), .int (0 : Int32)]) (rest := []) ⟨hx, hb, hml, hown, hts⟩ (m_M_total h) (cwV 3 hts (g_V kw_683 kw_684 kw_685 kw_7 kw_686) rfl rfl rfl (by decide +kernel) ⟨(Nat.le_of_ble_eq_true rfl), (Nat.le_of_ble_eq_true rfl)⟩) (r_preV (o := 0) C hP hD hS (by decide) rfl rfl) rfl rfl hl.1 rfl (lv_room (Nat.le_of_ble_eq_true rfl)) d_L_law_574 ⟨by show _ + 0 ≤ 601024; omega, by show _ + 0 ≤ 7293034; omega⟩) (fun r574 τ574 H locs h hP hD hS => ?_)
      replace hP := l_bkP hP
      replace hD := l_bkD hD
      refine lv_lstore (lv' := [(6, .long r574), (5, .int r542), (0, .ref b), (1, .ref (aX 0)), (2, .ref (aM 0)), (3, .ref ao), (4, .int x4)]) hx hb d_L_law_577 hl (by decide) rfl (fun ls hl => ?_)
      refine lv_aload_n hx hb d_L_law_579 rfl (lv_at hl 4 rfl) ?_
      replace hP := l_swP hP
      replace hD := l_swD hD
      refine r_calli C hD hS (va_runV (As := []) (rest := []) ⟨hx, hb, hml, hown, hts⟩ (m_M_thrown h) (cwV 0 hts (g_V kw_571 kw_572 kw_573 kw_7 kw_574) rfl rfl rfl (by decide +kernel) ⟨(Nat.le_of_ble_eq_true rfl), (Nat.le_of_ble_eq_true rfl)⟩) (r_preV (o := 0) C hP hD hS (by decide) rfl rfl) rfl rfl hl.1 rfl (lv_room (Nat.le_of_ble_eq_true rfl)) d_L_law_580 ⟨by show _ + 0 ≤ 601024; omega, by show _ + 0 ≤ 7293034; omega⟩) (fun r580 τ580 H locs h hP hD hS => ?_)
      replace hP := l_bkP hP
      replace hD := l_bkD hD
      refine lv_iload hx hb d_L_law_583 (lv_at hl 1 rfl) ?_
      refine lv_icmp_eq hx hb d_L_law_585 rfl (fun hc585 => ?_) (fun hc585 => ?_)
      · have h := h.1 hc585
        refine lv_iload hx hb d_L_law_590 (lv_at hl 1 rfl) ?_
        refine lv_if_ne hx hb d_L_law_592 rfl (fun hc592 => ?_) (fun hc592 => ?_)
        · have h := h.2 hc592
          refine lv_goto hx hb d_L_law_606 rfl ?_
          obtain ⟨v733, e733⟩ : ∃ z : Int32, z = (x4 + 4) := ⟨_, rfl⟩
          have h := h v733 e733
          refine lv_iinc (k := 6) (v := v733) (lv' := [(4, .int v733), (6, .long r574), (5, .int r542), (0, .ref b), (1, .ref (aX 0)), (2, .ref (aM 0)), (3, .ref ao)]) hx hb d_L_law_733 hl rfl (by rw [e733] <;> rfl) (by decide) rfl (fun ls hl => ?_)
          refine lv_goto hx hb d_L_law_736 rfl ?_
          exact hK h (by omega) (by omega) (lv_sub hl [3, 4, 5, 6, 0] rfl) hP hD hS
        · have h := h.1 hc592
          refine lv_aload_n hx hb d_L_law_595 rfl (lv_at hl 5 rfl) ?_
          refine lv_iconst (v := 0) hx hb d_L_law_596 (by decide) ?_
          refine o_lald C hP rfl d_L_law_597 ?_
          refine lv_lload hx hb d_L_law_598 (lv_at hl 0 rfl) ?_
          refine W.lcmp hx hb d_L_law_600 ?_
          refine lv_if_eq hx hb d_L_law_601 rfl (fun hc601 => ?_) (fun hc601 => ?_)
          · have h := h.1 hc601
            refine lv_goto hx hb d_L_law_606 rfl ?_
            obtain ⟨v733, e733⟩ : ∃ z : Int32, z = (x4 + 4) := ⟨_, rfl⟩
            have h := h v733 e733
            refine lv_iinc (k := 6) (v := v733) (lv' := [(4, .int v733), (6, .long r574), (5, .int r542), (0, .ref b), (1, .ref (aX 0)), (2, .ref (aM 0)), (3, .ref ao)]) hx hb d_L_law_733 hl rfl (by rw [e733] <;> rfl) (by decide) rfl (fun ls hl => ?_)
            refine lv_goto hx hb d_L_law_736 rfl ?_
            exact hK h (by omega) (by omega) (lv_sub hl [3, 4, 5, 6, 0] rfl) hP hD hS
          · have h := h.2 hc601
            refine lv_iconst (v := 0) hx hb d_L_law_604 (by decide) ?_
            exact h.elim
      · have h := h.2 hc585
        refine lv_iconst (v := 0) hx hb d_L_law_588 (by decide) ?_
        exact h.elim
    · have h := h.2 hc566
      refine lv_iconst (v := 1) hx hb d_L_law_569 (by decide) ?_
      refine lv_goto hx hb d_L_law_570 rfl ?_
      replace hP := l_swP hP
      replace hD := l_swD hD
      refine r_calll C hD hS (va_runV (As := [.int (xs (Int32.toNatClampNeg (x4 + (1 : Int32)))), .int (xs (Int32.toNatClampNeg (x4 + (2 : Int32)))), .int (1 : Int32)]) (rest := []) ⟨hx, hb, hml, hown, hts⟩ (m_M_total h) (cwV 3 hts (g_V kw_683 kw_684 kw_685 kw_7 kw_686) rfl rfl rfl (by decide +kernel) ⟨(Nat.le_of_ble_eq_true rfl), (Nat.le_of_ble_eq_true rfl)⟩) (r_preV (o := 0) C hP hD hS (by decide) rfl rfl) rfl rfl hl.1 rfl (lv_room (Nat.le_of_ble_eq_true rfl)) d_L_law_574 ⟨by show _ + 0 ≤ 601024; omega, by show _ + 0 ≤ 7293034; omega⟩) (fun r574 τ574 H locs h hP hD hS => ?_)
      replace hP := l_bkP hP
      replace hD := l_bkD hD
      refine lv_lstore (lv' := [(6, .long r574), (5, .int r542), (0, .ref b), (1, .ref (aX 0)), (2, .ref (aM 0)), (3, .ref ao), (4, .int x4)]) hx hb d_L_law_577 hl (by decide) rfl (fun ls hl => ?_)
      refine lv_aload_n hx hb d_L_law_579 rfl (lv_at hl 4 rfl) ?_
      replace hP := l_swP hP
      replace hD := l_swD hD
      refine r_calli C hD hS (va_runV (As := []) (rest := []) ⟨hx, hb, hml, hown, hts⟩ (m_M_thrown h) (cwV 0 hts (g_V kw_571 kw_572 kw_573 kw_7 kw_574) rfl rfl rfl (by decide +kernel) ⟨(Nat.le_of_ble_eq_true rfl), (Nat.le_of_ble_eq_true rfl)⟩) (r_preV (o := 0) C hP hD hS (by decide) rfl rfl) rfl rfl hl.1 rfl (lv_room (Nat.le_of_ble_eq_true rfl)) d_L_law_580 ⟨by show _ + 0 ≤ 601024; omega, by show _ + 0 ≤ 7293034; omega⟩) (fun r580 τ580 H locs h hP hD hS => ?_)
      replace hP := l_bkP hP
      replace hD := l_bkD hD
      refine lv_iload hx hb d_L_law_583 (lv_at hl 1 rfl) ?_
      refine lv_icmp_eq hx hb d_L_law_585 rfl (fun hc585 => ?_) (fun hc585 => ?_)
      · have h := h.1 hc585
        refine lv_iload hx hb d_L_law_590 (lv_at hl 1 rfl) ?_
        refine lv_if_ne hx hb d_L_law_592 rfl (fun hc592 => ?_) (fun hc592 => ?_)
        · have h := h.2 hc592
          refine lv_goto hx hb d_L_law_606 rfl ?_
          obtain ⟨v733, e733⟩ : ∃ z : Int32, z = (x4 + 4) := ⟨_, rfl⟩
          have h := h v733 e733
          refine lv_iinc (k := 6) (v := v733) (lv' := [(4, .int v733), (6, .long r574), (5, .int r542), (0, .ref b), (1, .ref (aX 0)), (2, .ref (aM 0)), (3, .ref ao)]) hx hb d_L_law_733 hl rfl (by rw [e733] <;> rfl) (by decide) rfl (fun ls hl => ?_)
          refine lv_goto hx hb d_L_law_736 rfl ?_
          exact hK h (by omega) (by omega) (lv_sub hl [3, 4, 5, 6, 0] rfl) hP hD hS
        · have h := h.1 hc592
          refine lv_aload_n hx hb d_L_law_595 rfl (lv_at hl 5 rfl) ?_
          refine lv_iconst (v := 0) hx hb d_L_law_596 (by decide) ?_
          refine o_lald C hP rfl d_L_law_597 ?_
          refine lv_lload hx hb d_L_law_598 (lv_at hl 0 rfl) ?_
          refine W.lcmp hx hb d_L_law_600 ?_
          refine lv_if_eq hx hb d_L_law_601 rfl (fun hc601 => ?_) (fun hc601 => ?_)
          · have h := h.1 hc601
            refine lv_goto hx hb d_L_law_606 rfl ?_
            obtain ⟨v733, e733⟩ : ∃ z : Int32, z = (x4 + 4) := ⟨_, rfl⟩
            have h := h v733 e733
            refine lv_iinc (k := 6) (v := v733) (lv' := [(4, .int v733), (6, .long r574), (5, .int r542), (0, .ref b), (1, .ref (aX 0)), (2, .ref (aM 0)), (3, .ref ao)]) hx hb d_L_law_733 hl rfl (by rw [e733] <;> rfl) (by decide) rfl (fun ls hl => ?_)
            refine lv_goto hx hb d_L_law_736 rfl ?_
            exact hK h (by omega) (by omega) (lv_sub hl [3, 4, 5, 6, 0] rfl) hP hD hS
          · have h := h.2 hc601
            refine lv_iconst (v := 0) hx hb d_L_law_604 (by decide) ?_
            exact h.elim
      · have h := h.2 hc585
        refine lv_iconst (v := 0) hx hb d_L_law_588 (by decide) ?_
        exact h.elim
  · have h := h.2 hc533
    refine lv_iconst (v := 1) hx hb d_L_law_536 (by decide) ?_
    refine lv_goto hx hb d_L_law_537 rfl ?_
    refine lv_aload_n hx hb d_L_law_541 rfl (lv_at hl 3 rfl) ?_
    refine o_calli C hD hS (vx_runSW (As := [.ref (aX 0), .int (xs (Int32.toNatClampNeg (x4 + (1 : Int32)))), .int (xs (Int32.toNatClampNeg (x4 + (2 : Int32)))), .int (1 : Int32), .ref ao]) (rest := []) ⟨hx, hb, hml, hown, hts⟩ (m_L_total hlS h) (vx_cwSW 5 hts (g_SW kw_465 kw_466 kw_0 kw_467) rfl rfl rfl (by decide +kernel) ⟨(Nat.le_of_ble_eq_true rfl), (Nat.le_of_ble_eq_true rfl)⟩) (r_preS C hP hD hS) rfl rfl hl.1 rfl (lv_room (Nat.le_of_ble_eq_true rfl)) d_L_law_542 ⟨by show _ + 1 ≤ 601024; omega, by show _ + 6 ≤ 7293034; omega⟩) (fun r542 σ542 ou542 H locs h hP hD hS => ?_)
    refine lv_istore (lv' := [(5, .int r542), (0, .ref b), (1, .ref (aX 0)), (2, .ref (aM 0)), (3, .ref ao), (4, .int x4)]) hx hb d_L_law_545 hl (by decide) rfl (fun ls hl => ?_)
    refine lv_aload_n hx hb d_L_law_547 rfl (lv_at hl 3 rfl) ?_
    refine lv_aload_n hx hb d_L_law_548 rfl (lv_at hl 1 rfl) ?_
    refine lv_iload hx hb d_L_law_549 (lv_at hl 5 rfl) ?_
    refine lv_iconst (v := 1) hx hb d_L_law_551 (by decide) ?_
    refine lv_iadd hx hb d_L_law_552 ?_
    obtain ⟨hi553, h⟩ := h
    refine va_sld hx hb hX hbl hbA hS hi553 d_L_law_553 ?_
    refine lv_aload_n hx hb d_L_law_554 rfl (lv_at hl 1 rfl) ?_
    refine lv_iload hx hb d_L_law_555 (lv_at hl 5 rfl) ?_
    refine lv_iconst (v := 2) hx hb d_L_law_557 (by decide) ?_
    refine lv_iadd hx hb d_L_law_558 ?_
    obtain ⟨hi559, h⟩ := h
    refine va_sld hx hb hX hbl hbA hS hi559 d_L_law_559 ?_
    refine lv_aload_n hx hb d_L_law_560 rfl (lv_at hl 1 rfl) ?_
    refine lv_iload hx hb d_L_law_561 (lv_at hl 5 rfl) ?_
    refine lv_iconst (v := 3) hx hb d_L_law_563 (by decide) ?_
    refine lv_iadd hx hb d_L_law_564 ?_
    obtain ⟨hi565, h⟩ := h
    refine va_sld hx hb hX hbl hbA hS hi565 d_L_law_565 ?_
    refine lv_if_eq hx hb d_L_law_566 rfl (fun hc566 => ?_) (fun hc566 => ?_)
    · have h := h.1 hc566
      refine lv_iconst (v := 0) hx hb d_L_law_573 (by decide) ?_
      replace hP := l_swP hP
      replace hD := l_swD hD
      refine r_calll C hD hS (va_runV (As := [.int (xs (Int32.toNatClampNeg (x4 + (1 : Int32)))), .int (xs (Int32.toNatClampNeg (x4 + (2 : Int32)))), .int (0 : Int32)]) (rest := []) ⟨hx, hb, hml, hown, hts⟩ (m_M_total h) (cwV 3 hts (g_V kw_683 kw_684 kw_685 kw_7 kw_686) rfl rfl rfl (by decide +kernel) ⟨(Nat.le_of_ble_eq_true rfl), (Nat.le_of_ble_eq_true rfl)⟩) (r_preV (o := 0) C hP hD hS (by decide) rfl rfl) rfl rfl hl.1 rfl (lv_room (Nat.le_of_ble_eq_true rfl)) d_L_law_574 ⟨by show _ + 0 ≤ 601024; omega, by show _ + 0 ≤ 7293034; omega⟩) (fun r574 τ574 H locs h hP hD hS => ?_)
      replace hP := l_bkP hP
      replace hD := l_bkD hD
      refine lv_lstore (lv' := [(6, .long r574), (5, .int r542), (0, .ref b), (1, .ref (aX 0)), (2, .ref (aM 0)), (3, .ref ao), (4, .int x4)]) hx hb d_L_law_577 hl (by decide) rfl (fun ls hl => ?_)
      refine lv_aload_n hx hb d_L_law_579 rfl (lv_at hl 4 rfl) ?_
      replace hP := l_swP hP
      replace hD := l_swD hD
      refine r_calli C hD hS (va_runV (As := []) (rest := []) ⟨hx, hb, hml, hown, hts⟩ (m_M_thrown h) (cwV 0 hts (g_V kw_571 kw_572 kw_573 kw_7 kw_574) rfl rfl rfl (by decide +kernel) ⟨(Nat.le_of_ble_eq_true rfl), (Nat.le_of_ble_eq_true rfl)⟩) (r_preV (o := 0) C hP hD hS (by decide) rfl rfl) rfl rfl hl.1 rfl (lv_room (Nat.le_of_ble_eq_true rfl)) d_L_law_580 ⟨by show _ + 0 ≤ 601024; omega, by show _ + 0 ≤ 7293034; omega⟩) (fun r580 τ580 H locs h hP hD hS => ?_)
      replace hP := l_bkP hP
      replace hD := l_bkD hD
      refine lv_iload hx hb d_L_law_583 (lv_at hl 1 rfl) ?_
      refine lv_icmp_eq hx hb d_L_law_585 rfl (fun hc585 => ?_) (fun hc585 => ?_)
      · have h := h.1 hc585
        refine lv_iload hx hb d_L_law_590 (lv_at hl 1 rfl) ?_
        refine lv_if_ne hx hb d_L_law_592 rfl (fun hc592 => ?_) (fun hc592 => ?_)
        · have h := h.2 hc592
          refine lv_goto hx hb d_L_law_606 rfl ?_
          obtain ⟨v733, e733⟩ : ∃ z : Int32, z = (x4 + 4) := ⟨_, rfl⟩
          have h := h v733 e733
          refine lv_iinc (k := 6) (v := v733) (lv' := [(4, .int v733), (6, .long r574), (5, .int r542), (0, .ref b), (1, .ref (aX 0)), (2, .ref (aM 0)), (3, .ref ao)]) hx hb d_L_law_733 hl rfl (by rw [e733] <;> rfl) (by decide) rfl (fun ls hl => ?_)
          refine lv_goto hx hb d_L_law_736 rfl ?_
          exact hK h (by omega) (by omega) (lv_sub hl [3, 4, 5, 6, 0] rfl) hP hD hS
        · have h := h.1 hc592
          refine lv_aload_n hx hb d_L_law_595 rfl (lv_at hl 5 rfl) ?_
          refine lv_iconst (v := 0) hx hb d_L_law_596 (by decide) ?_
          refine o_lald C hP rfl d_L_law_597 ?_
          refine lv_lload hx hb d_L_law_598 (lv_at hl 0 rfl) ?_
          refine W.lcmp hx hb d_L_law_600 ?_
          refine lv_if_eq hx hb d_L_law_601 rfl (fun hc601 => ?_) (fun hc601 => ?_)
          · have h := h.1 hc601
            refine lv_goto hx hb d_L_law_606 rfl ?_
            obtain ⟨v733, e733⟩ : ∃ z : Int32, z = (x4 + 4) := ⟨_, rfl⟩
            have h := h v733 e733
            refine lv_iinc (k := 6) (v := v733) (lv' := [(4, .int v733), (6, .long r574), (5, .int r542), (0, .ref b), (1, .ref (aX 0)), (2, .ref (aM 0)), (3, .ref ao)]) hx hb d_L_law_733 hl rfl (by rw [e733] <;> rfl) (by decide) rfl (fun ls hl => ?_)
            refine lv_goto hx hb d_L_law_736 rfl ?_
            exact hK h (by omega) (by omega) (lv_sub hl [3, 4, 5, 6, 0] rfl) hP hD hS
          · have h := h.2 hc601
            refine lv_iconst (v := 0) hx hb d_L_law_604 (by decide) ?_
            exact h.elim
      · have h := h.2 hc585
        refine lv_iconst (v := 0) hx hb d_L_law_588 (by decide) ?_
        exact h.elim
    · have h := h.2 hc566
      refine lv_iconst (v := 1) hx hb d_L_law_569 (by decide) ?_
      refine lv_goto hx hb d_L_law_570 rfl ?_
      replace hP := l_swP hP
      replace hD := l_swD hD
      refine r_calll C hD hS (va_runV (As := [.int (xs (Int32.toNatClampNeg (x4 + (1 : Int32)))), .int (xs (Int32.toNatClampNeg (x4 + (2 : Int32)))), .int (1 : Int32)]) (rest := []) ⟨hx, hb, hml, hown, hts⟩ (m_M_total h) (cwV 3 hts (g_V kw_683 kw_684 kw_685 kw_7 kw_686) rfl rfl rfl (by decide +kernel) ⟨(Nat.le_of_ble_eq_true rfl), (Nat.le_of_ble_eq_true rfl)⟩) (r_preV (o := 0) C hP hD hS (by decide) rfl rfl) rfl rfl hl.1 rfl (lv_room (Nat.le_of_ble_eq_true rfl)) d_L_law_574 ⟨by show _ + 0 ≤ 601024; omega, by show _ + 0 ≤ 7293034; omega⟩) (fun r574 τ574 H locs h hP hD hS => ?_)
      replace hP := l_bkP hP
      replace hD := l_bkD hD
      refine lv_lstore (lv' := [(6, .long r574), (5, .int r542), (0, .ref b), (1, .ref (aX 0)), (2, .ref (aM 0)), (3, .ref ao), (4, .int x4)]) hx hb d_L_law_577 hl (by decide) rfl (fun ls hl => ?_)
      refine lv_aload_n hx hb d_L_law_579 rfl (lv_at hl 4 rfl) ?_
      replace hP := l_swP hP
      replace hD := l_swD hD
      refine r_calli C hD hS (va_runV (As := []) (rest := []) ⟨hx, hb, hml, hown, hts⟩ (m_M_thrown h) (cwV 0 hts (g_V kw_571 kw_572 kw_573 kw_7 kw_574) rfl rfl rfl (by decide +kernel) ⟨(Nat.le_of_ble_eq_true rfl), (Nat.le_of_ble_eq_true rfl)⟩) (r_preV (o := 0) C hP hD hS (by decide) rfl rfl) rfl rfl hl.1 rfl (lv_room (Nat.le_of_ble_eq_true rfl)) d_L_law_580 ⟨by show _ + 0 ≤ 601024; omega, by show _ + 0 ≤ 7293034; omega⟩) (fun r580 τ580 H locs h hP hD hS => ?_)
      replace hP := l_bkP hP
      replace hD := l_bkD hD
      refine lv_iload hx hb d_L_law_583 (lv_at hl 1 rfl) ?_
      refine lv_icmp_eq hx hb d_L_law_585 rfl (fun hc585 => ?_) (fun hc585 => ?_)
      · have h := h.1 hc585
        refine lv_iload hx hb d_L_law_590 (lv_at hl 1 rfl) ?_
        refine lv_if_ne hx hb d_L_law_592 rfl (fun hc592 => ?_) (fun hc592 => ?_)
        · have h := h.2 hc592
          refine lv_goto hx hb d_L_law_606 rfl ?_
          obtain ⟨v733, e733⟩ : ∃ z : Int32, z = (x4 + 4) := ⟨_, rfl⟩
          have h := h v733 e733
          refine lv_iinc (k := 6) (v := v733) (lv' := [(4, .int v733), (6, .long r574), (5, .int r542), (0, .ref b), (1, .ref (aX 0)), (2, .ref (aM 0)), (3, .ref ao)]) hx hb d_L_law_733 hl rfl (by rw [e733] <;> rfl) (by decide) rfl (fun ls hl => ?_)
          refine lv_goto hx hb d_L_law_736 rfl ?_
          exact hK h (by omega) (by omega) (lv_sub hl [3, 4, 5, 6, 0] rfl) hP hD hS
        · have h := h.1 hc592
          refine lv_aload_n hx hb d_L_law_595 rfl (lv_at hl 5 rfl) ?_
          refine lv_iconst (v := 0) hx hb d_L_law_596 (by decide) ?_
          refine o_lald C hP rfl d_L_law_597 ?_
          refine lv_lload hx hb d_L_law_598 (lv_at hl 0 rfl) ?_
          refine W.lcmp hx hb d_L_law_600 ?_
          refine lv_if_eq hx hb d_L_law_601 rfl (fun hc601 => ?_) (fun hc601 => ?_)
          · have h := h.1 hc601
            refine lv_goto hx hb d_L_law_606 rfl ?_
            obtain ⟨v733, e733⟩ : ∃ z : Int32, z = (x4 + 4) := ⟨_, rfl⟩
            have h := h v733 e733
            refine lv_iinc (k := 6) (v := v733) (lv' := [(4, .int v733), (6, .long r574), (5, .int r542), (0, .ref b), (1, .ref (aX 0)), (2, .ref (aM 0)), (3, .ref ao)]) hx hb d_L_law_733 hl rfl (by rw [e733] <;> rfl) (by decide) rfl (fun ls hl => ?_)
            refine lv_goto hx hb d_L_law_736 rfl ?_
            exact hK h (by omega) (by omega) (lv_sub hl [3, 4, 5, 6, 0] rfl) hP hD hS
          · have h := h.2 hc601
            refine lv_iconst (v := 0) hx hb d_L_law_604 (by decide) ?_
            exact h.elim
      · have h := h.2 hc585
        refine lv_iconst (v := 0) hx hb d_L_law_588 (by decide) ?_
        exact h.elim
set_option maxHeartbeats 8000000 in
set_option maxRecDepth 100000 in
theorem b_law_c10 {p : Program} {l : Launch} {e : Env} {s : State} {m : MethodId} {below : List Frame} {meth : Method} {c : Code} {D : va_G} {cI cL cZ cS : ClassId} {aX aM : Nat → Nat} {ao b L : Nat} {xs : Nat → Int32} {A : Nat → Prop} {K : Int32 → Mem → Mem → (Nat → Int64) → Prop} {n ce sl : Nat} {x4 : Int32} {σ τ : Mem} {ou : Nat → Int64} {H : Heap} {locs : List Loc} {ls : Array Slot} (C : wC TB "PreferenceCountLaw" c_L_law 8 ret D cls (tyl cI cL cZ cS) A p s m #[Value.ref b] meth c) (hlS : l.stackTraces = false) (hX : va_X b L xs s s.heap) (hbl : b < s.heap.size) (hbA : ¬ A b) (hK : ∀ {x4 : Int32} {σ τ : Mem} {ou : Nat → Int64} {H : Heap} {locs : List Loc} {ls : Array Slot} {ce sl : Nat}, K x4 σ τ ou → ce + 2 * n ≤ 601024 → sl + 12 * n ≤ 7293034 → lv_has ls 8 [(0, .ref b), (1, .ref (aX 0)), (2, .ref (aM 0)), (3, .ref ao), (4, .int x4)] → va_P D cls (WL cI cL cZ cS aX aM ao σ τ ou) H → va_D A (WL cI cL cZ cS aX aM ao σ τ ou) → va_S A s.heap H locs → W p l e room_1 s m #[Value.ref b] below meth c H locs ce sl (lw_Z below #[Value.ref b] s) (F0 m 23 ls [])) (hce : ce + 2 * (n + 1) ≤ 601024) (hsl : sl + 12 * (n + 1) ≤ 7293034) (h : wp_law_c10 xs L K x4 σ τ ou) (hl : lv_has ls 8 [(0, .ref b), (1, .ref (aX 0)), (2, .ref (aM 0)), (3, .ref ao), (4, .int x4)]) (hP : va_P D cls (WL cI cL cZ cS aX aM ao σ τ ou) H) (hD : va_D A (WL cI cL cZ cS aX aM ao σ τ ou)) (hS : va_S A s.heap H locs) : W p l e room_1 s m #[Value.ref b] below meth c H locs ce sl (lw_Z below #[Value.ref b] s) (F0 m 609 ls []) := by
  have hx := C.1
  have hb := C.2.1
  have hts := C.2.2.2.2.1
  have hown := C.2.2.2.2.2.1
  have hml := C.2.2.2.2.2.2.1
  have h : vp_in (x4 + (1 : Int32)) L ∧ (wp_L_papers (fun r617 σ617 ou617 => vp_in (x4 + (1 : Int32)) L ∧ (wp_M_papers (fun r629 τ629 => wp_M_thrown (fun r635 τ635 => (r635 = r617 → ((r617 = 0 → (((lg_cmp (ou617 0) (Int32.toInt64 r629)) = 0 → (∀ v733 : Int32, v733 = (x4 + 4) → (K v733 σ617 τ635 ou617))) ∧ (¬ (lg_cmp (ou617 0) (Int32.toInt64 r629)) = 0 → (False)))) ∧ (¬ r617 = 0 → (∀ v733 : Int32, v733 = (x4 + 4) → (K v733 σ617 τ635 ou617))))) ∧ (¬ r635 = r617 → (False))) τ629) (xs (Int32.toNatClampNeg (x4 + (1 : Int32)))) τ)) ou (xs (Int32.toNatClampNeg (x4 + (1 : Int32)))) σ) := h
  refine lv_aload_n hx hb d_L_law_609 rfl (lv_at hl 1 rfl) ?_
  refine lv_aload_n hx hb d_L_law_610 rfl (lv_at hl 0 rfl) ?_
  refine lv_iload hx hb d_L_law_611 (lv_at hl 4 rfl) ?_
  refine lv_iconst (v := 1) hx hb d_L_law_613 (by decide) ?_
  refine lv_iadd hx hb d_L_law_614 ?_
  obtain ⟨hi615, h⟩ := h
  refine va_sld hx hb hX hbl hbA hS hi615 d_L_law_615 ?_
  refine lv_aload_n hx hb d_L_law_616 rfl (lv_at hl 3 rfl) ?_
  refine o_calli C hD hS (vx_runSW (As := [.ref (aX 0), .int (xs (Int32.toNatClampNeg (x4 + (1 : Int32)))), .ref ao]) (rest := []) ⟨hx, hb, hml, hown, hts⟩ (m_L_papers hlS h) (vx_cwSW 3 hts (g_SW kw_481 kw_482 kw_0 kw_483) rfl rfl rfl (by decide +kernel) ⟨(Nat.le_of_ble_eq_true rfl), (Nat.le_of_ble_eq_true rfl)⟩) (r_preS C hP hD hS) rfl rfl hl.1 rfl (lv_room (Nat.le_of_ble_eq_true rfl)) d_L_law_617 ⟨by show _ + 1 ≤ 601024; omega, by show _ + 6 ≤ 7293034; omega⟩) (fun r617 σ617 ou617 H locs h hP hD hS => ?_)
  refine lv_istore (lv' := [(5, .int r617), (0, .ref b), (1, .ref (aX 0)), (2, .ref (aM 0)), (3, .ref ao), (4, .int x4)]) hx hb d_L_law_620 hl (by decide) rfl (fun ls hl => ?_)
  refine lv_aload_n hx hb d_L_law_622 rfl (lv_at hl 3 rfl) ?_
  refine lv_aload_n hx hb d_L_law_623 rfl (lv_at hl 1 rfl) ?_
  refine lv_iload hx hb d_L_law_624 (lv_at hl 5 rfl) ?_
  refine lv_iconst (v := 1) hx hb d_L_law_626 (by decide) ?_
  refine lv_iadd hx hb d_L_law_627 ?_
  obtain ⟨hi628, h⟩ := h
  refine va_sld hx hb hX hbl hbA hS hi628 d_L_law_628 ?_
  replace hP := l_swP hP
  replace hD := l_swD hD
  refine r_calli C hD hS (va_runV (As := [.int (xs (Int32.toNatClampNeg (x4 + (1 : Int32))))]) (rest := []) ⟨hx, hb, hml, hown, hts⟩ (m_M_papers h) (cwV 1 hts (g_V kw_691 kw_692 kw_693 kw_7 kw_694) rfl rfl rfl (by decide +kernel) ⟨(Nat.le_of_ble_eq_true rfl), (Nat.le_of_ble_eq_true rfl)⟩) (r_preV (o := 0) C hP hD hS (by decide) rfl rfl) rfl rfl hl.1 rfl (lv_room (Nat.le_of_ble_eq_true rfl)) d_L_law_629 ⟨by show _ + 0 ≤ 601024; omega, by show _ + 0 ≤ 7293034; omega⟩) (fun r629 τ629 H locs h hP hD hS => ?_)
  replace hP := l_bkP hP
  replace hD := l_bkD hD
  refine lv_istore (lv' := [(6, .int r629), (5, .int r617), (0, .ref b), (1, .ref (aX 0)), (2, .ref (aM 0)), (3, .ref ao), (4, .int x4)]) hx hb d_L_law_632 hl (by decide) rfl (fun ls hl => ?_)
  refine lv_aload_n hx hb d_L_law_634 rfl (lv_at hl 4 rfl) ?_
  replace hP := l_swP hP
  replace hD := l_swD hD
  refine r_calli C hD hS (va_runV (As := []) (rest := []) ⟨hx, hb, hml, hown, hts⟩ (m_M_thrown h) (cwV 0 hts (g_V kw_571 kw_572 kw_573 kw_7 kw_574) rfl rfl rfl (by decide +kernel) ⟨(Nat.le_of_ble_eq_true rfl), (Nat.le_of_ble_eq_true rfl)⟩) (r_preV (o := 0) C hP hD hS (by decide) rfl rfl) rfl rfl hl.1 rfl (lv_room (Nat.le_of_ble_eq_true rfl)) d_L_law_635 ⟨by show _ + 0 ≤ 601024; omega, by show _ + 0 ≤ 7293034; omega⟩) (fun r635 τ635 H locs h hP hD hS => ?_)
  replace hP := l_bkP hP
  replace hD := l_bkD hD
  refine lv_iload hx hb d_L_law_638 (lv_at hl 1 rfl) ?_
  refine lv_icmp_eq hx hb d_L_law_640 rfl (fun hc640 => ?_) (fun hc640 => ?_)
  · have h := h.1 hc640
    refine lv_iload hx hb d_L_law_645 (lv_at hl 1 rfl) ?_
    refine lv_if_ne hx hb d_L_law_647 rfl (fun hc647 => ?_) (fun hc647 => ?_)
    · have h := h.2 hc647
      refine lv_goto hx hb d_L_law_662 rfl ?_
      obtain ⟨v733, e733⟩ : ∃ z : Int32, z = (x4 + 4) := ⟨_, rfl⟩
      have h := h v733 e733
      refine lv_iinc (k := 6) (v := v733) (lv' := [(4, .int v733), (6, .int r629), (5, .int r617), (0, .ref b), (1, .ref (aX 0)), (2, .ref (aM 0)), (3, .ref ao)]) hx hb d_L_law_733 hl rfl (by rw [e733] <;> rfl) (by decide) rfl (fun ls hl => ?_)
      refine lv_goto hx hb d_L_law_736 rfl ?_
      exact hK h (by omega) (by omega) (lv_sub hl [3, 4, 5, 6, 0] rfl) hP hD hS
    · have h := h.1 hc647
      refine lv_aload_n hx hb d_L_law_650 rfl (lv_at hl 5 rfl) ?_
      refine lv_iconst (v := 0) hx hb d_L_law_651 (by decide) ?_
      refine o_lald C hP rfl d_L_law_652 ?_
      refine lv_iload hx hb d_L_law_653 (lv_at hl 0 rfl) ?_
      refine lv_i2l hx hb d_L_law_655 rfl ?_
      refine W.lcmp hx hb d_L_law_656 ?_
      refine lv_if_eq hx hb d_L_law_657 rfl (fun hc657 => ?_) (fun hc657 => ?_)
      · have h := h.1 hc657
        refine lv_goto hx hb d_L_law_662 rfl ?_
        obtain ⟨v733, e733⟩ : ∃ z : Int32, z = (x4 + 4) := ⟨_, rfl⟩
        have h := h v733 e733
        refine lv_iinc (k := 6) (v := v733) (lv' := [(4, .int v733), (6, .int r629), (5, .int r617), (0, .ref b), (1, .ref (aX 0)), (2, .ref (aM 0)), (3, .ref ao)]) hx hb d_L_law_733 hl rfl (by rw [e733] <;> rfl) (by decide) rfl (fun ls hl => ?_)
        refine lv_goto hx hb d_L_law_736 rfl ?_
        exact hK h (by omega) (by omega) (lv_sub hl [3, 4, 5, 6, 0] rfl) hP hD hS
      · have h := h.2 hc657
        refine lv_iconst (v := 0) hx hb d_L_law_660 (by decide) ?_
        exact h.elim
  · have h := h.2 hc640
    refine lv_iconst (v := 0) hx hb d_L_law_643 (by decide) ?_
    exact h.elim
set_option maxHeartbeats 8000000 in
set_option maxRecDepth 100000 in
theorem b_law_c11 {p : Program} {l : Launch} {e : Env} {s : State} {m : MethodId} {below : List Frame} {meth : Method} {c : Code} {D : va_G} {cI cL cZ cS : ClassId} {aX aM : Nat → Nat} {ao b L : Nat} {xs : Nat → Int32} {A : Nat → Prop} {K : Int32 → Mem → Mem → (Nat → Int64) → Prop} {n ce sl : Nat} {x4 : Int32} {σ τ : Mem} {ou : Nat → Int64} {H : Heap} {locs : List Loc} {ls : Array Slot} (C : wC TB "PreferenceCountLaw" c_L_law 8 ret D cls (tyl cI cL cZ cS) A p s m #[Value.ref b] meth c) (hlS : l.stackTraces = false) (hX : va_X b L xs s s.heap) (hbl : b < s.heap.size) (hbA : ¬ A b) (hK : ∀ {x4 : Int32} {σ τ : Mem} {ou : Nat → Int64} {H : Heap} {locs : List Loc} {ls : Array Slot} {ce sl : Nat}, K x4 σ τ ou → ce + 2 * n ≤ 601024 → sl + 12 * n ≤ 7293034 → lv_has ls 8 [(0, .ref b), (1, .ref (aX 0)), (2, .ref (aM 0)), (3, .ref ao), (4, .int x4)] → va_P D cls (WL cI cL cZ cS aX aM ao σ τ ou) H → va_D A (WL cI cL cZ cS aX aM ao σ τ ou) → va_S A s.heap H locs → W p l e room_1 s m #[Value.ref b] below meth c H locs ce sl (lw_Z below #[Value.ref b] s) (F0 m 23 ls [])) (hce : ce + 2 * (n + 1) ≤ 601024) (hsl : sl + 12 * (n + 1) ≤ 7293034) (h : wp_law_c11 xs L K x4 σ τ ou) (hl : lv_has ls 8 [(0, .ref b), (1, .ref (aX 0)), (2, .ref (aM 0)), (3, .ref ao), (4, .int x4)]) (hP : va_P D cls (WL cI cL cZ cS aX aM ao σ τ ou) H) (hD : va_D A (WL cI cL cZ cS aX aM ao σ τ ou)) (hS : va_S A s.heap H locs) : W p l e room_1 s m #[Value.ref b] below meth c H locs ce sl (lw_Z below #[Value.ref b] s) (F0 m 665 ls []) := by
  have hx := C.1
  have hb := C.2.1
  have hts := C.2.2.2.2.1
  have hown := C.2.2.2.2.2.1
  have hml := C.2.2.2.2.2.2.1
  have h : vp_in (x4 + (1 : Int32)) L ∧ (vp_in (x4 + (2 : Int32)) L ∧ (wp_L_moved (fun r679 σ679 ou679 => vp_in (x4 + (1 : Int32)) L ∧ (vp_in (x4 + (2 : Int32)) L ∧ (wp_M_moved (fun r697 τ697 => wp_M_thrown (fun r703 τ703 => (r703 = r679 → ((r679 = 0 → (((lg_cmp (ou679 0) (Int32.toInt64 r697)) = 0 → (∀ v733 : Int32, v733 = (x4 + 4) → (K v733 σ679 τ703 ou679))) ∧ (¬ (lg_cmp (ou679 0) (Int32.toInt64 r697)) = 0 → (False)))) ∧ (¬ r679 = 0 → (∀ v733 : Int32, v733 = (x4 + 4) → (K v733 σ679 τ703 ou679))))) ∧ (¬ r703 = r679 → (False))) τ697) (xs (Int32.toNatClampNeg (x4 + (1 : Int32)))) (xs (Int32.toNatClampNeg (x4 + (2 : Int32)))) τ))) ou (xs (Int32.toNatClampNeg (x4 + (1 : Int32)))) (xs (Int32.toNatClampNeg (x4 + (2 : Int32)))) σ)) := h
  refine lv_aload_n hx hb d_L_law_665 rfl (lv_at hl 1 rfl) ?_
  refine lv_aload_n hx hb d_L_law_666 rfl (lv_at hl 0 rfl) ?_
  refine lv_iload hx hb d_L_law_667 (lv_at hl 4 rfl) ?_
  refine lv_iconst (v := 1) hx hb d_L_law_669 (by decide) ?_
  refine lv_iadd hx hb d_L_law_670 ?_
  obtain ⟨hi671, h⟩ := h
  refine va_sld hx hb hX hbl hbA hS hi671 d_L_law_671 ?_
  refine lv_aload_n hx hb d_L_law_672 rfl (lv_at hl 0 rfl) ?_
  refine lv_iload hx hb d_L_law_673 (lv_at hl 4 rfl) ?_
  refine lv_iconst (v := 2) hx hb d_L_law_675 (by decide) ?_
  refine lv_iadd hx hb d_L_law_676 ?_
  obtain ⟨hi677, h⟩ := h
  refine va_sld hx hb hX hbl hbA hS hi677 d_L_law_677 ?_
  refine lv_aload_n hx hb d_L_law_678 rfl (lv_at hl 3 rfl) ?_
  refine o_calli C hD hS (vx_runSW (As := [.ref (aX 0), .int (xs (Int32.toNatClampNeg (x4 + (1 : Int32)))), .int (xs (Int32.toNatClampNeg (x4 + (2 : Int32)))), .ref ao]) (rest := []) ⟨hx, hb, hml, hown, hts⟩ (m_L_moved hlS h) (vx_cwSW 4 hts (g_SW kw_492 kw_493 kw_0 kw_494) rfl rfl rfl (by decide +kernel) ⟨(Nat.le_of_ble_eq_true rfl), (Nat.le_of_ble_eq_true rfl)⟩) (r_preS C hP hD hS) rfl rfl hl.1 rfl (lv_room (Nat.le_of_ble_eq_true rfl)) d_L_law_679 ⟨by show _ + 1 ≤ 601024; omega, by show _ + 6 ≤ 7293034; omega⟩) (fun r679 σ679 ou679 H locs h hP hD hS => ?_)
  refine lv_istore (lv' := [(5, .int r679), (0, .ref b), (1, .ref (aX 0)), (2, .ref (aM 0)), (3, .ref ao), (4, .int x4)]) hx hb d_L_law_682 hl (by decide) rfl (fun ls hl => ?_)
  refine lv_aload_n hx hb d_L_law_684 rfl (lv_at hl 3 rfl) ?_
  refine lv_aload_n hx hb d_L_law_685 rfl (lv_at hl 1 rfl) ?_
  refine lv_iload hx hb d_L_law_686 (lv_at hl 5 rfl) ?_
  refine lv_iconst (v := 1) hx hb d_L_law_688 (by decide) ?_
  refine lv_iadd hx hb d_L_law_689 ?_
  obtain ⟨hi690, h⟩ := h
  refine va_sld hx hb hX hbl hbA hS hi690 d_L_law_690 ?_
  refine lv_aload_n hx hb d_L_law_691 rfl (lv_at hl 1 rfl) ?_
  refine lv_iload hx hb d_L_law_692 (lv_at hl 5 rfl) ?_
  refine lv_iconst (v := 2) hx hb d_L_law_694 (by decide) ?_
  refine lv_iadd hx hb d_L_law_695 ?_
  obtain ⟨hi696, h⟩ := h
  refine va_sld hx hb hX hbl hbA hS hi696 d_L_law_696 ?_
  replace hP := l_swP hP
  replace hD := l_swD hD
  refine r_calli C hD hS (va_runV (As := [.int (xs (Int32.toNatClampNeg (x4 + (1 : Int32)))), .int (xs (Int32.toNatClampNeg (x4 + (2 : Int32))))]) (rest := []) ⟨hx, hb, hml, hown, hts⟩ (m_M_moved h) (cwV 2 hts (g_V kw_695 kw_696 kw_697 kw_7 kw_698) rfl rfl rfl (by decide +kernel) ⟨(Nat.le_of_ble_eq_true rfl), (Nat.le_of_ble_eq_true rfl)⟩) (r_preV (o := 0) C hP hD hS (by decide) rfl rfl) rfl rfl hl.1 rfl (lv_room (Nat.le_of_ble_eq_true rfl)) d_L_law_697 ⟨by show _ + 0 ≤ 601024; omega, by show _ + 0 ≤ 7293034; omega⟩) (fun r697 τ697 H locs h hP hD hS => ?_)
  replace hP := l_bkP hP
  replace hD := l_bkD hD
  refine lv_istore (lv' := [(6, .int r697), (5, .int r679), (0, .ref b), (1, .ref (aX 0)), (2, .ref (aM 0)), (3, .ref ao), (4, .int x4)]) hx hb d_L_law_700 hl (by decide) rfl (fun ls hl => ?_)
  refine lv_aload_n hx hb d_L_law_702 rfl (lv_at hl 4 rfl) ?_
  replace hP := l_swP hP
  replace hD := l_swD hD
  refine r_calli C hD hS (va_runV (As := []) (rest := []) ⟨hx, hb, hml, hown, hts⟩ (m_M_thrown h) (cwV 0 hts (g_V kw_571 kw_572 kw_573 kw_7 kw_574) rfl rfl rfl (by decide +kernel) ⟨(Nat.le_of_ble_eq_true rfl), (Nat.le_of_ble_eq_true rfl)⟩) (r_preV (o := 0) C hP hD hS (by decide) rfl rfl) rfl rfl hl.1 rfl (lv_room (Nat.le_of_ble_eq_true rfl)) d_L_law_703 ⟨by show _ + 0 ≤ 601024; omega, by show _ + 0 ≤ 7293034; omega⟩) (fun r703 τ703 H locs h hP hD hS => ?_)
  replace hP := l_bkP hP
  replace hD := l_bkD hD
  refine lv_iload hx hb d_L_law_706 (lv_at hl 1 rfl) ?_
  refine lv_icmp_eq hx hb d_L_law_708 rfl (fun hc708 => ?_) (fun hc708 => ?_)
  · have h := h.1 hc708
    refine lv_iload hx hb d_L_law_713 (lv_at hl 1 rfl) ?_
    refine lv_if_ne hx hb d_L_law_715 rfl (fun hc715 => ?_) (fun hc715 => ?_)
    · have h := h.2 hc715
      refine lv_goto hx hb d_L_law_730 rfl ?_
      obtain ⟨v733, e733⟩ : ∃ z : Int32, z = (x4 + 4) := ⟨_, rfl⟩
      have h := h v733 e733
      refine lv_iinc (k := 6) (v := v733) (lv' := [(4, .int v733), (6, .int r697), (5, .int r679), (0, .ref b), (1, .ref (aX 0)), (2, .ref (aM 0)), (3, .ref ao)]) hx hb d_L_law_733 hl rfl (by rw [e733] <;> rfl) (by decide) rfl (fun ls hl => ?_)
      refine lv_goto hx hb d_L_law_736 rfl ?_
      exact hK h (by omega) (by omega) (lv_sub hl [3, 4, 5, 6, 0] rfl) hP hD hS
    · have h := h.1 hc715
      refine lv_aload_n hx hb d_L_law_718 rfl (lv_at hl 5 rfl) ?_
      refine lv_iconst (v := 0) hx hb d_L_law_719 (by decide) ?_
      refine o_lald C hP rfl d_L_law_720 ?_
      refine lv_iload hx hb d_L_law_721 (lv_at hl 0 rfl) ?_
      refine lv_i2l hx hb d_L_law_723 rfl ?_
      refine W.lcmp hx hb d_L_law_724 ?_
      refine lv_if_eq hx hb d_L_law_725 rfl (fun hc725 => ?_) (fun hc725 => ?_)
      · have h := h.1 hc725
        refine lv_goto hx hb d_L_law_730 rfl ?_
        obtain ⟨v733, e733⟩ : ∃ z : Int32, z = (x4 + 4) := ⟨_, rfl⟩
        have h := h v733 e733
        refine lv_iinc (k := 6) (v := v733) (lv' := [(4, .int v733), (6, .int r697), (5, .int r679), (0, .ref b), (1, .ref (aX 0)), (2, .ref (aM 0)), (3, .ref ao)]) hx hb d_L_law_733 hl rfl (by rw [e733] <;> rfl) (by decide) rfl (fun ls hl => ?_)
        refine lv_goto hx hb d_L_law_736 rfl ?_
        exact hK h (by omega) (by omega) (lv_sub hl [3, 4, 5, 6, 0] rfl) hP hD hS
      · have h := h.2 hc725
        refine lv_iconst (v := 0) hx hb d_L_law_728 (by decide) ?_
        exact h.elim
  · have h := h.2 hc708
    refine lv_iconst (v := 0) hx hb d_L_law_711 (by decide) ?_
    exact h.elim
set_option maxHeartbeats 8000000 in
set_option maxRecDepth 100000 in
theorem b_law {p : Program} {l : Launch} {e : Env} {s : State} {m : MethodId} {below : List Frame} {meth : Method} {c : Code} {D : va_G} {cI cL cZ cS : ClassId} {aX aM : Nat → Nat} {ao b L : Nat} {xs : Nat → Int32} {A : Nat → Prop} (C : wC TB "PreferenceCountLaw" c_L_law 8 ret D cls (tyl cI cL cZ cS) A p s m #[Value.ref b] meth c) (hlS : l.stackTraces = false) (hX : va_X b L xs s s.heap) (hbl : b < s.heap.size) (hbA : ¬ A b) (hE : ∀ {σ τ : Mem} {ou : Nat → Int64} {H : Heap} {locs : List Loc} {ls : Array Slot} {ce sl : Nat}, ce ≤ 601024 → sl ≤ 7293034 → va_P D cls (WL cI cL cZ cS aX aM ao σ τ ou) H → va_D A (WL cI cL cZ cS aX aM ao σ τ ou) → va_S A s.heap H locs → W p l e room_1 s m #[Value.ref b] below meth c H locs ce sl (lw_Z below #[Value.ref b] s) (F0 m 740 ls [.int 1])) : ∀ (n : Nat) {x4 : Int32} {σ τ : Mem} {ou : Nat → Int64} {H : Heap} {locs : List Loc} {ls : Array Slot} {ce sl : Nat}, wp_law xs L n x4 σ τ ou → ce + 2 * n ≤ 601024 → sl + 12 * n ≤ 7293034 → lv_has ls 8 [(0, .ref b), (1, .ref (aX 0)), (2, .ref (aM 0)), (3, .ref ao), (4, .int x4)] → va_P D cls (WL cI cL cZ cS aX aM ao σ τ ou) H → va_D A (WL cI cL cZ cS aX aM ao σ τ ou) → va_S A s.heap H locs → W p l e room_1 s m #[Value.ref b] below meth c H locs ce sl (lw_Z below #[Value.ref b] s) (F0 m 23 ls []) := by
  have hx := C.1
  have hb := C.2.1
  have hts := C.2.2.2.2.1
  have hown := C.2.2.2.2.2.1
  have hml := C.2.2.2.2.2.2.1
  intro n
  induction n with
  | zero => intro x4 σ τ ou H locs ls ce sl h; exact h.elim
  | succ n hK =>
    intro x4 σ τ ou H locs ls ce sl h hce hsl hl hP hD hS
    have h : (((Int32.ofNat L) - (4 : Int32)) < x4 → (True)) ∧ (¬ ((Int32.ofNat L) - (4 : Int32)) < x4 → (vp_in x4 L ∧ ((((xs (Int32.toNatClampNeg x4)) &&& (15 : Int32)) = 0 → (wp_law_c0 xs L (wp_law xs L n) x4 σ τ ou)) ∧ (¬ ((xs (Int32.toNatClampNeg x4)) &&& (15 : Int32)) = 0 → ((((xs (Int32.toNatClampNeg x4)) &&& (15 : Int32)) = 1 → (wp_law_c1 xs L (wp_law xs L n) x4 σ τ ou)) ∧ (¬ ((xs (Int32.toNatClampNeg x4)) &&& (15 : Int32)) = 1 → ((((xs (Int32.toNatClampNeg x4)) &&& (15 : Int32)) = 2 → (wp_law_c2 xs L (wp_law xs L n) x4 σ τ ou)) ∧ (¬ ((xs (Int32.toNatClampNeg x4)) &&& (15 : Int32)) = 2 → ((((xs (Int32.toNatClampNeg x4)) &&& (15 : Int32)) = 3 → (wp_law_c3 xs L (wp_law xs L n) x4 σ τ ou)) ∧ (¬ ((xs (Int32.toNatClampNeg x4)) &&& (15 : Int32)) = 3 → ((((xs (Int32.toNatClampNeg x4)) &&& (15 : Int32)) = 4 → (wp_law_c4 xs L (wp_law xs L n) x4 σ τ ou)) ∧ (¬ ((xs (Int32.toNatClampNeg x4)) &&& (15 : Int32)) = 4 → ((((xs (Int32.toNatClampNeg x4)) &&& (15 : Int32)) = 5 → (wp_law_c5 xs L (wp_law xs L n) x4 σ τ ou)) ∧ (¬ ((xs (Int32.toNatClampNeg x4)) &&& (15 : Int32)) = 5 → ((((xs (Int32.toNatClampNeg x4)) &&& (15 : Int32)) = 6 → (wp_law_c6 xs L (wp_law xs L n) x4 σ τ ou)) ∧ (¬ ((xs (Int32.toNatClampNeg x4)) &&& (15 : Int32)) = 6 → ((((xs (Int32.toNatClampNeg x4)) &&& (15 : Int32)) = 7 → (wp_law_c7 xs L (wp_law xs L n) x4 σ τ ou)) ∧ (¬ ((xs (Int32.toNatClampNeg x4)) &&& (15 : Int32)) = 7 → ((((xs (Int32.toNatClampNeg x4)) &&& (15 : Int32)) = 8 → (wp_law_c8 xs L (wp_law xs L n) x4 σ τ ou)) ∧ (¬ ((xs (Int32.toNatClampNeg x4)) &&& (15 : Int32)) = 8 → ((((xs (Int32.toNatClampNeg x4)) &&& (15 : Int32)) = 9 → (wp_law_c9 xs L (wp_law xs L n) x4 σ τ ou)) ∧ (¬ ((xs (Int32.toNatClampNeg x4)) &&& (15 : Int32)) = 9 → ((((xs (Int32.toNatClampNeg x4)) &&& (15 : Int32)) = 10 → (wp_law_c10 xs L (wp_law xs L n) x4 σ τ ou)) ∧ (¬ ((xs (Int32.toNatClampNeg x4)) &&& (15 : Int32)) = 10 → ((((xs (Int32.toNatClampNeg x4)) &&& (15 : Int32)) = 11 → (wp_law_c11 xs L (wp_law xs L n) x4 σ τ ou)) ∧ (¬ ((xs (Int32.toNatClampNeg x4)) &&& (15 : Int32)) = 11 → (∀ v733 : Int32, v733 = (x4 + 4) → ((wp_law xs L n) v733 σ τ ou)))))))))))))))))))))))))))) := h
    refine lv_iload hx hb d_L_law_23 (lv_at hl 4 rfl) ?_
    refine lv_aload_n hx hb d_L_law_25 rfl (lv_at hl 0 rfl) ?_
    refine va_slen hx hb hX hbl hbA hS d_L_law_26 ?_
    refine lv_iconst (v := 4) hx hb d_L_law_27 (by decide) ?_
    refine lv_isub hx hb d_L_law_28 ?_
    refine lv_icmp_gt hx hb d_L_law_29 rfl (fun hc29 => ?_) (fun hc29 => ?_)
    · have h := h.1 hc29
      refine lv_iconst (v := 1) hx hb d_L_law_739 (by decide) ?_
      exact hE (by omega) (by omega) hP hD hS
    · have h := h.2 hc29
      refine lv_aload_n hx hb d_L_law_32 rfl (lv_at hl 0 rfl) ?_
      refine lv_iload hx hb d_L_law_33 (lv_at hl 4 rfl) ?_
      obtain ⟨hi35, h⟩ := h
      refine va_sld hx hb hX hbl hbA hS hi35 d_L_law_35 ?_
      refine lv_bipush (v := 15) hx hb d_L_law_36 (by decide) ?_
      refine lv_iand hx hb d_L_law_38 ?_
      by_cases hc39_0 : ((xs (Int32.toNatClampNeg x4)) &&& (15 : Int32)) = 0
      · have h := h.1 hc39_0
        refine lv_tableIn hx hb d_L_law_39 (by rw [hc39_0]; decide) (by rw [hc39_0]; decide) (by rw [hc39_0]; rfl) rfl ?_
        exact b_law_c0 C hlS hX hbl hbA hK hce hsl h (lv_sub hl [0, 1, 2, 3, 4] rfl) hP hD hS
      have h := h.2 hc39_0
      by_cases hc39_1 : ((xs (Int32.toNatClampNeg x4)) &&& (15 : Int32)) = 1
      · have h := h.1 hc39_1
        refine lv_tableIn hx hb d_L_law_39 (by rw [hc39_1]; decide) (by rw [hc39_1]; decide) (by rw [hc39_1]; rfl) rfl ?_
        exact b_law_c1 C hlS hX hbl hbA hK hce hsl h (lv_sub hl [0, 1, 2, 3, 4] rfl) hP hD hS
      have h := h.2 hc39_1
      by_cases hc39_2 : ((xs (Int32.toNatClampNeg x4)) &&& (15 : Int32)) = 2
      · have h := h.1 hc39_2
        refine lv_tableIn hx hb d_L_law_39 (by rw [hc39_2]; decide) (by rw [hc39_2]; decide) (by rw [hc39_2]; rfl) rfl ?_
        exact b_law_c2 C hlS hX hbl hbA hK hce hsl h (lv_sub hl [0, 1, 2, 3, 4] rfl) hP hD hS
      have h := h.2 hc39_2
      by_cases hc39_3 : ((xs (Int32.toNatClampNeg x4)) &&& (15 : Int32)) = 3
      · have h := h.1 hc39_3
        refine lv_tableIn hx hb d_L_law_39 (by rw [hc39_3]; decide) (by rw [hc39_3]; decide) (by rw [hc39_3]; rfl) rfl ?_
        exact b_law_c3 C hlS hX hbl hbA hK hce hsl h (lv_sub hl [0, 1, 2, 3, 4] rfl) hP hD hS
      have h := h.2 hc39_3
      by_cases hc39_4 : ((xs (Int32.toNatClampNeg x4)) &&& (15 : Int32)) = 4
      · have h := h.1 hc39_4
        refine lv_tableIn hx hb d_L_law_39 (by rw [hc39_4]; decide) (by rw [hc39_4]; decide) (by rw [hc39_4]; rfl) rfl ?_
        exact b_law_c4 C hlS hX hbl hbA hK hce hsl h (lv_sub hl [0, 1, 2, 3, 4] rfl) hP hD hS
      have h := h.2 hc39_4
      by_cases hc39_5 : ((xs (Int32.toNatClampNeg x4)) &&& (15 : Int32)) = 5
      · have h := h.1 hc39_5
        refine lv_tableIn hx hb d_L_law_39 (by rw [hc39_5]; decide) (by rw [hc39_5]; decide) (by rw [hc39_5]; rfl) rfl ?_
        exact b_law_c5 C hlS hX hbl hbA hK hce hsl h (lv_sub hl [0, 1, 2, 3, 4] rfl) hP hD hS
      have h := h.2 hc39_5
      by_cases hc39_6 : ((xs (Int32.toNatClampNeg x4)) &&& (15 : Int32)) = 6
      · have h := h.1 hc39_6
        refine lv_tableIn hx hb d_L_law_39 (by rw [hc39_6]; decide) (by rw [hc39_6]; decide) (by rw [hc39_6]; rfl) rfl ?_
        exact b_law_c6 C hlS hX hbl hbA hK hce hsl h (lv_sub hl [0, 1, 2, 3, 4] rfl) hP hD hS
      have h := h.2 hc39_6
      by_cases hc39_7 : ((xs (Int32.toNatClampNeg x4)) &&& (15 : Int32)) = 7
      · have h := h.1 hc39_7
        refine lv_tableIn hx hb d_L_law_39 (by rw [hc39_7]; decide) (by rw [hc39_7]; decide) (by rw [hc39_7]; rfl) rfl ?_
        exact b_law_c7 C hlS hX hbl hbA hK hce hsl h (lv_sub hl [0, 1, 2, 3, 4] rfl) hP hD hS
      have h := h.2 hc39_7
      by_cases hc39_8 : ((xs (Int32.toNatClampNeg x4)) &&& (15 : Int32)) = 8
      · have h := h.1 hc39_8
        refine lv_tableIn hx hb d_L_law_39 (by rw [hc39_8]; decide) (by rw [hc39_8]; decide) (by rw [hc39_8]; rfl) rfl ?_
        exact b_law_c8 C hlS hX hbl hbA hK hce hsl h (lv_sub hl [0, 1, 2, 3, 4] rfl) hP hD hS
      have h := h.2 hc39_8
      by_cases hc39_9 : ((xs (Int32.toNatClampNeg x4)) &&& (15 : Int32)) = 9
      · have h := h.1 hc39_9
        refine lv_tableIn hx hb d_L_law_39 (by rw [hc39_9]; decide) (by rw [hc39_9]; decide) (by rw [hc39_9]; rfl) rfl ?_
        exact b_law_c9 C hlS hX hbl hbA hK hce hsl h (lv_sub hl [0, 1, 2, 3, 4] rfl) hP hD hS
      have h := h.2 hc39_9
      by_cases hc39_10 : ((xs (Int32.toNatClampNeg x4)) &&& (15 : Int32)) = 10
      · have h := h.1 hc39_10
        refine lv_tableIn hx hb d_L_law_39 (by rw [hc39_10]; decide) (by rw [hc39_10]; decide) (by rw [hc39_10]; rfl) rfl ?_
        exact b_law_c10 C hlS hX hbl hbA hK hce hsl h (lv_sub hl [0, 1, 2, 3, 4] rfl) hP hD hS
      have h := h.2 hc39_10
      by_cases hc39_11 : ((xs (Int32.toNatClampNeg x4)) &&& (15 : Int32)) = 11
      · have h := h.1 hc39_11
        refine lv_tableIn hx hb d_L_law_39 (by rw [hc39_11]; decide) (by rw [hc39_11]; decide) (by rw [hc39_11]; rfl) rfl ?_
        exact b_law_c11 C hlS hX hbl hbA hK hce hsl h (lv_sub hl [0, 1, 2, 3, 4] rfl) hP hD hS
      have h := h.2 hc39_11
      refine lv_tableOut hx hb d_L_law_39 (sw_out12 hc39_0 hc39_1 hc39_2 hc39_3 hc39_4 hc39_5 hc39_6 hc39_7 hc39_8 hc39_9 hc39_10 hc39_11) rfl ?_
      obtain ⟨v733, e733⟩ : ∃ z : Int32, z = (x4 + 4) := ⟨_, rfl⟩
      have h := h v733 e733
      refine lv_iinc (k := 4) (v := v733) (lv' := [(4, .int v733), (0, .ref b), (1, .ref (aX 0)), (2, .ref (aM 0)), (3, .ref ao)]) hx hb d_L_law_733 hl rfl (by rw [e733] <;> rfl) (by decide) rfl (fun ls hl => ?_)
      refine lv_goto hx hb d_L_law_736 rfl ?_
      exact hK h (by omega) (by omega) (lv_sub hl [1, 2, 3, 4, 0] rfl) hP hD hS
