/-! the start: what the Statement gives, and the law's first instructions -/
theorem lw_in {w : Cond} (i : Nat) (h : tables_1[i]? = some w) : w ∈ lw_tbl := List.mem_append_right _ (List.mem_of_getElem? h)
theorem lw_K {s : State} {args : Array Value} (hts : ∀ w ∈ lw_tbl, w.before args s = true) : ∃ (D : va_G) (cI cL cZ cS : ClassId), va_K D cls (tyl cI cL cZ cS) s := by
  have ht : ∀ w ∈ TB, w.before args s = true := fun w h => hts w (TB_in h)
  obtain ⟨cF, iF, kF⟩ := u_known (N := 2) ht ku_F (ht _ kw_59)
  obtain ⟨cP, iP, kP⟩ := u_known (N := 6) ht ku_P (ht _ kw_53)
  obtain ⟨cR, iR, kR⟩ := u_known (N := 5) ht ku_R (ht _ kw_25)
  obtain ⟨cS, iS, kS⟩ := u_known (N := 2) ht ku_S (ht _ kw_104)
  obtain ⟨cC, iC, kC⟩ := u_known (N := 8) ht ku_C (ht _ kw_17)
  obtain ⟨cM, iM, kM⟩ := u_known (N := 20) ht ku_M (ht _ kw_500)
  obtain ⟨cI, kkI, coI, fI, gI, hI⟩ := Cond.arrayClass_spec (args := args) (first := s) (o := none) (s := s) (idx := []) (type := .int) (ht _ kw_51)
  obtain ⟨cL, kkL, coL, fL, gL, hL⟩ := Cond.arrayClass_spec (args := args) (first := s) (o := none) (s := s) (idx := []) (type := .long) (ht _ kw_76)
  obtain ⟨cZ, kkZ, coZ, fZ, gZ, hZ⟩ := Cond.arrayClass_spec (args := args) (first := s) (o := none) (s := s) (idx := []) (type := .boolean) (ht _ kw_570)
  obtain ⟨comp, cSt, kS1, s1, s2, s3, s4, s5⟩ := Cond.arrayOver_spec (args := args) (first := s) (o := none) (s := s) (idx := []) (n := "PreferenceCount$Stage") (hts (Cond.arrayOver (.object "PreferenceCount$Stage")) (lw_in 103 (by decide +kernel)))
  refine ⟨(fun c => match c with | 0 => cF | 1 => cP | 2 => cR | 3 => cS | 4 => cC | _ => cM, fun c => match c with | 0 => iF | 1 => iP | 2 => iR | 3 => iS | 4 => iC | _ => iM), cI, cL, cZ, cSt, fun c q hq => ?_, fun k q hq => ?_⟩
  · match c with
    | 0 => cases hq; exact kF
    | 1 => cases hq; exact kP
    | 2 => cases hq; exact kR
    | 3 => cases hq; exact kS
    | 4 => cases hq; exact kC
    | 5 => cases hq; exact kM
    | c + 6 => cases hq
  · match k with
    | 0 => cases hq; exact ⟨fun n z => ⟨fun k h => (by cases h), kkI, gI, coI, hI⟩, fI⟩
    | 1 => cases hq; exact ⟨fun n z => ⟨fun k h => (by cases h), kkL, gL, coL, hL⟩, fL⟩
    | 2 => cases hq; exact ⟨fun n z => ⟨fun k h => (by cases h), kkZ, gZ, coZ, hZ⟩, fZ⟩
    | 3 => cases hq; exact ⟨fun n z => ⟨fun k h => (by cases h), kS1, s3, comp, s4⟩, kS1, comp, s3, s4, s1, s5⟩
    | k + 4 => cases hq
theorem lw_NX {s : State} {args : Array Value} (hts : ∀ w ∈ lw_tbl, w.before args s = true) (hgv : (Jvm.Cond.and given_1 narrow_1).before args s = true) : NX (fun q => s.heap.size ≤ q) s s.heap := by
  have hs := flat_of_before _ hgv
  have hA : ∀ a : Nat, a < s.heap.size → ¬ s.heap.size ≤ a := fun a h => Nat.not_le.mpr h
  have hstr : ∀ (k : Nat) (tx : String), (Cond.stringRef "PreferenceCount" k tx).before args s = true → (Cond.exactly (.string "PreferenceCount" k) "java/lang/String").before args s = true → ∃ a : Nat, vk_R "PreferenceCount" k tx a s := fun k tx h1 h2 => by
    obtain ⟨a, _, _, _, q1, -⟩ := Cond.exactly_spec (args := args) (first := s) (o := none) (s := s) (idx := []) h2
    exact ⟨a, vk_R.of h1 q1⟩
  refine ⟨⟨?_, ?_, ?_, ?_⟩, fun w h => va_Nw.of ?_ (hts w (XW_in w h)), ?_, ?_, ?_, ?_, ?_⟩
  · exact va_Nw.of rfl (hts (Cond.methodLinkNest "PreferenceCount$Fractions" 28 y_C_commonDivisor "PreferenceCount") (lw_in 326 (by decide +kernel)))
  · exact va_Nw.of rfl (hts (Cond.methodLinkNest "PreferenceCount" 11 y_R_init "PreferenceCount") (lw_in 26 (by decide +kernel)))
  · exact va_Nw.of rfl (hts (Cond.methodLinkNest "PreferenceCount" 18 y_P_init "PreferenceCount") (lw_in 54 (by decide +kernel)))
  · exact va_Nw.of rfl (hts (Cond.methodLinkNest "PreferenceCount" 29 y_S_init "PreferenceCount") (lw_in 105 (by decide +kernel)))
  · have := XW_ok w h
    simp only [Bool.and_eq_true] at this
    exact this.1
  · intro q hq
    simp only [XS, List.mem_cons, List.not_mem_nil, or_false] at hq
    rcases hq with rfl | rfl | rfl | rfl | rfl | rfl | rfl | rfl | rfl
    · exact hstr _ _ (hts (Cond.stringRef "PreferenceCount" 36 "2 to 12 candidates, 1 to 4 seats, fewer seats than candidates") (lw_in 218 (by decide +kernel))) (hs _ (by decide +kernel))
    · exact hstr _ _ (hts (Cond.stringRef "PreferenceCount" 190 "the count has begun") (lw_in 270 (by decide +kernel))) (hs _ (by decide +kernel))
    · exact hstr _ _ (hts (Cond.stringRef "PreferenceCount" 52 "no such candidate, or a number that is not free from 0 to 999") (lw_in 285 (by decide +kernel))) (hs _ (by decide +kernel))
    · exact hstr _ _ (hts (Cond.stringRef "PreferenceCount" 69 "no such candidate, withdrawn already, or too few would be left") (lw_in 297 (by decide +kernel))) (hs _ (by decide +kernel))
    · exact hstr _ _ (hts (Cond.stringRef "PreferenceCount" 82 "no ranking of 1 to 7 candidates, or not 1 to 50 papers in all") (lw_in 317 (by decide +kernel))) (hs _ (by decide +kernel))
    · exact hstr _ _ (hts (Cond.stringRef "PreferenceCount" 90 "there are no papers") (lw_in 336 (by decide +kernel))) (hs _ (by decide +kernel))
    · exact hstr _ _ (hts (Cond.stringRef "PreferenceCount" 121 "the count has not begun, or is over") (lw_in 416 (by decide +kernel))) (hs _ (by decide +kernel))
    · exact hstr _ _ (hts (Cond.stringRef "PreferenceCount" 155 "no such candidate") (lw_in 458 (by decide +kernel))) (hs _ (by decide +kernel))
    · exact hstr _ _ (hts (Cond.stringRef "PreferenceCount" 192 "no such stage or candidate") (lw_in 480 (by decide +kernel))) (hs _ (by decide +kernel))
  · exact vx_Zqof (hts (Cond.laysStatic "java/lang/Throwable" "UNASSIGNED_STACK" "[Ljava/lang/StackTraceElement;") (lw_in 204 (by decide +kernel))) (hts _ (TB_in kw_8)) (hs _ (by decide +kernel)) hA
  · exact vx_Zqof (hts (Cond.laysStatic "java/lang/Throwable" "SUPPRESSED_SENTINEL" "Ljava/util/List;") (lw_in 206 (by decide +kernel))) (hts _ (TB_in kw_8)) (hs _ (by decide +kernel)) hA
  · exact va_Nc.of (hs _ (by decide +kernel))
  · exact va_AO.of (hts (Cond.arrayOver (.object "PreferenceCount$Stage")) (lw_in 103 (by decide +kernel)))
set_option maxHeartbeats 8000000 in
set_option maxRecDepth 100000 in
theorem whole_mach {p : Program} {e : Env} {s : State} {m : MethodId} {below : List Frame} {meth : Method} {c : Code} (l : Launch) {b L : Nat} {xs : Nat → Int32} (hlS : l.stackTraces = false) (C0 : lw_At p s m meth c b L xs) {QX QM : Mem → Prop} (hQX : ∀ σ : Mem, wp_C_startAnew QX 2 1 σ) (hQM : wp_M_clear QM 2 1 σM0) (hQ : ∀ (σ τ : Mem) (ou : Nat → Int64), QX σ → QM τ → ∃ n, n ≤ 1000 ∧ wp_law xs L n 0 σ τ ou) : W p l e room_1 s m #[Value.ref b] below meth c s.heap [] 0 0 (lw_Z below #[Value.ref b] s) (entryFrame m ([Value.ref b] : List Value).toArray 8) := by
  obtain ⟨hx, hb, hr, hml, hown, htl, hX, hbl, hlk, hgv⟩ := C0
  obtain ⟨D, cI, cL, cZ, cS, hK⟩ := lw_K htl
  have hN := lw_NX htl hgv
  obtain ⟨A, hAe⟩ : ∃ A : Nat → Prop, A = fun q => s.heap.size ≤ q := ⟨_, rfl⟩
  rw [← hAe] at hN
  have hA : ∀ q : Nat, s.heap.size ≤ q → A q := fun q h => by rw [hAe]; exact h
  have hbA : ¬ A b := by rw [hAe]; exact Nat.not_le.mpr hbl
  have hts : ∀ w ∈ TB, w.before #[Value.ref b] s = true := fun w h => htl w (TB_in h)
  have C : wC TB "PreferenceCountLaw" c_L_law 8 ret D cls (tyl cI cL cZ cS) A p s m #[Value.ref b] meth c := ⟨hx, hb, hr, hlk, hts, hown, hml, hK, hN, hA⟩
  have hS : va_S A s.heap s.heap [] := va_S.rf
  have hP : va_P D cls [] s.heap := fun k q h => by simp at h
  have hD : va_D A [] := ⟨fun i j p q h => by simp at h, fun k q h => by simp at h⟩
  have hl := lv_entry ([Value.ref b]) (n := 8) (Nat.le_of_ble_eq_true rfl)
  rw [lg_entry_eq]
  generalize (lg_sl ([Value.ref b]) ++ List.replicate (8 - (lg_sl ([Value.ref b])).length) Slot.unset).toArray = ls at hl ⊢
  have hl : lv_has ls 8 [(0, .ref b)] := hl
  refine va_new (ci := 4) (fs := [.null, .null, .null, .int 0, .int 0, .int 0, .long 0, .long 0]) (C := "PreferenceCount") (T := T_C) (N := 8) hx hb hts ku_C ft_C fo_C hown (hts _ kw_16) (hts _ kw_17) (hts _ kw_1) hK hP hD hS hA rfl dv_C (Nat.le_of_ble_eq_true rfl) (Nat.le_of_ble_eq_true rfl) d_L_law_0 (fun q0 H hP hD hS => ?_)
  have hP : va_P D cls [(q0, .inr (4, [.null, .null, .null, .int 0, .int 0, .int 0, .long 0, .long 0]))] H := hP
  have hD : va_D A [(q0, .inr (4, [.null, .null, .null, .int 0, .int 0, .int 0, .long 0, .long 0]))] := hD
  refine lv_dup hx hb d_L_law_3 rfl ?_
  refine k_call (wr := []) C hP hD hS [0] [] rfl rfl (by decide) (by decide) (va_runI (As := []) (rest := [.ref q0]) ⟨hx, hb, hml, hown, hts⟩ (m_C_init hQX) (cwI 0 hts (g_C kw_20) rfl rfl rfl (hts _ kw_1) (hts _ kw_18) (hts _ kw_19) rfl (by decide +kernel) ⟨(Nat.le_of_ble_eq_true rfl), (Nat.le_of_ble_eq_true rfl)⟩) (k_pre C hP hD hS [0] rfl rfl (by decide)) rfl rfl hl.1 rfl (lv_room (Nat.le_of_ble_eq_true rfl)) d_L_law_4 ⟨(Nat.le_of_ble_eq_true rfl), (Nat.le_of_ble_eq_true rfl)⟩) (fun u H locs hq hP hD hS => ?_)
  obtain ⟨aX, σ⟩ := u
  obtain ⟨hqx, hq0⟩ := hq
  have hP1 : va_P D cls (wW 77 (fX cI cL cS aX) aX σ ++ []) H := hP
  have hD1 : va_D A (wW 77 (fX cI cL cS aX) aX σ ++ []) := hD
  have hS1 := hS
  have hq0 : aX 0 = q0 := hq0
  subst hq0
  have hP := hP1
  have hD := hD1
  have hS := hS1
  refine lv_astore_n (lv' := [(1, .ref (aX 0)), (0, .ref b)]) hx hb d_L_law_7 rfl hl (by decide) rfl (fun ls hl => ?_)
  refine va_new (ci := 5) (fs := [.int 0, .int 0, .int 0, .null, .null, .int 0, .int 0, .int 0, .null, .null, .null, .null, .null, .null, .long 0, .int 0, .null, .null, .null, .int 0]) (C := "PreferenceCountModel") (T := T_M) (N := 20) hx hb hts ku_M ft_M fo_M hown (hts _ kw_499) (hts _ kw_500) (hts _ kw_7) hK hP hD hS hA rfl dv_M (Nat.le_of_ble_eq_true rfl) (Nat.le_of_ble_eq_true rfl) d_L_law_8 (fun q8 H hP hD hS => ?_)
  refine lv_dup hx hb d_L_law_11 rfl ?_
  have hlen : (wW 77 (fX cI cL cS aX) aX σ ++ []).length = 77 := by simp [wW]
  have hix : ((wW 77 (fX cI cL cS aX) aX σ ++ []) ++ [(q8, (.inr (5, [.int 0, .int 0, .int 0, .null, .null, .int 0, .int 0, .int 0, .null, .null, .null, .null, .null, .null, .long 0, .int 0, .null, .null, .null, .int 0]) : va_E))])[77]? = some (q8, .inr (5, [.int 0, .int 0, .int 0, .null, .null, .int 0, .int 0, .int 0, .null, .null, .null, .null, .null, .null, .long 0, .int 0, .null, .null, .null, .int 0])) := by rw [List.getElem?_append_right (by rw [hlen]; omega), hlen]; simp
  have hpre : PreS s H (cPc D cls (tyl cI cL cZ cS) [(q8, .inr (5, [.int 0, .int 0, .int 0, .null, .null, .int 0, .int 0, .int 0, .null, .null, .null, .null, .null, .null, .long 0, .int 0, .null, .null, .null, .int 0]))] H.size [.ref q8]) [.ref q8] := k_pre C hP hD hS [77] (by rw [List.map_cons, hix]; rfl) (by rw [List.filterMap_cons, hix]; rfl) (by simp [va_nd])
  refine k_callA (wc := [(q8, .inr (5, [.int 0, .int 0, .int 0, .null, .null, .int 0, .int 0, .int 0, .null, .null, .null, .null, .null, .null, .long 0, .int 0, .null, .null, .null, .int 0]))]) C hP hD hS (va_runI (As := []) (rest := [.ref q8]) ⟨hx, hb, hml, hown, hts⟩ (m_M_init hQM) (cwI 0 hts (g_C kw_503) rfl rfl rfl (hts _ kw_7) (hts _ kw_501) (hts _ kw_502) rfl (by decide +kernel) ⟨(Nat.le_of_ble_eq_true rfl), (Nat.le_of_ble_eq_true rfl)⟩) hpre rfl rfl hl.1 rfl (lv_room (Nat.le_of_ble_eq_true rfl)) d_L_law_12 ⟨(Nat.le_of_ble_eq_true rfl), (Nat.le_of_ble_eq_true rfl)⟩) (fun u H locs hq hP hD hS => ?_)
  obtain ⟨aM, τ⟩ := u
  obtain ⟨hqm, hq1⟩ := hq
  have hP2 : va_P D cls ((wW 77 (fX cI cL cS aX) aX σ ++ []) ++ (wW 12 (fM cI cL cZ aM) aM τ ++ [])) H := hP
  have hD2 : va_D A ((wW 77 (fX cI cL cS aX) aX σ ++ []) ++ (wW 12 (fM cI cL cZ aM) aM τ ++ [])) := hD
  have hS2 := hS
  have hq1 : aM 0 = q8 := hq1
  subst hq1
  have hP := hP2
  have hD := hD2
  have hS := hS2
  refine lv_astore_n (lv' := [(2, .ref (aM 0)), (1, .ref (aX 0)), (0, .ref b)]) hx hb d_L_law_15 rfl hl (by decide) rfl (fun ls hl => ?_)
  refine lv_iconst (v := 1) hx hb d_L_law_16 (by decide) ?_
  refine k_newa (atype := .long) (ty := .long) (cA0 := cL) (N' := 1) (a0 := (1, .inr (.inl (fun _ => 0)))) C kw_76 rfl 1 rfl (fun _ h => h) hP hD hS (fun _ => rfl) (by decide) (by decide) (by decide) (Nat.le_of_ble_eq_true rfl) (Nat.le_of_ble_eq_true rfl) d_L_law_17 (fun ao H hP hD hS => ?_)
  refine lv_astore_n (lv' := [(3, .ref ao), (2, .ref (aM 0)), (1, .ref (aX 0)), (0, .ref b)]) hx hb d_L_law_19 rfl hl (by decide) rfl (fun ls hl => ?_)
  refine lv_iconst (v := 0) hx hb d_L_law_20 (by decide) ?_
  refine lv_istore (lv' := [(4, .int 0), (3, .ref ao), (2, .ref (aM 0)), (1, .ref (aX 0)), (0, .ref b)]) hx hb d_L_law_21 hl (by decide) rfl (fun ls hl => ?_)
  have e1 : (wW 77 (fX cI cL cS aX) aX σ ++ [(ao, (.inl (cL, (1, .inr (.inl (fun _ => 0)))) : va_E))]) ++ (wW 12 (fM cI cL cZ aM) aM τ ++ []) = WL cI cL cZ cS aX aM ao σ τ (fun _ => 0) := by simp [WL]
  have hP := hP.swap
  have hD := hD.swap
  rw [List.append_nil (wW 77 (fX cI cL cS aX) aX σ), e1] at hP hD
  obtain ⟨n, hn, hw⟩ := hQ σ τ (fun _ => 0) hqx hqm
  exact b_law C hlS hX hbl hbA (fun {σ τ ou H locs ls ce sl} h1 h2 hP hD hS => va_forget (fun q hq => by have := hS.2.2 q hq; rw [hAe] at this; exact this) (W.widen h1 h2 (lw_ret hx hb hr hlk d_L_law_740))) n hw (by omega) (by omega) (lv_sub hl [4, 3, 2, 1, 0] rfl) hP hD hS
