section
-- ===== PART A: goes FIRST, ahead of the names: the tables' words, and 'selects' of the private methods out of them =====
/-- a private method of a class that the tables say can be made, by its rows of tables_1 -/
def lw_okq (q : MethodName × Nat) : Prop := (q.1.cls ≠ "java/lang/invoke/MethodHandle" ∧ q.1.cls ≠ "java/lang/invoke/VarHandle") ∧ Cond.instantiable q.1.cls q.2 ∈ tables_1 ∧ Cond.privateMethod q.1 ∈ tables_1 ∧ Cond.instanceMethod q.1 ∈ tables_1
theorem lw_p0 : lw_okq (⟨"PreferenceCount", "startAnew", "(II)V"⟩, 8) := ⟨⟨by decide +kernel, by decide +kernel⟩, List.mem_of_getElem? (i := 17) (by decide +kernel), List.mem_of_getElem? (i := 121) (by decide +kernel), List.mem_of_getElem? (i := 122) (by decide +kernel)⟩
theorem lw_p1 : lw_okq (⟨"java/lang/Throwable", "fillInStackTrace", "(I)Ljava/lang/Throwable;"⟩, 6) := ⟨⟨by decide +kernel, by decide +kernel⟩, List.mem_of_getElem? (i := 216) (by decide +kernel), List.mem_of_getElem? (i := 214) (by decide +kernel), List.mem_of_getElem? (i := 215) (by decide +kernel)⟩
theorem lw_p2 : lw_okq (⟨"PreferenceCount", "refuseOnceBegun", "()V"⟩, 8) := ⟨⟨by decide +kernel, by decide +kernel⟩, List.mem_of_getElem? (i := 17) (by decide +kernel), List.mem_of_getElem? (i := 254) (by decide +kernel), List.mem_of_getElem? (i := 255) (by decide +kernel)⟩
theorem lw_p3 : lw_okq (⟨"PreferenceCount", "hasBegun", "()Z"⟩, 8) := ⟨⟨by decide +kernel, by decide +kernel⟩, List.mem_of_getElem? (i := 17) (by decide +kernel), List.mem_of_getElem? (i := 258) (by decide +kernel), List.mem_of_getElem? (i := 259) (by decide +kernel)⟩
theorem lw_p4 : lw_okq (⟨"PreferenceCount", "isRanking", "(J)Z"⟩, 8) := ⟨⟨by decide +kernel, by decide +kernel⟩, List.mem_of_getElem? (i := 17) (by decide +kernel), List.mem_of_getElem? (i := 310) (by decide +kernel), List.mem_of_getElem? (i := 311) (by decide +kernel)⟩
theorem lw_p5 : lw_okq (⟨"PreferenceCount", "setQuota", "()V"⟩, 8) := ⟨⟨by decide +kernel, by decide +kernel⟩, List.mem_of_getElem? (i := 17) (by decide +kernel), List.mem_of_getElem? (i := 338) (by decide +kernel), List.mem_of_getElem? (i := 339) (by decide +kernel)⟩
theorem lw_p6 : lw_okq (⟨"PreferenceCount", "passOn", "(IJJ)V"⟩, 8) := ⟨⟨by decide +kernel, by decide +kernel⟩, List.mem_of_getElem? (i := 17) (by decide +kernel), List.mem_of_getElem? (i := 354) (by decide +kernel), List.mem_of_getElem? (i := 355) (by decide +kernel)⟩
theorem lw_p7 : lw_okq (⟨"PreferenceCount", "firstContinuing", "(J)I"⟩, 8) := ⟨⟨by decide +kernel, by decide +kernel⟩, List.mem_of_getElem? (i := 17) (by decide +kernel), List.mem_of_getElem? (i := 363) (by decide +kernel), List.mem_of_getElem? (i := 364) (by decide +kernel)⟩
theorem lw_p8 : lw_okq (⟨"PreferenceCount", "hand", "(II)V"⟩, 8) := ⟨⟨by decide +kernel, by decide +kernel⟩, List.mem_of_getElem? (i := 17) (by decide +kernel), List.mem_of_getElem? (i := 367) (by decide +kernel), List.mem_of_getElem? (i := 368) (by decide +kernel)⟩
theorem lw_p9 : lw_okq (⟨"PreferenceCount", "settle", "()V"⟩, 8) := ⟨⟨by decide +kernel, by decide +kernel⟩, List.mem_of_getElem? (i := 17) (by decide +kernel), List.mem_of_getElem? (i := 375) (by decide +kernel), List.mem_of_getElem? (i := 376) (by decide +kernel)⟩
theorem lw_p10 : lw_okq (⟨"PreferenceCount", "electInOrder", "(Z)V"⟩, 8) := ⟨⟨by decide +kernel, by decide +kernel⟩, List.mem_of_getElem? (i := 17) (by decide +kernel), List.mem_of_getElem? (i := 379) (by decide +kernel), List.mem_of_getElem? (i := 380) (by decide +kernel)⟩
theorem lw_p11 : lw_okq (⟨"PreferenceCount", "foremost", "(Z)I"⟩, 8) := ⟨⟨by decide +kernel, by decide +kernel⟩, List.mem_of_getElem? (i := 17) (by decide +kernel), List.mem_of_getElem? (i := 383) (by decide +kernel), List.mem_of_getElem? (i := 384) (by decide +kernel)⟩
theorem lw_p12 : lw_okq (⟨"PreferenceCount", "isAhead", "(II)Z"⟩, 8) := ⟨⟨by decide +kernel, by decide +kernel⟩, List.mem_of_getElem? (i := 17) (by decide +kernel), List.mem_of_getElem? (i := 391) (by decide +kernel), List.mem_of_getElem? (i := 392) (by decide +kernel)⟩
theorem lw_p13 : lw_okq (⟨"PreferenceCount", "isAboveQuota", "(I)Z"⟩, 8) := ⟨⟨by decide +kernel, by decide +kernel⟩, List.mem_of_getElem? (i := 17) (by decide +kernel), List.mem_of_getElem? (i := 402) (by decide +kernel), List.mem_of_getElem? (i := 403) (by decide +kernel)⟩
theorem lw_p14 : lw_okq (⟨"PreferenceCount", "hindmost", "()I"⟩, 8) := ⟨⟨by decide +kernel, by decide +kernel⟩, List.mem_of_getElem? (i := 17) (by decide +kernel), List.mem_of_getElem? (i := 418) (by decide +kernel), List.mem_of_getElem? (i := 419) (by decide +kernel)⟩
theorem lw_p15 : lw_okq (⟨"PreferenceCount", "passSurplus", "(I)V"⟩, 8) := ⟨⟨by decide +kernel, by decide +kernel⟩, List.mem_of_getElem? (i := 17) (by decide +kernel), List.mem_of_getElem? (i := 433) (by decide +kernel), List.mem_of_getElem? (i := 434) (by decide +kernel)⟩
def lw_privs_1 : List (MethodName × Nat) := [(⟨"PreferenceCount", "startAnew", "(II)V"⟩, 8), (⟨"java/lang/Throwable", "fillInStackTrace", "(I)Ljava/lang/Throwable;"⟩, 6), (⟨"PreferenceCount", "refuseOnceBegun", "()V"⟩, 8), (⟨"PreferenceCount", "hasBegun", "()Z"⟩, 8), (⟨"PreferenceCount", "isRanking", "(J)Z"⟩, 8), (⟨"PreferenceCount", "setQuota", "()V"⟩, 8), (⟨"PreferenceCount", "passOn", "(IJJ)V"⟩, 8), (⟨"PreferenceCount", "firstContinuing", "(J)I"⟩, 8), (⟨"PreferenceCount", "hand", "(II)V"⟩, 8), (⟨"PreferenceCount", "settle", "()V"⟩, 8), (⟨"PreferenceCount", "electInOrder", "(Z)V"⟩, 8), (⟨"PreferenceCount", "foremost", "(Z)I"⟩, 8), (⟨"PreferenceCount", "isAhead", "(II)Z"⟩, 8), (⟨"PreferenceCount", "isAboveQuota", "(I)Z"⟩, 8), (⟨"PreferenceCount", "hindmost", "()I"⟩, 8), (⟨"PreferenceCount", "passSurplus", "(I)V"⟩, 8)]
theorem lw_r1 : ∀ q ∈ lw_privs_1, lw_okq q := List.forall_mem_cons.mpr ⟨lw_p0, List.forall_mem_cons.mpr ⟨lw_p1, List.forall_mem_cons.mpr ⟨lw_p2, List.forall_mem_cons.mpr ⟨lw_p3, List.forall_mem_cons.mpr ⟨lw_p4, List.forall_mem_cons.mpr ⟨lw_p5, List.forall_mem_cons.mpr ⟨lw_p6, List.forall_mem_cons.mpr ⟨lw_p7, List.forall_mem_cons.mpr ⟨lw_p8, List.forall_mem_cons.mpr ⟨lw_p9, List.forall_mem_cons.mpr ⟨lw_p10, List.forall_mem_cons.mpr ⟨lw_p11, List.forall_mem_cons.mpr ⟨lw_p12, List.forall_mem_cons.mpr ⟨lw_p13, List.forall_mem_cons.mpr ⟨lw_p14, List.forall_mem_cons.mpr ⟨lw_p15, fun _ h => absurd h List.not_mem_nil⟩⟩⟩⟩⟩⟩⟩⟩⟩⟩⟩⟩⟩⟩⟩⟩
theorem lw_p16 : lw_okq (⟨"PreferenceCount", "excludeAndPass", "(I)V"⟩, 8) := ⟨⟨by decide +kernel, by decide +kernel⟩, List.mem_of_getElem? (i := 17) (by decide +kernel), List.mem_of_getElem? (i := 438) (by decide +kernel), List.mem_of_getElem? (i := 439) (by decide +kernel)⟩
theorem lw_p17 : lw_okq (⟨"PreferenceCount", "refuseUnknown", "(II)V"⟩, 8) := ⟨⟨by decide +kernel, by decide +kernel⟩, List.mem_of_getElem? (i := 17) (by decide +kernel), List.mem_of_getElem? (i := 473) (by decide +kernel), List.mem_of_getElem? (i := 474) (by decide +kernel)⟩
theorem lw_p18 : lw_okq (⟨"PreferenceCountModel", "clear", "(II)V"⟩, 20) := ⟨⟨by decide +kernel, by decide +kernel⟩, List.mem_of_getElem? (i := 500) (by decide +kernel), List.mem_of_getElem? (i := 506) (by decide +kernel), List.mem_of_getElem? (i := 507) (by decide +kernel)⟩
theorem lw_p19 : lw_okq (⟨"PreferenceCountModel", "says", "(I)Z"⟩, 20) := ⟨⟨by decide +kernel, by decide +kernel⟩, List.mem_of_getElem? (i := 500) (by decide +kernel), List.mem_of_getElem? (i := 580) (by decide +kernel), List.mem_of_getElem? (i := 581) (by decide +kernel)⟩
theorem lw_p20 : lw_okq (⟨"PreferenceCountModel", "isCandidate", "(I)Z"⟩, 20) := ⟨⟨by decide +kernel, by decide +kernel⟩, List.mem_of_getElem? (i := 500) (by decide +kernel), List.mem_of_getElem? (i := 588) (by decide +kernel), List.mem_of_getElem? (i := 589) (by decide +kernel)⟩
theorem lw_p21 : lw_okq (⟨"PreferenceCountModel", "continuing", "()I"⟩, 20) := ⟨⟨by decide +kernel, by decide +kernel⟩, List.mem_of_getElem? (i := 500) (by decide +kernel), List.mem_of_getElem? (i := 596) (by decide +kernel), List.mem_of_getElem? (i := 597) (by decide +kernel)⟩
theorem lw_p22 : lw_okq (⟨"PreferenceCountModel", "exclude", "(I)V"⟩, 20) := ⟨⟨by decide +kernel, by decide +kernel⟩, List.mem_of_getElem? (i := 500) (by decide +kernel), List.mem_of_getElem? (i := 600) (by decide +kernel), List.mem_of_getElem? (i := 601) (by decide +kernel)⟩
theorem lw_p23 : lw_okq (⟨"PreferenceCountModel", "beginStage", "()V"⟩, 20) := ⟨⟨by decide +kernel, by decide +kernel⟩, List.mem_of_getElem? (i := 500) (by decide +kernel), List.mem_of_getElem? (i := 617) (by decide +kernel), List.mem_of_getElem? (i := 618) (by decide +kernel)⟩
theorem lw_p24 : lw_okq (⟨"PreferenceCountModel", "goOn", "(II)V"⟩, 20) := ⟨⟨by decide +kernel, by decide +kernel⟩, List.mem_of_getElem? (i := 500) (by decide +kernel), List.mem_of_getElem? (i := 621) (by decide +kernel), List.mem_of_getElem? (i := 622) (by decide +kernel)⟩
theorem lw_p25 : lw_okq (⟨"PreferenceCountModel", "endStage", "()V"⟩, 20) := ⟨⟨by decide +kernel, by decide +kernel⟩, List.mem_of_getElem? (i := 500) (by decide +kernel), List.mem_of_getElem? (i := 625) (by decide +kernel), List.mem_of_getElem? (i := 626) (by decide +kernel)⟩
theorem lw_p26 : lw_okq (⟨"PreferenceCountModel", "lessen", "()V"⟩, 20) := ⟨⟨by decide +kernel, by decide +kernel⟩, List.mem_of_getElem? (i := 500) (by decide +kernel), List.mem_of_getElem? (i := 629) (by decide +kernel), List.mem_of_getElem? (i := 630) (by decide +kernel)⟩
theorem lw_p27 : lw_okq (⟨"PreferenceCountModel", "sumOf", "(I)J"⟩, 20) := ⟨⟨by decide +kernel, by decide +kernel⟩, List.mem_of_getElem? (i := 500) (by decide +kernel), List.mem_of_getElem? (i := 636) (by decide +kernel), List.mem_of_getElem? (i := 637) (by decide +kernel)⟩
theorem lw_p28 : lw_okq (⟨"PreferenceCountModel", "quota", "()J"⟩, 20) := ⟨⟨by decide +kernel, by decide +kernel⟩, List.mem_of_getElem? (i := 500) (by decide +kernel), List.mem_of_getElem? (i := 640) (by decide +kernel), List.mem_of_getElem? (i := 641) (by decide +kernel)⟩
theorem lw_p29 : lw_okq (⟨"PreferenceCountModel", "first", "(ZZ)I"⟩, 20) := ⟨⟨by decide +kernel, by decide +kernel⟩, List.mem_of_getElem? (i := 500) (by decide +kernel), List.mem_of_getElem? (i := 644) (by decide +kernel), List.mem_of_getElem? (i := 645) (by decide +kernel)⟩
theorem lw_p30 : lw_okq (⟨"PreferenceCountModel", "at", "(II)J"⟩, 20) := ⟨⟨by decide +kernel, by decide +kernel⟩, List.mem_of_getElem? (i := 500) (by decide +kernel), List.mem_of_getElem? (i := 648) (by decide +kernel), List.mem_of_getElem? (i := 649) (by decide +kernel)⟩
theorem lw_p31 : lw_okq (⟨"PreferenceCountModel", "isAhead", "(II)Z"⟩, 20) := ⟨⟨by decide +kernel, by decide +kernel⟩, List.mem_of_getElem? (i := 500) (by decide +kernel), List.mem_of_getElem? (i := 652) (by decide +kernel), List.mem_of_getElem? (i := 653) (by decide +kernel)⟩
def lw_privs_2 : List (MethodName × Nat) := [(⟨"PreferenceCount", "excludeAndPass", "(I)V"⟩, 8), (⟨"PreferenceCount", "refuseUnknown", "(II)V"⟩, 8), (⟨"PreferenceCountModel", "clear", "(II)V"⟩, 20), (⟨"PreferenceCountModel", "says", "(I)Z"⟩, 20), (⟨"PreferenceCountModel", "isCandidate", "(I)Z"⟩, 20), (⟨"PreferenceCountModel", "continuing", "()I"⟩, 20), (⟨"PreferenceCountModel", "exclude", "(I)V"⟩, 20), (⟨"PreferenceCountModel", "beginStage", "()V"⟩, 20), (⟨"PreferenceCountModel", "goOn", "(II)V"⟩, 20), (⟨"PreferenceCountModel", "endStage", "()V"⟩, 20), (⟨"PreferenceCountModel", "lessen", "()V"⟩, 20), (⟨"PreferenceCountModel", "sumOf", "(I)J"⟩, 20), (⟨"PreferenceCountModel", "quota", "()J"⟩, 20), (⟨"PreferenceCountModel", "first", "(ZZ)I"⟩, 20), (⟨"PreferenceCountModel", "at", "(II)J"⟩, 20), (⟨"PreferenceCountModel", "isAhead", "(II)Z"⟩, 20)]
theorem lw_r2 : ∀ q ∈ lw_privs_2, lw_okq q := List.forall_mem_cons.mpr ⟨lw_p16, List.forall_mem_cons.mpr ⟨lw_p17, List.forall_mem_cons.mpr ⟨lw_p18, List.forall_mem_cons.mpr ⟨lw_p19, List.forall_mem_cons.mpr ⟨lw_p20, List.forall_mem_cons.mpr ⟨lw_p21, List.forall_mem_cons.mpr ⟨lw_p22, List.forall_mem_cons.mpr ⟨lw_p23, List.forall_mem_cons.mpr ⟨lw_p24, List.forall_mem_cons.mpr ⟨lw_p25, List.forall_mem_cons.mpr ⟨lw_p26, List.forall_mem_cons.mpr ⟨lw_p27, List.forall_mem_cons.mpr ⟨lw_p28, List.forall_mem_cons.mpr ⟨lw_p29, List.forall_mem_cons.mpr ⟨lw_p30, List.forall_mem_cons.mpr ⟨lw_p31, fun _ h => absurd h List.not_mem_nil⟩⟩⟩⟩⟩⟩⟩⟩⟩⟩⟩⟩⟩⟩⟩⟩
theorem lw_p32 : lw_okq (⟨"PreferenceCountModel", "elect", "(I)V"⟩, 20) := ⟨⟨by decide +kernel, by decide +kernel⟩, List.mem_of_getElem? (i := 500) (by decide +kernel), List.mem_of_getElem? (i := 656) (by decide +kernel), List.mem_of_getElem? (i := 657) (by decide +kernel)⟩
theorem lw_p33 : lw_okq (⟨"PreferenceCountModel", "pass", "(I)V"⟩, 20) := ⟨⟨by decide +kernel, by decide +kernel⟩, List.mem_of_getElem? (i := 500) (by decide +kernel), List.mem_of_getElem? (i := 664) (by decide +kernel), List.mem_of_getElem? (i := 665) (by decide +kernel)⟩
theorem lw_p34 : lw_okq (⟨"PreferenceCountModel", "last", "()I"⟩, 20) := ⟨⟨by decide +kernel, by decide +kernel⟩, List.mem_of_getElem? (i := 500) (by decide +kernel), List.mem_of_getElem? (i := 668) (by decide +kernel), List.mem_of_getElem? (i := 669) (by decide +kernel)⟩
theorem lw_p35 : lw_okq (⟨"PreferenceCountModel", "columnOf", "(I)I"⟩, 20) := ⟨⟨by decide +kernel, by decide +kernel⟩, List.mem_of_getElem? (i := 500) (by decide +kernel), List.mem_of_getElem? (i := 688) (by decide +kernel), List.mem_of_getElem? (i := 689) (by decide +kernel)⟩
def lw_privs_3 : List (MethodName × Nat) := [(⟨"PreferenceCountModel", "elect", "(I)V"⟩, 20), (⟨"PreferenceCountModel", "pass", "(I)V"⟩, 20), (⟨"PreferenceCountModel", "last", "()I"⟩, 20), (⟨"PreferenceCountModel", "columnOf", "(I)I"⟩, 20)]
theorem lw_r3 : ∀ q ∈ lw_privs_3, lw_okq q := List.forall_mem_cons.mpr ⟨lw_p32, List.forall_mem_cons.mpr ⟨lw_p33, List.forall_mem_cons.mpr ⟨lw_p34, List.forall_mem_cons.mpr ⟨lw_p35, fun _ h => absurd h List.not_mem_nil⟩⟩⟩⟩
def lw_privs : List (MethodName × Nat) := lw_privs_1 ++ (lw_privs_2 ++ (lw_privs_3))
def lw_tbl : List Cond := k2_sels lw_privs ++ tables_1
theorem lw_privs_ok : ∀ q ∈ lw_privs, lw_okq q := by
  show ∀ q ∈ lw_privs_1 ++ (lw_privs_2 ++ (lw_privs_3)), lw_okq q
  exact List.forall_mem_append.mpr ⟨lw_r1, List.forall_mem_append.mpr ⟨lw_r2, lw_r3⟩⟩
-- ===== end of PART A; then your names; then what follows =====
end
section
/-! ===== BEGIN words of one list among another's, by their places ===== -/
theorem goodIn_r {big : List Cond} (ws : List Cond) (ps : List Nat) (hp : ws = ps.filterMap (fun i => big[i]?)) (h : ws.all goodWord = true) : GoodIn big ws := by
  intro w hw
  have h1 := List.all_eq_true.mp h w hw
  rw [hp] at hw
  obtain ⟨i, -, hi⟩ := List.mem_filterMap.mp hw
  have hm : w ∈ big := by first | exact List.mem_of_getElem? hi | exact List.getElem?_mem hi
  exact ⟨hm, good_of_word h1⟩
theorem goodIn_app {big a b : List Cond} (ha : GoodIn big a) (hb : GoodIn big b) : GoodIn big (a ++ b) := fun w h => (List.mem_append.mp h).elim (ha w) (hb w)
theorem goodIn_ca {big a b : List Cond} {c : Cond} (ha : GoodIn big (c :: a)) (hb : GoodIn big b) : GoodIn big (c :: (a ++ b)) := fun w h => (List.mem_cons.mp h).elim (fun e => ha w (List.mem_cons.mpr (Or.inl e))) (fun h => (List.mem_append.mp h).elim (fun h => ha w (List.mem_cons.mpr (Or.inr h))) (hb w))
theorem goodIn_sub {big ws : List Cond} (hm : ∀ w ∈ ws, w ∈ big) (h : ws.all goodWord = true) : GoodIn big ws := fun w hw => ⟨hm w hw, good_of_word (List.all_eq_true.mp h w hw)⟩
/-! ===== END ===== -/

/-! ===== BEGIN exceptions that leave a method, and their catching by the caller (launches without stack traces) ===== -/
section VXA
/-! The laws vx_back, vx_callV, vx_callS, vx_callSW, vx_throw0, vx_throwS follow proofs of the library, with one case more: JvmDerived/Free/Laws.lean (Back.of_free), Shelf42/LK1.lean (callV, callS), Shelf/KitTraced.lean (throwNew0V, throwNewS). -/
/-- where a method has thrown q: the class by its name, the cell, what was written, the world -/
def vx_T (XC : String → State → State → Prop) (st : State) (q : Addr) (t : State) (mc ms : Nat) (free : Addr → Prop) : Prop :=
  ∃ (E : String) (ce : Cell) (L : List Loc), XC E st t ∧ t.heap[q]? = some ce ∧ ce.vm = .none ∧ st.vm.findClass E = some ce.cls ∧ st.WarmedH t.vm ∧ st.sameButNew ({ t with vm := st.vm } : State) L mc ms ∧ ∀ z ∈ L, free z.base
def vx_Q (Qc : Array Value → State → Outcome → State → Prop) (XC : String → State → State → Prop) (mc ms : Nat) (free : Addr → Prop) : Array Value → State → Outcome → State → Prop := fun a st o t =>
  (Qc a st o t ∧ ∃ L, FrameEnd st o t L mc ms ∧ ∀ q ∈ L, free q.base) ∨ ∃ q, o = .threw q ∧ vx_T XC st q t mc ms free
/-- a callee that returns or throws -/
def vx_Met (l : Launch) (y : MethodName) (ws : List Cond) (rm : Room) (Pc : Array Value → State → Prop) (Qc : Array Value → State → Outcome → State → Prop) (XC : String → State → State → Prop) (mc ms : Nat) (free : Addr → Prop) : Prop :=
  MetFree l y (headSpec ws rm) Pc (fun _ _ _ _ _ => True) (vx_Q Qc XC mc ms free)
def vx_Post (XC : String → State → State → Prop) (mc ms : Nat) (free : Addr → Prop) : Pt → Array Value → Addr → Pt → Prop := fun A a q B =>
  ∃ (g : JFrame) (mk : MethodId) (t : State) (L : List Loc) (E : String) (ce : Cell), B.U.heap = t.heap ∧ B.U.vm = t.vm ∧ XC E (A.U.calling g mk a) t ∧ t.heap[q]? = some ce ∧ ce.vm = .none ∧ A.U.vm.findClass E = some ce.cls ∧ B.locs = A.locs ++ L ∧ (∀ z ∈ L, free z.base) ∧ B.cells = A.cells + mc ∧ B.slots = A.slots + ms
def vx_Back (l : Launch) (R : Room) (p : Program) (e : Env) (below : List Frame) (s : State) (sargs : Array Value) (y : MethodName) (len W9 : Nat)
    (Pre : Pt → Array Value → Prop) (Post : Pt → Array Value → Option Value → Pt → Prop) (PostX : Pt → Array Value → Addr → Pt → Prop) : Prop :=
  ∀ (m : MethodId) (meth : Method) (c : Code) (A : Pt) (g : JFrame) (ig : Instr) (mk : MethodId) (a : Array Value),
    Stand p l e R s m sargs below meth c A.U A.locs A.cells A.slots → g.method = m → g.locals.size = c.maxLocals → decode c.code g.pc = .ok (ig, len) →
    2 * g.monitorRoom + (g.stack.map fun v => v.category).sum ≤ W9 → A.U.methodNamed? y = some mk → Pre A a →
    (∃ (v : Option Value) (B : Pt), Stand p l e R s m sargs below meth c B.U B.locs B.cells B.slots ∧ Post A a v B ∧
      Steps p.tables e below (doInvoke e (A.U.setTop g) [] mk a).1 (B.U.setTop { g with pc := g.pc + len, stack := v.toList ++ g.stack })) ∨
    (∃ (q : Addr) (B : Pt), Stand p l e R s m sargs below meth c B.U B.locs B.cells B.slots ∧ PostX A a q B ∧
      Steps p.tables e below (doInvoke e (A.U.setTop g) [] mk a).1 ((B.U.setTop g).pushFrame (.throwing q)))
section Payer
variable {l : Launch} {R : Room} {p : Program} {e : Env} {below : List Frame} {s : State} {sargs : Array Value} {y : MethodName} {len W9 : Nat}
theorem vx_back {ws : List Cond} {rm : Room} {Pc : Array Value → State → Prop} {Qc : Array Value → State → Outcome → State → Prop} {XC : String → State → State → Prop} {mc ms : Nat} {free : Addr → Prop} {bytes : ByteArray} {maxL : Nat} {ret : Option FieldType}
    (hM : vx_Met l y ws rm Pc Qc XC mc ms free) (hblind : FrameBlind Pc) (hrc : rm.cells = mc) (hrs : rm.slots = ms)
    (hframes : rm.frames + 1 ≤ R.frames) (hlocals : W9 + (maxL + 11) + rm.locals ≤ R.locals)
    (hws : ∀ w ∈ ws, ∀ a' U, s.WarmedH U.vm → w.before a' U = true) (hcode : Cond.code y bytes maxL ret ∈ ws) (hinit : ∀ a' U, s.WarmedH U.vm → (Cond.initialized y.cls).before a' U = true) :
    vx_Back l R p e below s sargs y len W9 (PreOf R mc ms Pc) (PostOf Qc mc ms free) (vx_Post XC mc ms free) := by
  intro m meth c A g ig mk a X hg hsize hdg hW hn hp
  have h1 : (headSpec ws rm).pre.before a A.U = true := atoms_intro fun w hw => hws w hw _ _ X.warmed
  have h2 : (Cond.code y bytes maxL ret).before a A.U = true := hws _ hcode _ _ X.warmed
  have h3 : (Cond.initialized y.cls).before a A.U = true := hinit _ _ X.warmed
  have h4 : A.cells + (headSpec ws rm).room.cells ≤ R.cells := by rw [show (headSpec ws rm).room.cells = mc from hrc]; exact hp.1
  have h5 : A.slots + (headSpec ws rm).room.slots ≤ R.slots := by rw [show (headSpec ws rm).room.slots = ms from hrs]; exact hp.2.1
  have hPc : Pc a (A.U.calling g mk a) := hblind _ _ _ _ hp.2.2
  obtain ⟨U, Ls, c0, s0⟩ := A
  dsimp only [Pt.U, Pt.locs, Pt.cells, Pt.slots] at h1 h2 h3 h4 h5 X hn hPc ⊢
  obtain ⟨methY, cY, hmY, hcY, -, hlY, -, -, -, -⟩ := Cond.code_spec hn h2
  obtain ⟨kY, hkY, -⟩ := className_of_methodNamed hn
  have hinitY : kY.init = .initialized := Cond.initialized_spec (findClass_of_methodNamed hn) hkY h3
  have h : At U g.method c below := by rw [hg]; exact X.here
  have hlocals9 : W9 + (maxL + 11) + (headSpec ws rm).room.locals ≤ R.locals := hlocals
  have happ : (headSpec ws rm).appliesLoose y e.platform (U.calling g mk a) = true :=
    Spec.appliesLoose_calling (g := g) h hdg hn hkY hinitY
      (X.room_calling (g := g) (R' := (headSpec ws rm).room) hsize hmY hcY hframes (by rw [hlY]; omega) h4 h5) h1
  obtain ⟨mid, hmid⟩ := h.above
  have hfr : (U.setTop g).frames = (.java g :: mid) ++ below := by rw [State.frames_setTop' g h.top, hmid]; rfl
  obtain ⟨o, s₂, hsteps, -, hend, hq⟩ := Steps.callFree hM p X.admits X.cas X.clock (acts := []) hfr happ hPc trivial
  have hq' : vx_Q Qc XC mc ms free a (U.calling g mk a) o s₂ := hq
  rw [State.frames_setTop' g h.top] at hend
  obtain ⟨g₀, hg0⟩ := Option.isSome_iff_exists.mp h.top
  obtain ⟨r, hr⟩ := State.topJava?_eq_some.mp hg0
  have hr' : (({ U with heap := s₂.heap, slotsUsed := s₂.slotsUsed } : State).setVm s₂.vm).frames = .java g₀ :: r := hr
  rcases hq' with ⟨hqc, L, hfe, hL⟩ | ⟨q, rfl, E, ce, L, hx, hce, hcv, hcl, hW₂, hsm, hL⟩
  · obtain ⟨⟨v, rfl⟩, hW₂, e2, q2, q3, q4, q5, q6⟩ := id hfe
    have e3 : s₂ = ({ (U.calling g mk a).setFrames s₂.frames with heap := s₂.heap, slotsUsed := s₂.slotsUsed } : State).setVm s₂.vm := by
      have : s₂ = ({ s₂ with vm := (U.calling g mk a).vm } : State).setVm s₂.vm := rfl
      rw [e2] at this
      exact this
    obtain ⟨c₂, i₂, len₂, hc₂, hd₂, hf₂⟩ := hend
    have hW' : U.WarmedH s₂.vm := hW₂
    have hcc : c₂ = c := by
      have h1 : s₂.code? g.method = U.code? g.method := by
        rw [State.code?_eq, State.code?_eq, hW'.alike.method?]
      exact Option.some.inj (hc₂.symm.trans (h1.trans h.code))
    subst hcc
    have hlen : len₂ = len := by rw [hdg] at hd₂; cases hd₂; rfl
    subst hlen
    have hs₂ : s₂ = (({ U with heap := s₂.heap, slotsUsed := s₂.slotsUsed } : State).setVm s₂.vm).setTop { g with pc := g.pc + len₂, stack := v.toList ++ g.stack } := by
      refine e3.trans ?_
      rw [hf₂, State.calling_eq h.top, State.setFrames_setFrames, State.setTop_of_frames _ hr', hr]
      rfl
    have hsame : U.sameButNew ({ U with heap := s₂.heap, slotsUsed := s₂.slotsUsed } : State) L mc ms := by
      refine ⟨?_, q2, q3, q4, q5, q6⟩
      obtain ⟨t, ht, -⟩ := State.frames_cons hr
      show ({ U with heap := s₂.heap, slotsUsed := s₂.slotsUsed } : State) = { U.setFrames U.frames with heap := s₂.heap, slotsUsed := s₂.slotsUsed }
      rw [State.setFrames_self ht]
    subst hg
    refine Or.inl ⟨v, ⟨(({ U with heap := s₂.heap, slotsUsed := s₂.slotsUsed } : State).setVm s₂.vm), Ls ++ L, c0 + mc, s0 + ms⟩,
      ⟨X.admits, X.cas, X.clock, X.frames, X.room, X.hears, X.method, X.code, (X.here.setHeapUsed s₂.heap s₂.slotsUsed).setVm hW'.alike, X.tail, State.WarmedH.trans X.warmed hW', X.limits, X.bytes, X.same.trans (hsame.setVm s.vm)⟩,
      ⟨g, mk, s₂, L, rfl, rfl, hqc, rfl, hL, rfl, rfl⟩, ?_⟩
    show Steps p.tables e below _ ((({ U with heap := s₂.heap, slotsUsed := s₂.slotsUsed } : State).setVm s₂.vm).setTop { g with pc := g.pc + len₂, stack := v.toList ++ g.stack })
    rw [← hs₂]
    exact hsteps
  · obtain ⟨e2, q2, q3, q4, q5, q6⟩ := id hsm
    have e3 : s₂ = ({ (U.calling g mk a).setFrames s₂.frames with heap := s₂.heap, slotsUsed := s₂.slotsUsed } : State).setVm s₂.vm := by
      have : s₂ = ({ s₂ with vm := (U.calling g mk a).vm } : State).setVm s₂.vm := rfl
      rw [e2] at this
      exact this
    have hf₂ : s₂.frames = .throwing q :: .java g :: U.frames.tail := hend
    have hW' : U.WarmedH s₂.vm := hW₂
    have hs₂ : s₂ = ((({ U with heap := s₂.heap, slotsUsed := s₂.slotsUsed } : State).setVm s₂.vm).setTop g).pushFrame (.throwing q) := by
      refine e3.trans ?_
      rw [hf₂, State.calling_eq h.top, State.setFrames_setFrames, State.pushFrame, State.frames_setTop _ hr', State.setTop_of_frames _ hr', State.setFrames_setFrames, hr]
      rfl
    have hsame : U.sameButNew ({ U with heap := s₂.heap, slotsUsed := s₂.slotsUsed } : State) L mc ms := by
      refine ⟨?_, q2, q3, q4, q5, q6⟩
      obtain ⟨t, ht, -⟩ := State.frames_cons hr
      show ({ U with heap := s₂.heap, slotsUsed := s₂.slotsUsed } : State) = { U.setFrames U.frames with heap := s₂.heap, slotsUsed := s₂.slotsUsed }
      rw [State.setFrames_self ht]
    subst hg
    refine Or.inr ⟨q, ⟨(({ U with heap := s₂.heap, slotsUsed := s₂.slotsUsed } : State).setVm s₂.vm), Ls ++ L, c0 + mc, s0 + ms⟩,
      ⟨X.admits, X.cas, X.clock, X.frames, X.room, X.hears, X.method, X.code, (X.here.setHeapUsed s₂.heap s₂.slotsUsed).setVm hW'.alike, X.tail, State.WarmedH.trans X.warmed hW', X.limits, X.bytes, X.same.trans (hsame.setVm s.vm)⟩,
      ⟨g, mk, s₂, L, E, ce, rfl, rfl, hx, hce, hcv, hcl, rfl, hL, rfl, rfl⟩, ?_⟩
    show Steps p.tables e below _ (((({ U with heap := s₂.heap, slotsUsed := s₂.slotsUsed } : State).setVm s₂.vm).setTop g).pushFrame (.throwing q))
    rw [← hs₂]
    exact hsteps
end Payer
section Calls
variable {p : Program} {l : Launch} {e : Env} {R : Room} {s : State} {m : MethodId} {args : Array Value} {below : List Frame} {meth : Method} {c : Code} {T : State} {locs : List Loc} {cells slots : Nat}
theorem vx_callV (X : Stand p l e R s m args below meth c T locs cells slots) (hexec : p.tables.exec = Jvm.exec) {own C : String} {index : Nat} {y : MethodName} {bytes : ByteArray} {maxL : Nat} {ret : Option FieldType}
    (hown : s.vm.findClass own = some m.cls) (hlink : (Cond.methodLink own index y).before args s = true) (hinst : (Cond.instanceMethod y).before args s = true) (hsel : (Cond.selects C y y).before args s = true)
    (hcode : (Cond.code y bytes maxL ret).before args s = true) (hy : y.cls ≠ "java/lang/invoke/MethodHandle" ∧ y.cls ≠ "java/lang/invoke/VarHandle")
    {W9 : Nat} {Pre : Pt → Array Value → Prop} {Post : Pt → Array Value → Option Value → Pt → Prop} {PostX : Pt → Array Value → Addr → Pt → Prop} (hK : vx_Back l R p e below s args y 3 W9 Pre Post PostX)
    {b : Addr} {cellB : Cell} (hcell : T.heap[b]? = some cellB) (hobj : cellB.vm.isStatics = false) (hcls : s.vm.findClass C = some cellB.cls)
    {g : JFrame} (hg : g.method = m) (hsize : g.locals.size = c.maxLocals) {argsL rest : List Value} (hlen : ∀ sig, parseMethodDescriptor y.desc = some sig → argsL.length = sig.parameters.length)
    (hstack : g.stack = argsL.reverse ++ .ref b :: rest) (hW : 2 * g.monitorRoom + (rest.map fun v => v.category).sum ≤ W9) (hdg : decode c.code g.pc = .ok (.invokevirtual index, 3))
    (hpre : ∀ vm₁, s.WarmedH vm₁ → Pre ⟨T.setVm vm₁, locs, cells, slots⟩ (Value.ref b :: argsL).toArray) :
    (∃ (v : Option Value) (vm₁ : Vm) (B : Pt), s.WarmedH vm₁ ∧ Stand p l e R s m args below meth c B.U B.locs B.cells B.slots ∧ Post ⟨T.setVm vm₁, locs, cells, slots⟩ (Value.ref b :: argsL).toArray v B ∧
      ∀ target, Steps p.tables e below (B.U.setTop { g with pc := g.pc + 3, stack := v.toList ++ rest }) target → Steps p.tables e below (T.setTop g) target) ∨
    (∃ (q : Addr) (vm₁ : Vm) (B : Pt), s.WarmedH vm₁ ∧ Stand p l e R s m args below meth c B.U B.locs B.cells B.slots ∧ PostX ⟨T.setVm vm₁, locs, cells, slots⟩ (Value.ref b :: argsL).toArray q B ∧
      Steps p.tables e below (T.setTop g) ((B.U.setTop { g with stack := rest }).pushFrame (.throwing q))) := by
  obtain ⟨mk, methM, hnamed, hmethM, hstM, habM⟩ := Cond.instanceMethod_spec hinst
  obtain ⟨methM', cM, hmethM', -, -, -, -, -, -, hsigM⟩ := Cond.code_spec hnamed hcode
  cases hmethM.symm.trans hmethM'
  obtain ⟨c2, r2, m2, q1, q2, q3, q4, kP, hkP, hkPi⟩ := Cond.selects_spec hsel
  cases hcls.symm.trans q1
  cases (State.methodFound?_of_named hnamed hy).symm.trans q2
  cases hnamed.symm.trans q3
  have hselP : selectMethod e.platform s.vm cellB.cls mk = .method mk := by rw [Launch.admits_selectMethod X.admits]; exact q4
  obtain ⟨vm₁, X₁, hstep₁⟩ := X.invokevirtual hexec hown hlink hnamed hmethM hstM hkP hkPi hy (a := b) (cell := cellB) hcell
    (fun z h => by rw [h] at hobj; cases hobj) hselP hmethM habM hkP hkPi (g := g) hg (argsL := argsL) (rest := rest) (hlen _ hsigM) hstack hdg
  rcases hK m meth c ⟨T.setVm vm₁, locs, cells, slots⟩ { g with stack := rest } (.invokevirtual index) mk (Value.ref b :: argsL).toArray X₁ hg hsize hdg hW (X₁.named hnamed) (hpre vm₁ X₁.warmed) with ⟨v, B, X', hpost, hsteps⟩ | ⟨q, B, X', hpost, hsteps⟩
  · exact Or.inl ⟨v, vm₁, B, X₁.warmed, X', hpost, fun target h => hstep₁ _ fun acts => by rw [doInvoke_state]; exact hsteps.trans h⟩
  · exact Or.inr ⟨q, vm₁, B, X₁.warmed, X', hpost, hstep₁ _ fun acts => by rw [doInvoke_state]; exact hsteps⟩
theorem vx_callS (X : Stand p l e R s m args below meth c T locs cells slots) (hexec : p.tables.exec = Jvm.exec) {own : String} {index : Nat} {y : MethodName} {bytes : ByteArray} {maxL : Nat} {ret : Option FieldType}
    (hown : s.vm.findClass own = some m.cls) (hlink : (Cond.methodLink own index y).before args s = true) (hstat : (Cond.static y).before args s = true) (hinit : (Cond.initialized y.cls).before args s = true)
    (hcode : (Cond.code y bytes maxL ret).before args s = true) (hy : y.cls ≠ "java/lang/invoke/MethodHandle" ∧ y.cls ≠ "java/lang/invoke/VarHandle")
    {W9 : Nat} {Pre : Pt → Array Value → Prop} {Post : Pt → Array Value → Option Value → Pt → Prop} {PostX : Pt → Array Value → Addr → Pt → Prop} (hK : vx_Back l R p e below s args y 3 W9 Pre Post PostX)
    {g : JFrame} (hg : g.method = m) (hsize : g.locals.size = c.maxLocals) {argsL rest : List Value} (hlen : ∀ sig, parseMethodDescriptor y.desc = some sig → argsL.length = sig.parameters.length)
    (hstack : g.stack = argsL.reverse ++ rest) (hW : 2 * g.monitorRoom + (rest.map fun v => v.category).sum ≤ W9) (hdg : decode c.code g.pc = .ok (.invokestatic index, 3))
    (hpre : ∀ vm₁, s.WarmedH vm₁ → Pre ⟨T.setVm vm₁, locs, cells, slots⟩ argsL.toArray) :
    (∃ (v : Option Value) (vm₁ : Vm) (B : Pt), s.WarmedH vm₁ ∧ Stand p l e R s m args below meth c B.U B.locs B.cells B.slots ∧ Post ⟨T.setVm vm₁, locs, cells, slots⟩ argsL.toArray v B ∧
      ∀ target, Steps p.tables e below (B.U.setTop { g with pc := g.pc + 3, stack := v.toList ++ rest }) target → Steps p.tables e below (T.setTop g) target) ∨
    (∃ (q : Addr) (vm₁ : Vm) (B : Pt), s.WarmedH vm₁ ∧ Stand p l e R s m args below meth c B.U B.locs B.cells B.slots ∧ PostX ⟨T.setVm vm₁, locs, cells, slots⟩ argsL.toArray q B ∧
      Steps p.tables e below (T.setTop g) ((B.U.setTop { g with stack := rest }).pushFrame (.throwing q))) := by
  obtain ⟨mk, hnamed⟩ := Cond.code_named hcode
  obtain ⟨methM, cM, hmethM, -, -, -, -, -, -, hsigM⟩ := Cond.code_spec hnamed hcode
  have hstatic : methM.isStatic = true := Cond.static_spec hnamed hmethM hstat
  obtain ⟨kP, hkP, -⟩ := className_of_methodNamed hnamed
  have hinitP : kP.init = .initialized := Cond.initialized_spec (findClass_of_methodNamed hnamed) hkP hinit
  obtain ⟨vm₁, X₁, hstep₁⟩ := X.invokestatic hexec hown hlink hnamed hmethM hstatic hkP hinitP hy (g := g) hg (argsL := argsL) (rest := rest) (hlen _ hsigM) hstack hdg
  rcases hK m meth c ⟨T.setVm vm₁, locs, cells, slots⟩ { g with stack := rest } (.invokestatic index) mk argsL.toArray X₁ hg hsize hdg hW (X₁.named hnamed) (hpre vm₁ X₁.warmed) with ⟨v, B, X', hpost, hsteps⟩ | ⟨q, B, X', hpost, hsteps⟩
  · exact Or.inl ⟨v, vm₁, B, X₁.warmed, X', hpost, fun target h => hstep₁ _ fun acts => by rw [doInvoke_state]; exact hsteps.trans h⟩
  · exact Or.inr ⟨q, vm₁, B, X₁.warmed, X', hpost, hstep₁ _ fun acts => by rw [doInvoke_state]; exact hsteps⟩
end Calls
theorem vx_cls {s : State} {T : State} {vm₁ : Vm} {E : String} {k : ClassId} (hW : s.WarmedH vm₁) (h : (T.setVm vm₁).vm.findClass E = some k) : s.vm.findClass E = some k := by
  have h1 : vm₁.findClass E = some k := h
  rw [hW.alike.findClass] at h1
  exact h1
/-- the method's frame g, with q thrown over it -/
def vx_W (p : Program) (l : Launch) (e : Env) (R : Room) (s : State) (m : MethodId) (args : Array Value) (below : List Frame) (meth : Method) (c : Code) (H : Heap) (locs : List Loc) (cells slots : Nat) (Q : State → Prop) (g : JFrame) (q : Addr) : Prop :=
  ∀ T : State, T.heap = H → Stand p l e R s m args below meth c T locs cells slots → ∃ t, Steps p.tables e below ((T.setTop g).pushFrame (.throwing q)) t ∧ Q t
def vx_Run (p : Program) (l : Launch) (e : Env) (R : Room) (s : State) (m : MethodId) (args : Array Value) (below : List Frame) (meth : Method) (c : Code) (H : Heap) (locs : List Loc) (cells slots mc ms : Nat) (g : JFrame) (rest : List Value) (Qa : State → Outcome → State → Prop) (XC : String → State → State → Prop) (free : Addr → Prop) : Prop :=
  ∀ T : State, T.heap = H → Stand p l e R s m args below meth c T locs cells slots →
    (∃ (v : Option Value) (st₀ t T' : State) (L : List Loc), st₀.heap = H ∧ Stand p l e R s m args below meth c T' (locs ++ L) (cells + mc) (slots + ms) ∧ (∀ q ∈ L, free q.base) ∧ T'.heap = t.heap ∧ T'.vm = t.vm ∧ Qa st₀ (.returned v) t ∧
      Goes p e below T g T' { g with pc := g.pc + 3, stack := v.toList ++ rest }) ∨
    (∃ (q : Addr) (st₀ t T' : State) (L : List Loc) (E : String) (ce : Cell), st₀.heap = H ∧ Stand p l e R s m args below meth c T' (locs ++ L) (cells + mc) (slots + ms) ∧ (∀ z ∈ L, free z.base) ∧ T'.heap = t.heap ∧ T'.vm = t.vm ∧ XC E st₀ t ∧ t.heap[q]? = some ce ∧ ce.vm = .none ∧ s.vm.findClass E = some ce.cls ∧
      Steps p.tables e below (T.setTop g) ((T'.setTop { g with stack := rest }).pushFrame (.throwing q)))
def vx_X {S : Type} (px : S → Prop) (B : String → S → State → Prop) (A : Nat → Prop) : String → State → State → Prop := fun E st t => ∃ u : S, px u ∧ B E u t ∧ va_F A st t
section Runs
variable {p : Program} {l : Launch} {e : Env} {R : Room} {s : State} {m : MethodId} {args : Array Value} {below : List Frame} {meth : Method} {c : Code} {H : Heap} {locs : List Loc} {cells slots : Nat}
variable {y : MethodName} {bytes cc : ByteArray} {maxL nL mc ms n index : Nat} {ret : Option FieldType} {ws : List Cond} {rm : Room} {Pc : Array Value → State → Prop} {Qc : Array Value → State → Outcome → State → Prop} {XC : String → State → State → Prop} {free : Addr → Prop} {Ts : List Cond} {own C : String} {b : Addr} {As rest : List Value} {g : JFrame}
theorem vx_callBack (cb : CallB R s args own index y bytes maxL ret ws rm mc ms n) (hM : vx_Met l y ws rm Pc Qc XC mc ms free) (hbl : FrameBlind Pc) : vx_Back l R p e below s args y 3 8 (PreOf R mc ms Pc) (PostOf Qc mc ms free) (vx_Post XC mc ms free) := by
  obtain ⟨hrc, hrs, hfr, hlo, hws, hcw, -, hini, -⟩ := cb
  exact vx_back (bytes := bytes) (maxL := maxL) (ret := ret) hM hbl hrc hrs hfr hlo hws hcw (fun a' U hW => word_at hW (Or.inl (by first | rfl | simp [Cond.onTables, Cond.keeps, Cond.steady])) hini)
theorem vx_runV (S : CallFix p m c cc nL s args Ts own) (hM : vx_Met l y ws rm Pc Qc XC mc ms free) (cw : CallW R s args own C index y bytes maxL ret ws rm mc ms n) (hp : PreV s H C b Pc As)
    (hg : g.method = m) (hn : As.length = n) (hsize : g.locals.size = nL) (hstack : g.stack = As.reverse ++ .ref b :: rest) (hW : 2 * g.monitorRoom + (rest.map fun v => v.category).sum ≤ 8) (hdg : decode cc g.pc = .ok (.invokevirtual index, 3)) (hf : cells + mc ≤ R.cells ∧ slots + ms ≤ R.slots) :
    vx_Run p l e R s m args below meth c H locs cells slots mc ms g rest (Qc (Value.ref b :: As).toArray) XC free := by
  have hK : vx_Back l R p e below s args y 3 8 (PreOf R mc ms Pc) (PostOf Qc mc ms free) (vx_Post XC mc ms free) := vx_callBack cw.1 hM hp.1
  obtain ⟨⟨-, -, -, -, -, -, hcode, -, hy, hlen, hl⟩, hin, hse⟩ := cw
  obtain ⟨hx, hb, hml, ho, -⟩ := S
  obtain ⟨-, ⟨cellB, hcB, hoB, hclB⟩, hPc⟩ := hp
  intro T hT X
  rcases vx_callV X hx (C := C) (bytes := bytes) (maxL := maxL) (ret := ret) ho hl hin hse hcode hy hK (by rw [hT]; exact hcB) hoB hclB hg (hsize.trans hml.symm) (argsL := As) (rest := rest) (fun sig h => hn.trans (hlen sig h)) hstack hW (by rw [hb]; exact hdg)
    (fun vm₁ hW₁ => ⟨hf.1, hf.2, hPc (T.setVm vm₁) hT hW₁⟩) with ⟨v, vm₁, ⟨U', l2, c2, s2⟩, hW₁, X', ⟨g', mk, t, L, e1, e2, hq, h1, hL, h2, h3⟩, st⟩ | ⟨q, vm₁, ⟨U', l2, c2, s2⟩, hW₁, X', ⟨g', mk, t, L, E, ce, e1, e2, hq, hce, hcv, hcl, h1, hL, h2, h3⟩, st⟩
  · dsimp only [Pt.U, Pt.locs, Pt.cells, Pt.slots] at X' e1 e2 h1 h2 h3 st
    subst h1; subst h2; subst h3
    exact Or.inl ⟨v, (T.setVm vm₁).calling g' mk (Value.ref b :: As).toArray, t, U', L, hT, X', hL, e1, e2, hq, st⟩
  · dsimp only [Pt.U, Pt.locs, Pt.cells, Pt.slots] at X' e1 e2 h1 h2 h3 st hcl
    subst h1; subst h2; subst h3
    exact Or.inr ⟨q, (T.setVm vm₁).calling g' mk (Value.ref b :: As).toArray, t, U', L, E, ce, hT, X', hL, e1, e2, hq, hce, hcv, vx_cls hW₁ hcl, st⟩
theorem vx_runS (S : CallFix p m c cc nL s args Ts own) (hM : vx_Met l y ws rm Pc Qc XC mc ms free) (cw : CallB R s args own index y bytes maxL ret ws rm mc ms n ∧ (Cond.static y).before args s = true) (hp : PreS s H Pc As)
    (hg : g.method = m) (hn : As.length = n) (hsize : g.locals.size = nL) (hstack : g.stack = As.reverse ++ rest) (hW : 2 * g.monitorRoom + (rest.map fun v => v.category).sum ≤ 8) (hdg : decode cc g.pc = .ok (.invokestatic index, 3)) (hf : cells + mc ≤ R.cells ∧ slots + ms ≤ R.slots) :
    vx_Run p l e R s m args below meth c H locs cells slots mc ms g rest (Qc As.toArray) XC free := by
  have hK : vx_Back l R p e below s args y 3 8 (PreOf R mc ms Pc) (PostOf Qc mc ms free) (vx_Post XC mc ms free) := vx_callBack cw.1 hM hp.1
  obtain ⟨⟨-, -, -, -, -, -, hcode, hini, hy, hlen, hl⟩, hstt⟩ := cw
  obtain ⟨hx, hb, hml, ho, -⟩ := S
  intro T hT X
  rcases vx_callS X hx (bytes := bytes) (maxL := maxL) (ret := ret) ho hl hstt hini hcode hy hK hg (hsize.trans hml.symm) (argsL := As) (rest := rest) (fun sig h => hn.trans (hlen sig h)) hstack hW (by rw [hb]; exact hdg)
    (fun vm₁ hW₁ => ⟨hf.1, hf.2, hp.2 (T.setVm vm₁) hT hW₁⟩) with ⟨v, vm₁, ⟨U', l2, c2, s2⟩, hW₁, X', ⟨g', mk, t, L, e1, e2, hq, h1, hL, h2, h3⟩, st⟩ | ⟨q, vm₁, ⟨U', l2, c2, s2⟩, hW₁, X', ⟨g', mk, t, L, E, ce, e1, e2, hq, hce, hcv, hcl, h1, hL, h2, h3⟩, st⟩
  · dsimp only [Pt.U, Pt.locs, Pt.cells, Pt.slots] at X' e1 e2 h1 h2 h3 st
    subst h1; subst h2; subst h3
    exact Or.inl ⟨v, (T.setVm vm₁).calling g' mk As.toArray, t, U', L, hT, X', hL, e1, e2, hq, st⟩
  · dsimp only [Pt.U, Pt.locs, Pt.cells, Pt.slots] at X' e1 e2 h1 h2 h3 st hcl
    subst h1; subst h2; subst h3
    exact Or.inr ⟨q, (T.setVm vm₁).calling g' mk As.toArray, t, U', L, E, ce, hT, X', hL, e1, e2, hq, hce, hcv, vx_cls hW₁ hcl, st⟩
end Runs
section Rows
variable {p : Program} {l : Launch} {e : Env} {R : Room} {s : State} {m : MethodId} {args : Array Value} {below : List Frame} {meth : Method} {c : Code} {H : Heap} {locs : List Loc} {cells slots : Nat} {Q : State → Prop}
variable {mc ms : Nat} {free : Addr → Prop} {A0 A1 : Nat → Prop} {H0 : Heap} {a : Array Value} {pc : Nat} {ls : Array Slot} {st0 rest : List Value}
theorem vx_keep {st₀ t T' : State} {L : List Loc} (h0 : st₀.heap = H) (e1 : T'.heap = t.heap) (hS : va_S A0 H0 H locs) (hA : ∀ q, q < H.size → A1 q → A0 q) (hf : ∀ q, free q → A0 q) (hL : ∀ q ∈ L, free q.base) (hF : va_F A1 st₀ t) :
    H.size ≤ T'.heap.size ∧ (∀ q : Nat, q < H.size → ¬ A1 q → T'.heap[q]? = H[q]?) ∧ va_S A0 H0 T'.heap (locs ++ L) := by
  obtain ⟨hz, hk⟩ := hF
  rw [h0] at hz hk
  exact ⟨by rw [e1]; exact hz, fun q h1 h2 => by rw [e1]; exact hk q h1 h2,
    ⟨Nat.le_trans hS.1 (by rw [e1]; exact hz), fun q h1 h2 => by rw [e1, hk q (Nat.lt_of_lt_of_le h1 hS.1) (fun z => h2 (hA q (Nat.lt_of_lt_of_le h1 hS.1) z))]; exact hS.2.1 q h1 h2, fun q hq => by
      rcases List.mem_append.mp hq with h | h
      · exact hS.2.2 q h
      · exact hf _ (hL q h)⟩⟩
theorem vx_calli {S SX : Type} {post : Int32 → S → Prop} {px : SX → Prop} {B : S → State → Prop} {BX : String → SX → State → Prop} {AX : Nat → Prop} (hr : vx_Run p l e R s m args below meth c H locs cells slots mc ms (F0 m pc ls st0) rest (va_Qi post B A1 a) (vx_X px BX AX) free) (hS : va_S A0 H0 H locs) (hA : ∀ q, q < H.size → A1 q → A0 q) (hf : ∀ q, free q → A0 q) (hAX : ∀ q, q < H.size → AX q → A0 q)
    (kx : ∀ (E : String) (ce : Cell) (q9 : Addr) (u : SX) (t : State) (H1 : Heap) (locs1 : List Loc), t.heap = H1 → s.vm.Alike t.vm → px u → BX E u t → H.size ≤ H1.size → (∀ q : Nat, q < H.size → ¬ AX q → H1[q]? = H[q]?) → va_S A0 H0 H1 locs1 → H1[q9]? = some ce → ce.vm = .none → s.vm.findClass E = some ce.cls → vx_W p l e R s m args below meth c H1 locs1 (cells + mc) (slots + ms) Q (F0 m pc ls rest) q9)
    (kk : ∀ (r : Int32) (u : S) (t : State) (H1 : Heap) (locs1 : List Loc), t.heap = H1 → s.vm.Alike t.vm → post r u → B u t → H.size ≤ H1.size → (∀ q : Nat, q < H.size → ¬ A1 q → H1[q]? = H[q]?) → va_S A0 H0 H1 locs1 → W p l e R s m args below meth c H1 locs1 (cells + mc) (slots + ms) Q (F0 m (pc + 3) ls (.int r :: rest))) : W p l e R s m args below meth c H locs cells slots Q (F0 m pc ls st0) := by
  intro T hT X
  rcases hr T hT X with ⟨v, st₀, t, T', L, h0, X', hL, e1, e2, ⟨⟨r, u, hv, hp, hb⟩, hF⟩, st⟩ | ⟨q, st₀, t, T', L, E, ce, h0, X', hL, e1, e2, ⟨u, hp, hb, hF⟩, hce, hcv, hcl, st⟩
  · cases hv
    obtain ⟨k1, k2, k3⟩ := vx_keep h0 e1 hS hA hf hL hF
    obtain ⟨t2, a1, b1⟩ := kk r u t T'.heap (locs ++ L) e1.symm (by rw [← e2]; exact X'.warmed.alike) hp hb k1 k2 k3 T' rfl X'
    exact ⟨t2, st t2 a1, b1⟩
  · obtain ⟨k1, k2, k3⟩ := vx_keep h0 e1 hS hAX hf hL hF
    obtain ⟨t2, a1, b1⟩ := kx E ce q u t T'.heap (locs ++ L) e1.symm (by rw [← e2]; exact X'.warmed.alike) hp hb k1 k2 k3 (by rw [e1]; exact hce) hcv hcl T' rfl X'
    exact ⟨t2, st.trans a1, b1⟩
theorem vx_calll {S SX : Type} {post : Int64 → S → Prop} {px : SX → Prop} {B : S → State → Prop} {BX : String → SX → State → Prop} {AX : Nat → Prop} (hr : vx_Run p l e R s m args below meth c H locs cells slots mc ms (F0 m pc ls st0) rest (va_Ql post B A1 a) (vx_X px BX AX) free) (hS : va_S A0 H0 H locs) (hA : ∀ q, q < H.size → A1 q → A0 q) (hf : ∀ q, free q → A0 q) (hAX : ∀ q, q < H.size → AX q → A0 q)
    (kx : ∀ (E : String) (ce : Cell) (q9 : Addr) (u : SX) (t : State) (H1 : Heap) (locs1 : List Loc), t.heap = H1 → s.vm.Alike t.vm → px u → BX E u t → H.size ≤ H1.size → (∀ q : Nat, q < H.size → ¬ AX q → H1[q]? = H[q]?) → va_S A0 H0 H1 locs1 → H1[q9]? = some ce → ce.vm = .none → s.vm.findClass E = some ce.cls → vx_W p l e R s m args below meth c H1 locs1 (cells + mc) (slots + ms) Q (F0 m pc ls rest) q9)
    (kk : ∀ (r : Int64) (u : S) (t : State) (H1 : Heap) (locs1 : List Loc), t.heap = H1 → s.vm.Alike t.vm → post r u → B u t → H.size ≤ H1.size → (∀ q : Nat, q < H.size → ¬ A1 q → H1[q]? = H[q]?) → va_S A0 H0 H1 locs1 → W p l e R s m args below meth c H1 locs1 (cells + mc) (slots + ms) Q (F0 m (pc + 3) ls (.long r :: rest))) : W p l e R s m args below meth c H locs cells slots Q (F0 m pc ls st0) := by
  intro T hT X
  rcases hr T hT X with ⟨v, st₀, t, T', L, h0, X', hL, e1, e2, ⟨⟨r, u, hv, hp, hb⟩, hF⟩, st⟩ | ⟨q, st₀, t, T', L, E, ce, h0, X', hL, e1, e2, ⟨u, hp, hb, hF⟩, hce, hcv, hcl, st⟩
  · cases hv
    obtain ⟨k1, k2, k3⟩ := vx_keep h0 e1 hS hA hf hL hF
    obtain ⟨t2, a1, b1⟩ := kk r u t T'.heap (locs ++ L) e1.symm (by rw [← e2]; exact X'.warmed.alike) hp hb k1 k2 k3 T' rfl X'
    exact ⟨t2, st t2 a1, b1⟩
  · obtain ⟨k1, k2, k3⟩ := vx_keep h0 e1 hS hAX hf hL hF
    obtain ⟨t2, a1, b1⟩ := kx E ce q u t T'.heap (locs ++ L) e1.symm (by rw [← e2]; exact X'.warmed.alike) hp hb k1 k2 k3 (by rw [e1]; exact hce) hcv hcl T' rfl X'
    exact ⟨t2, st.trans a1, b1⟩
theorem vx_callf {S SX : Type} {post : UInt32 → S → Prop} {px : SX → Prop} {B : S → State → Prop} {BX : String → SX → State → Prop} {AX : Nat → Prop} (hr : vx_Run p l e R s m args below meth c H locs cells slots mc ms (F0 m pc ls st0) rest (va_Qf post B A1 a) (vx_X px BX AX) free) (hS : va_S A0 H0 H locs) (hA : ∀ q, q < H.size → A1 q → A0 q) (hf : ∀ q, free q → A0 q) (hAX : ∀ q, q < H.size → AX q → A0 q)
    (kx : ∀ (E : String) (ce : Cell) (q9 : Addr) (u : SX) (t : State) (H1 : Heap) (locs1 : List Loc), t.heap = H1 → s.vm.Alike t.vm → px u → BX E u t → H.size ≤ H1.size → (∀ q : Nat, q < H.size → ¬ AX q → H1[q]? = H[q]?) → va_S A0 H0 H1 locs1 → H1[q9]? = some ce → ce.vm = .none → s.vm.findClass E = some ce.cls → vx_W p l e R s m args below meth c H1 locs1 (cells + mc) (slots + ms) Q (F0 m pc ls rest) q9)
    (kk : ∀ (r : UInt32) (u : S) (t : State) (H1 : Heap) (locs1 : List Loc), t.heap = H1 → s.vm.Alike t.vm → post r u → B u t → H.size ≤ H1.size → (∀ q : Nat, q < H.size → ¬ A1 q → H1[q]? = H[q]?) → va_S A0 H0 H1 locs1 → W p l e R s m args below meth c H1 locs1 (cells + mc) (slots + ms) Q (F0 m (pc + 3) ls (.float r :: rest))) : W p l e R s m args below meth c H locs cells slots Q (F0 m pc ls st0) := by
  intro T hT X
  rcases hr T hT X with ⟨v, st₀, t, T', L, h0, X', hL, e1, e2, ⟨⟨r, u, hv, hp, hb⟩, hF⟩, st⟩ | ⟨q, st₀, t, T', L, E, ce, h0, X', hL, e1, e2, ⟨u, hp, hb, hF⟩, hce, hcv, hcl, st⟩
  · cases hv
    obtain ⟨k1, k2, k3⟩ := vx_keep h0 e1 hS hA hf hL hF
    obtain ⟨t2, a1, b1⟩ := kk r u t T'.heap (locs ++ L) e1.symm (by rw [← e2]; exact X'.warmed.alike) hp hb k1 k2 k3 T' rfl X'
    exact ⟨t2, st t2 a1, b1⟩
  · obtain ⟨k1, k2, k3⟩ := vx_keep h0 e1 hS hAX hf hL hF
    obtain ⟨t2, a1, b1⟩ := kx E ce q u t T'.heap (locs ++ L) e1.symm (by rw [← e2]; exact X'.warmed.alike) hp hb k1 k2 k3 (by rw [e1]; exact hce) hcv hcl T' rfl X'
    exact ⟨t2, st.trans a1, b1⟩
theorem vx_calld {S SX : Type} {post : UInt64 → S → Prop} {px : SX → Prop} {B : S → State → Prop} {BX : String → SX → State → Prop} {AX : Nat → Prop} (hr : vx_Run p l e R s m args below meth c H locs cells slots mc ms (F0 m pc ls st0) rest (va_Qd post B A1 a) (vx_X px BX AX) free) (hS : va_S A0 H0 H locs) (hA : ∀ q, q < H.size → A1 q → A0 q) (hf : ∀ q, free q → A0 q) (hAX : ∀ q, q < H.size → AX q → A0 q)
    (kx : ∀ (E : String) (ce : Cell) (q9 : Addr) (u : SX) (t : State) (H1 : Heap) (locs1 : List Loc), t.heap = H1 → s.vm.Alike t.vm → px u → BX E u t → H.size ≤ H1.size → (∀ q : Nat, q < H.size → ¬ AX q → H1[q]? = H[q]?) → va_S A0 H0 H1 locs1 → H1[q9]? = some ce → ce.vm = .none → s.vm.findClass E = some ce.cls → vx_W p l e R s m args below meth c H1 locs1 (cells + mc) (slots + ms) Q (F0 m pc ls rest) q9)
    (kk : ∀ (r : UInt64) (u : S) (t : State) (H1 : Heap) (locs1 : List Loc), t.heap = H1 → s.vm.Alike t.vm → post r u → B u t → H.size ≤ H1.size → (∀ q : Nat, q < H.size → ¬ A1 q → H1[q]? = H[q]?) → va_S A0 H0 H1 locs1 → W p l e R s m args below meth c H1 locs1 (cells + mc) (slots + ms) Q (F0 m (pc + 3) ls (.double r :: rest))) : W p l e R s m args below meth c H locs cells slots Q (F0 m pc ls st0) := by
  intro T hT X
  rcases hr T hT X with ⟨v, st₀, t, T', L, h0, X', hL, e1, e2, ⟨⟨r, u, hv, hp, hb⟩, hF⟩, st⟩ | ⟨q, st₀, t, T', L, E, ce, h0, X', hL, e1, e2, ⟨u, hp, hb, hF⟩, hce, hcv, hcl, st⟩
  · cases hv
    obtain ⟨k1, k2, k3⟩ := vx_keep h0 e1 hS hA hf hL hF
    obtain ⟨t2, a1, b1⟩ := kk r u t T'.heap (locs ++ L) e1.symm (by rw [← e2]; exact X'.warmed.alike) hp hb k1 k2 k3 T' rfl X'
    exact ⟨t2, st t2 a1, b1⟩
  · obtain ⟨k1, k2, k3⟩ := vx_keep h0 e1 hS hAX hf hL hF
    obtain ⟨t2, a1, b1⟩ := kx E ce q u t T'.heap (locs ++ L) e1.symm (by rw [← e2]; exact X'.warmed.alike) hp hb k1 k2 k3 (by rw [e1]; exact hce) hcv hcl T' rfl X'
    exact ⟨t2, st.trans a1, b1⟩
theorem vx_callv {S SX : Type} {post : S → Prop} {px : SX → Prop} {B : S → State → Prop} {BX : String → SX → State → Prop} {AX : Nat → Prop} (hr : vx_Run p l e R s m args below meth c H locs cells slots mc ms (F0 m pc ls st0) rest (va_Qv post B A1 a) (vx_X px BX AX) free) (hS : va_S A0 H0 H locs) (hA : ∀ q, q < H.size → A1 q → A0 q) (hf : ∀ q, free q → A0 q) (hAX : ∀ q, q < H.size → AX q → A0 q)
    (kx : ∀ (E : String) (ce : Cell) (q9 : Addr) (u : SX) (t : State) (H1 : Heap) (locs1 : List Loc), t.heap = H1 → s.vm.Alike t.vm → px u → BX E u t → H.size ≤ H1.size → (∀ q : Nat, q < H.size → ¬ AX q → H1[q]? = H[q]?) → va_S A0 H0 H1 locs1 → H1[q9]? = some ce → ce.vm = .none → s.vm.findClass E = some ce.cls → vx_W p l e R s m args below meth c H1 locs1 (cells + mc) (slots + ms) Q (F0 m pc ls rest) q9)
    (kk : ∀ (u : S) (t : State) (H1 : Heap) (locs1 : List Loc), t.heap = H1 → s.vm.Alike t.vm → post u → B u t → H.size ≤ H1.size → (∀ q : Nat, q < H.size → ¬ A1 q → H1[q]? = H[q]?) → va_S A0 H0 H1 locs1 → W p l e R s m args below meth c H1 locs1 (cells + mc) (slots + ms) Q (F0 m (pc + 3) ls (rest))) : W p l e R s m args below meth c H locs cells slots Q (F0 m pc ls st0) := by
  intro T hT X
  rcases hr T hT X with ⟨v, st₀, t, T', L, h0, X', hL, e1, e2, ⟨⟨u, hv, hp, hb⟩, hF⟩, st⟩ | ⟨q, st₀, t, T', L, E, ce, h0, X', hL, e1, e2, ⟨u, hp, hb, hF⟩, hce, hcv, hcl, st⟩
  · cases hv
    obtain ⟨k1, k2, k3⟩ := vx_keep h0 e1 hS hA hf hL hF
    obtain ⟨t2, a1, b1⟩ := kk u t T'.heap (locs ++ L) e1.symm (by rw [← e2]; exact X'.warmed.alike) hp hb k1 k2 k3 T' rfl X'
    exact ⟨t2, st t2 a1, b1⟩
  · obtain ⟨k1, k2, k3⟩ := vx_keep h0 e1 hS hAX hf hL hF
    obtain ⟨t2, a1, b1⟩ := kx E ce q u t T'.heap (locs ++ L) e1.symm (by rw [← e2]; exact X'.warmed.alike) hp hb k1 k2 k3 (by rw [e1]; exact hce) hcv hcl T' rfl X'
    exact ⟨t2, st.trans a1, b1⟩
/-- caught by the row x of this method's table; the rows ahead don't take it -/
theorem vx_catch {own name : String} {E : String} {ce : Cell} {q : Addr} (hown : s.vm.findClass own = some m.cls) (pre : List ExceptionTableEntry) (x : ExceptionTableEntry) (suf : List ExceptionTableEntry) (hsplit : c.exceptionTable.toList = pre ++ x :: suf)
    (hpass : ∀ z ∈ pre, covers z pc = false ∨ (z.catchType ≠ 0 ∧ ∃ nm : String, (Cond.classLink own z.catchType nm).before args s = true ∧ va_Nc E nm s)) (hx : covers x pc = true) (h0 : x.catchType ≠ 0)
    (hlink : (Cond.classLink own x.catchType name).before args s = true) (hcast : (Cond.castable E name).before args s = true) (hcell : H[q]? = some ce) (hv : ce.vm = .none) (hcl : s.vm.findClass E = some ce.cls)
    (kk : W p l e R s m args below meth c H locs cells slots Q (F0 m x.handlerPc ls [.ref q])) : vx_W p l e R s m args below meth c H locs cells slots Q (F0 m pc ls rest) q := by
  intro T hT X
  have hpl : e.platform.magicAccessors = ({} : Platform).magicAccessors := by rw [X.admits.platform]
  obtain ⟨c3, c4, hc3, hc4, hasg⟩ := Cond.castable_spec hcast
  cases Option.some.inj (hc3.symm.trans hcl)
  obtain ⟨c5, hc5, hcl5⟩ := Cond.classLink_spec hown hlink e.platform hpl
  cases Option.some.inj (hc4.symm.trans hc5)
  obtain ⟨vm', X', st⟩ := X.thenCaughtThrough q (g := F0 m pc ls rest) rfl (Steps.refl _) (by rw [hT]; exact hcell) (by rw [hv]; rfl) (by obtain ⟨k9, h9, -⟩ := Vm.findClass_spec hcl; exact ⟨k9, h9⟩) pre x suf hsplit
    (fun z hz => by
      rcases hpass z hz with h | ⟨hz0, nm, hl1, hn1⟩
      · exact Or.inl h
      · obtain ⟨c6, hc6, hcl6⟩ := Cond.classLink_spec hown hl1 e.platform hpl
        obtain ⟨a8, b8, h1, h2, h3⟩ := hn1
        cases Option.some.inj (h1.symm.trans hcl)
        cases Option.some.inj (h2.symm.trans hc6)
        exact Or.inr ⟨hz0, _, hcl6, h3⟩) hx (Or.inr ⟨h0, c4, hcl5, hasg⟩)
  obtain ⟨t, a1, b1⟩ := kk (T.setVm vm') hT X'
  exact ⟨t, st.trans a1, b1⟩
end Rows
section Ends
variable {p : Program} {l : Launch} {e : Env} {R : Room} {s : State} {m : MethodId} {args : Array Value} {below : List Frame} {meth : Method} {c : Code} {H : Heap} {locs : List Loc} {cells slots : Nat} {Q : State → Prop}
variable {mc ms : Nat} {free : Addr → Prop} {A0 A1 : Nat → Prop} {H0 : Heap} {a : Array Value} {ls : Array Slot} {st0 rest : List Value}
variable {Qc : Array Value → State → Outcome → State → Prop} {XC : String → State → State → Prop}
/-- what a body that may throw owes at its end -/
def vx_MQ (below : List Frame) (Qc : Array Value → State → Outcome → State → Prop) (XC : String → State → State → Prop) (a : Array Value) (s : State) (mc ms : Nat) (free : Addr → Prop) : State → Prop := fun t =>
  ∃ o, t.status = .running ∧ Ended t below o ∧ vx_Q Qc XC mc ms free a s o t
theorem vx_ret {g : JFrame} {mc ms : Nat} (k : W p l e R s m args below meth c H locs cells slots (MQ below Qc args s mc ms free) g) : W p l e R s m args below meth c H locs cells slots (vx_MQ below Qc XC args s mc ms free) g := by
  intro T hT X
  obtain ⟨t, a1, o, b1, b2, b3, b4⟩ := k T hT X
  exact ⟨t, a1, o, b1, b2, Or.inl ⟨b3, b4⟩⟩
/-- not caught here: it goes on to the caller -/
theorem vx_widen {g : JFrame} {q : Addr} {k n : Nat} (h1 : cells ≤ k) (h2 : slots ≤ n) (kk : vx_W p l e R s m args below meth c H locs k n Q g q) : vx_W p l e R s m args below meth c H locs cells slots Q g q := fun T hT X => kk T hT (stand_widen X h1 h2)
theorem vx_out {pc : Nat} {E : String} {ce : Cell} {q : Addr} {mc ms : Nat} (hout : ∀ x ∈ c.exceptionTable.toList, covers x pc = false) (hlocks : meth.locks = false) (hcell : H[q]? = some ce) (hv : ce.vm = .none) (hcl : s.vm.findClass E = some ce.cls)
    (hx : ∀ t : State, t.heap = H → s.vm.Alike t.vm → XC E s t) (hf : ∀ z ∈ locs, free z.base) (hc : cells ≤ mc) (hs : slots ≤ ms) :
    vx_W p l e R s m args below meth c H locs cells slots (vx_MQ below Qc XC args s mc ms free) (F0 m pc ls rest) q := by
  intro T hT X
  obtain ⟨st1, hrun, hend, hW, hsm⟩ := X.leaveThrown q (g := F0 m pc ls rest) rfl rfl rfl hout hlocks
  have hcell9 : (T.setFrames (.throwing q :: below)).heap[q]? = some ce := by
    show T.heap[q]? = some ce
    rw [hT]; exact hcell
  exact ⟨_, st1, .threw q, hrun, hend, Or.inr ⟨q, rfl, E, ce, locs, hx _ hT hW.alike, hcell9, hv, hcl, hW, hsm.mono hc hs, hf⟩⟩
theorem vx_frame {U : State} {k n : Nat} (h : s.sameButNew ({ U with vm := s.vm } : State) locs k n) : s.heap.size ≤ U.heap.size ∧ ∀ q : Nat, q < s.heap.size → (∀ z ∈ locs, z.base ≠ q) → U.heap[q]? = s.heap[q]? := by
  obtain ⟨-, h2, -, -, -, h6⟩ := h
  refine ⟨h2, fun q hq hz => ?_⟩
  obtain ⟨c9, e1, e2, e3, e4⟩ := h6 q _ (Array.getElem?_eq_getElem hq)
  have hs : c9.slots = (s.heap[q]).slots := Array.ext_getElem? fun i => e4 i fun hm => hz _ hm rfl
  have h9 : c9 = s.heap[q] := by
    rw [hs] at e2
    exact e2
  have e5 : U.heap[q]? = some c9 := e1
  rw [e5, h9, Array.getElem?_eq_getElem hq]
/-- the words of a throw but the four that speak of the heap -/
def vx_no (w : Cond) : Bool := decide (w ≠ .isRef (.static Bundle.tN "UNASSIGNED_STACK" Bundle.steD)) && decide (w ≠ .isRef (.static Bundle.tN "SUPPRESSED_SENTINEL" Bundle.listD)) && decide (w ≠ .laysStatic Bundle.tN "UNASSIGNED_STACK" Bundle.steD) && decide (w ≠ .laysStatic Bundle.tN "SUPPRESSED_SENTINEL" Bundle.listD)
def vx_at0 (own : String) (ic : Nat) (X : String) (names : List String) : List Cond := (Bundle.ownAtoms0 own ic X names).filter vx_no
def vx_atS (own : String) (ic : Nat) (X : String) (names : List String) : List Cond := (Bundle.ownAtoms own ic X names).filter vx_no
/-- a word that the tables alone decide, or a good one -/
def vx_ot (w : Cond) : Bool := w.onTables || goodWord w
theorem vx_ot_at {args a' : Array Value} {s U : State} {w : Cond} (hW : s.WarmedH U.vm) (hvm : s.vm = U.vm) (hg : vx_ot w = true) (h : w.before args s = true) : w.before a' U = true := by
  simp only [vx_ot, Bool.or_eq_true] at hg
  rcases hg with hg | hg
  · exact va_tabs hg hvm h
  · exact word_at hW (good_of_word hg) h
/-- a list's words: the good ones out of the method's own list, the others by premises of their own -/
theorem vx_hat {args : Array Value} {s : State} {L B : List Cond} (h1 : ∀ w ∈ L.filter goodWord, w.before args s = true) (h2 : ∀ w ∈ L.filter (fun w => !goodWord w), w ∈ B) (h3 : ∀ w ∈ B, w.before args s = true) : ∀ w ∈ L, w.before args s = true := by
  intro w hw
  by_cases g : goodWord w = true
  · exact h1 w (List.mem_filter.mpr ⟨hw, g⟩)
  · refine h3 w (h2 w (List.mem_filter.mpr ⟨hw, ?_⟩))
    show (!goodWord w) = true
    cases hgw : goodWord w
    · rfl
    · exact absurd hgw g
theorem vx_c {args : Array Value} {s : State} {w : Cond} {B : List Cond} (h : w.before args s = true) (t : ∀ w ∈ B, w.before args s = true) : ∀ w' ∈ w :: B, w'.before args s = true := fun w' h' => (List.mem_cons.mp h').elim (fun e => by rw [e]; exact h) (t w')
theorem vx_n {args : Array Value} {s : State} : ∀ w ∈ ([] : List Cond), w.before args s = true := fun _ h => nomatch h
theorem vx_own {args : Array Value} {s : State} {L : List Cond} (h1 : ∀ w ∈ L.filter vx_no, w.before args s = true)
    (hU : (Cond.isRef (.static Bundle.tN "UNASSIGNED_STACK" Bundle.steD)).before args s = true) (hN : (Cond.isRef (.static Bundle.tN "SUPPRESSED_SENTINEL" Bundle.listD)).before args s = true)
    (lU : (Cond.laysStatic Bundle.tN "UNASSIGNED_STACK" Bundle.steD).before args s = true) (lN : (Cond.laysStatic Bundle.tN "SUPPRESSED_SENTINEL" Bundle.listD).before args s = true) : ∀ w ∈ L, w.before args s = true := by
  intro w hw
  by_cases e1 : w = .isRef (.static Bundle.tN "UNASSIGNED_STACK" Bundle.steD)
  · rw [e1]; exact hU
  · by_cases e2 : w = .isRef (.static Bundle.tN "SUPPRESSED_SENTINEL" Bundle.listD)
    · rw [e2]; exact hN
    · by_cases e3 : w = .laysStatic Bundle.tN "UNASSIGNED_STACK" Bundle.steD
      · rw [e3]; exact lU
      · by_cases e4 : w = .laysStatic Bundle.tN "SUPPRESSED_SENTINEL" Bundle.listD
        · rw [e4]; exact lN
        · exact h1 w (List.mem_filter.mpr ⟨hw, by unfold vx_no; rw [decide_eq_true e1, decide_eq_true e2, decide_eq_true e3, decide_eq_true e4]; rfl⟩)
/-- where a static field lies, its class's statics cell in H -/
def vx_L (C n d : String) (A : Nat → Prop) (U : State) (H : Heap) : Prop := ∃ (c : ClassId) (k : Class) (i : Nat) (f : Field) (a : Nat) (cell : Cell), U.vm.findClass C = some c ∧ U.fieldFound? C n d = some (c, k, i, f) ∧ f.isStatic = true ∧ k.statics = some a ∧ H[a]? = some cell ∧ cell.vm.isStatics = true ∧ cell.cls = c ∧ f.slot < cell.slots.size ∧ k.staticTypes[f.slot]? = some f.type ∧ ¬ A a
theorem vx_L.moved {C n d : String} {A : Nat → Prop} {u U : State} {H : Heap} (hvm : u.vm.Alike U.vm) (h : vx_L C n d A u H) : vx_L C n d A U H := by
  obtain ⟨c, k, i, f, a, cell, h1, h2, h3, h4, h5, h6, h7, h8, h9, h10⟩ := h
  obtain ⟨k', hi', he⟩ := State.fieldFound?_setVm hvm h2
  exact ⟨c, k', i, f, a, cell, by rw [hvm.findClass]; exact h1, hi', h3, by rw [he]; exact h4, h5, h6, h7, h8, by rw [he]; exact h9, h10⟩
theorem vx_L.kept {C n d : String} {A : Nat → Prop} {U : State} {H H1 : Heap} (h : vx_L C n d A U H) (hq : ∀ a : Nat, a < H.size → ¬ A a → H1[a]? = H[a]?) : vx_L C n d A U H1 := by
  obtain ⟨c, k, i, f, a, cell, h1, h2, h3, h4, h5, h6, h7, h8, h9, h10⟩ := h
  exact ⟨c, k, i, f, a, cell, h1, h2, h3, h4, by rw [hq a (Array.getElem?_eq_some_iff.mp h5).1 h10]; exact h5, h6, h7, h8, h9, h10⟩
theorem vx_L.narrow {C n d : String} {A B : Nat → Prop} {U : State} {H : Heap} (h : vx_L C n d A U H) (hAB : ∀ q, B q → A q) : vx_L C n d B U H := by
  obtain ⟨c, k, i, f, a, cell, h1, h2, h3, h4, h5, h6, h7, h8, h9, h10⟩ := h
  exact ⟨c, k, i, f, a, cell, h1, h2, h3, h4, h5, h6, h7, h8, h9, fun z => h10 (hAB _ z)⟩
theorem vx_L.word {C n d : String} {A : Nat → Prop} {s : State} {args : Array Value} (h : vx_L C n d A s s.heap) : (Cond.laysStatic C n d).before args s = true := by
  obtain ⟨c, k, i, f, a, cell, h1, h2, h3, h4, h5, h6, h7, h8, h9, -⟩ := h
  show (Cond.laysStatic C n d).holds args s none s [] = true
  exact Cond.laysStatic_of h1 h2 h3 h4 h5 h6 h7 h8 h9
/-- .. and what it holds: null or some reference -/
def vx_Zq (C n d : String) (A : Nat → Prop) (U : State) (H : Heap) : Prop := va_Zq C n d A U H ∧ vx_L C n d A U H
theorem vx_Zq.moved {C n d : String} {A : Nat → Prop} {u U : State} {H : Heap} (hvm : u.vm.Alike U.vm) (h : vx_Zq C n d A u H) : vx_Zq C n d A U H := ⟨va_Zq.moved hvm h.1, vx_L.moved hvm h.2⟩
theorem vx_Zq.kept {C n d : String} {A : Nat → Prop} {U : State} {H H1 : Heap} (h : vx_Zq C n d A U H) (hq : ∀ a : Nat, a < H.size → ¬ A a → H1[a]? = H[a]?) : vx_Zq C n d A U H1 := ⟨va_Zq.kept h.1 hq, vx_L.kept h.2 hq⟩
theorem vx_Zq.narrow {C n d : String} {A B : Nat → Prop} {U : State} {H : Heap} (h : vx_Zq C n d A U H) (hAB : ∀ q, B q → A q) : vx_Zq C n d B U H := ⟨va_Zq.narrow h.1 hAB, vx_L.narrow h.2 hAB⟩
theorem vx_Zqof {args : Array Value} {s : State} {C n d : String} {A : Nat → Prop} (hl : (Cond.laysStatic C n d).before args s = true) (hini : (Cond.initialized C).before args s = true) (h : (Cond.isRef (.static C n d)).before args s = true) (hA : ∀ a : Nat, a < s.heap.size → ¬ A a) : vx_Zq C n d A s s.heap := by
  refine ⟨va_Zqof hl hini h hA, ?_⟩
  obtain ⟨c, k, i, f, a, cell, h1, h2, h3, h4, h5, h6, h7, h8, h9⟩ := Cond.laysStatic_spec hl
  exact ⟨c, k, i, f, a, cell, h1, h2, h3, h4, h5, h6, h7, h8, h9, hA a (Array.getElem?_eq_some_iff.mp h5).1⟩
theorem vx_isRef {C n d : String} {v : Value} {A : Nat → Prop} {s : State} {args : Array Value} (h : va_Z C n d v A s s.heap) (hv : v.isRef = true) : (Cond.isRef (.static C n d)).before args s = true := by
  obtain ⟨cf, kf, fi, f, a, cell, h1, h2, h3, h4, h5, h6, h7, -⟩ := h
  have he : (Term.static C n d).eval args s none [] s = some v := by
    simp [Term.eval, State.fieldNamed?, h1, h2, h4, h5, h6, h7]
  simp only [Cond.before, Cond.holds, Cond.value, he]
  cases v <;> simp_all [Value.isRef]
theorem vx_isRefq {C n d : String} {A : Nat → Prop} {s : State} {args : Array Value} (h : va_Zq C n d A s s.heap) : (Cond.isRef (.static C n d)).before args s = true := by
  rcases h with h | ⟨t, h⟩
  · exact vx_isRef h rfl
  · exact vx_isRef h rfl
/-- the same frame, seen from here: as if the method were called anew in this heap -/
theorem vx_rebase {T : State} (X : Stand p l e R s m args below meth c T locs cells slots) {R' : Room} (hf : R'.frames ≤ R.frames) (hl : R'.locals ≤ R.locals) (hc : cells + R'.cells ≤ R.cells) (hs : slots + R'.slots ≤ R.slots) :
    Stand p l e R' ((T.setVm s.vm).setFrames (.invoking m args :: below)) m args below meth c T [] 0 0 := by
  have htop : (T.setVm s.vm).topJava?.isSome := X.here.top
  have hF : ((T.setVm s.vm).setFrames (.invoking m args :: below)).frames = .invoking m args :: below := State.frames_setFrames _ (State.cur_lt_of_top htop)
  obtain ⟨g₀, hg0⟩ := Option.isSome_iff_exists.mp htop
  obtain ⟨r, hr⟩ := State.topJava?_eq_some.mp hg0
  have hl9 : e.platform.stackLimits (T.setVm s.vm).me = e.platform.stackLimits s.me := X.limits
  have hb9 : (T.setVm s.vm).me.stackBytes = s.me.stackBytes := X.bytes
  refine ⟨X.admits, X.cas, X.clock, hF, ?_, X.hears, X.method, X.code, X.here, X.tail, X.warmed, ?_, ?_, ?_⟩
  · have h := X.room
    have hU : ((T.setVm s.vm).setFrames (.invoking m args :: below)).localsInUse = s.localsInUse := by
      rw [State.localsInUse_invoking hF (meth := meth) (c := c) X.method X.code, State.localsInUse_invoking X.frames X.method X.code]
    simp only [State.hasRoom, Bool.and_eq_true, decide_eq_true_eq] at h ⊢
    obtain ⟨⟨⟨⟨h1, h2, h3, h4, h5, h6⟩, h7⟩, h8⟩, h9⟩ := h
    rw [X.frames, List.length_cons] at h2 h3
    have q1 := X.heapSize
    have q2 := X.used
    simp only [hF, hU, List.length_cons, State.stackLimits_setFrames, State.stackBytes_setFrames, hl9, hb9]
    refine ⟨⟨⟨⟨by omega, by omega, by omega, by omega, by omega, h6⟩, ?_⟩, ?_⟩, X.book⟩
    · show T.heap.size + R'.cells ≤ e.platform.maxCells
      omega
    · show T.slotsUsed + R'.slots ≤ e.platform.maxSlots
      omega
  · rw [State.stackLimits_setFrames]; rfl
  · rw [State.stackBytes_setFrames]; rfl
  · refine ⟨?_, Nat.le_refl _, Nat.le_refl _, ?_, ?_, fun a c9 h9 => ⟨c9, h9, rfl, rfl, fun _ _ => rfl⟩⟩
    · obtain ⟨t, ht, -⟩ := State.frames_cons hr
      show T.setVm s.vm = { ((T.setVm s.vm).setFrames (.invoking m args :: below)).setFrames (T.setVm s.vm).frames with heap := T.heap, slotsUsed := T.slotsUsed }
      rw [State.setFrames_setFrames, State.setFrames_self ht]
      rfl
    · show T.slotsUsed = T.slotsUsed + ((T.heap.toList.drop T.heap.size).map (·.slots.size)).sum
      rw [List.drop_eq_nil_of_le (Nat.le_of_eq Array.length_toList)]
      rfl
    · show ((T.heap.toList.drop T.heap.size).map (·.slots.size)).sum ≤ 0
      rw [List.drop_eq_nil_of_le (Nat.le_of_eq Array.length_toList)]
      exact Nat.le_refl _
/-- 'throw new E()': new; dup; invokespecial; athrow -/
theorem vx_throw0 {cc : ByteArray} {pc : Nat} (hexec : p.tables.exec = Jvm.exec) (hb : c.code = cc) (hl : l.stackTraces = false) {own cls : String} {names : List String} {ik ic mc ms : Nat} {A : Nat → Prop}
    (hown : s.vm.findClass own = some m.cls) (hcls : Bundle.fit cls = true) (hnames : ∀ n ∈ names, Bundle.fit n = true)
    (hk : (Cond.classLink own ik cls).before args s = true) (hini : (Cond.initialized cls).before args s = true) (hat : ∀ w ∈ vx_at0 own ic cls names, w.before args s = true)
    (hgood : ∀ w ∈ Cond.classLink own ik cls :: Cond.initialized cls :: vx_at0 own ic cls names, vx_ot w = true)
    (hU : vx_Zq Bundle.tN "UNASSIGNED_STACK" Bundle.steD A s s.heap) (hN : vx_Zq Bundle.tN "SUPPRESSED_SENTINEL" Bundle.listD A s s.heap) (hS : va_S A s.heap H locs) (hsize : ls.size = c.maxLocals)
    (d0 : decode cc pc = .ok (.new ik, 3)) (d3 : decode cc (pc + 3) = .ok (.dup, 1)) (d4 : decode cc (pc + 4) = .ok (.invokespecial ic, 3)) (d7 : decode cc (pc + 7) = .ok (.athrow, 1))
    (hout : ∀ x ∈ c.exceptionTable.toList, covers x (pc + 7) = false)
    (hRframes : names.length + 3 < R.frames) (hRlocals : (rest.map fun v => v.category).sum + (13 * (names.length + 1) + 42) ≤ R.locals) (hRcells : cells + 1 ≤ R.cells) (hRslots : slots + 6 ≤ R.slots) (hlocks : meth.locks = false)
    (hx : ∀ t : State, s.vm.Alike t.vm → H.size ≤ t.heap.size → (∀ q : Nat, q < H.size → t.heap[q]? = H[q]?) → XC cls s t)
    (hf : ∀ z ∈ locs, free z.base) (hc : cells + 1 ≤ mc) (hs : slots + 6 ≤ ms) :
    W p l e R s m args below meth c H locs cells slots (vx_MQ below Qc XC args s mc ms free) (F0 m pc ls rest) := by
  intro T hT X
  have htr : e.platform.stackTraces = false := (show e.platform.stackTraces = l.stackTraces by rw [X.admits.platform]).trans hl
  have Y := vx_rebase X (R' := { frames := R.frames, locals := R.locals, cells := 1, slots := 6 }) (Nat.le_refl _) (Nat.le_refl _) hRcells hRslots
  obtain ⟨s', hA⟩ : ∃ z, z = (T.setVm s.vm).setFrames (.invoking m args :: below) := ⟨_, rfl⟩
  rw [← hA] at Y
  have hvm : s'.vm = s.vm := by rw [hA]; rfl
  have hhp : s'.heap = H := by rw [hA]; exact hT
  have hW0 : s.WarmedH s'.vm := by rw [hvm]; exact State.WarmedH.refl s
  have hat' : ∀ w ∈ vx_at0 own ic cls names, w.before args s' = true := fun w hw => vx_ot_at hW0 hvm.symm (hgood w (List.mem_cons_of_mem _ (List.mem_cons_of_mem _ hw))) (hat w hw)
  have hk' : (Cond.classLink own ik cls).before args s' = true := vx_ot_at hW0 hvm.symm (hgood _ List.mem_cons_self) hk
  have hini' : (Cond.initialized cls).before args s' = true := vx_ot_at hW0 hvm.symm (hgood _ (List.mem_cons_of_mem _ List.mem_cons_self)) hini
  have hU' : vx_Zq Bundle.tN "UNASSIGNED_STACK" Bundle.steD A s' s'.heap := by rw [hhp]; exact vx_Zq.moved hW0.alike (hU.kept hS.2.1)
  have hN' : vx_Zq Bundle.tN "SUPPRESSED_SENTINEL" Bundle.listD A s' s'.heap := by rw [hhp]; exact vx_Zq.moved hW0.alike (hN.kept hS.2.1)
  have h : ∀ w ∈ Bundle.ownAtoms0 own ic cls names, w.before args s' = true := vx_own hat' (vx_isRefq hU'.1) (vx_isRefq hN'.1) hU'.2.word hN'.2.word
  have hown' : s'.vm.findClass own = some m.cls := by rw [hvm]; exact hown
  have hins : (Cond.instantiable cls 6).before args s' = true := h _ (by simp [Bundle.ownAtoms0])
  obtain ⟨vm₁, cX, kX, hfX, hkX, -, -, X₁, st1⟩ := Y.newCold hexec (own := own) (C := cls) (index := ik) (n := 6) hown' hk' hins hini'
    (g := F0 m pc ls rest) rfl (by rw [hb]; exact d0) (Nat.le_refl _) (Nat.le_refl _)
  generalize hT1 : (T.setVm vm₁).pushCell { cls := cX, slots := kX.instanceTypes.map defaultValue, vm := .none } = T1 at X₁ st1
  have hcat : (Value.ref T.heap.size).category = 1 := rfl
  have hcellA : T1.heap[T.heap.size]? = some (freshCell cX kX) := by rw [← hT1]; exact State.heap_pushCell_size _ _
  have d3' : decode c.code (pc + 3) = .ok (.dup, 1) := by rw [hb]; exact d3
  obtain ⟨U, hsteps, hrun, hend, hW, hsame, ce, hce, hO⟩ := X₁.ctorThrow0 hexec htr (own := own) (cls := cls) (names := names) (ic := ic) hown' hcls hnames h (fun x hx => nomatch hx) hfX hkX hcellA (by rw [hhp, hT]; exact Nat.le_refl _)
    (g := { method := m, pc := pc + 4, locals := ls, stack := .ref T.heap.size :: .ref T.heap.size :: rest, locked := none }) rfl hsize rfl rfl (rest := rest) rfl
    (by rw [hb]; exact d4) (by rw [hb]; exact d7) hout hRframes (by simp only [List.map_cons, List.sum_cons, hcat]; omega) hlocks
  obtain ⟨f1, f2⟩ := vx_frame hsame
  rw [hhp] at f1 f2
  have hWs : s.WarmedH U.vm := State.WarmedH.trans hW0 hW
  have hcl : s.vm.findClass cls = some ce.cls := by
    have h9 := hO.cls
    rw [hvm] at h9
    exact h9
  have hall : s.sameButNew ({ U with vm := s.vm } : State) locs mc ms := by
    subst hA
    obtain ⟨e1, e2⟩ := hsame
    rw [State.setFrames_setFrames] at e1
    have h2 : (T.setVm s.vm).sameButNew ({ U with vm := s.vm } : State) [] (0 + 1) (0 + 6) := ⟨e1, e2⟩
    have h3 := X.same.trans h2
    rw [List.append_nil] at h3
    exact h3.mono hc hs
  refine ⟨U, ?_, .threw T.heap.size, hrun, hend, Or.inr ⟨T.heap.size, rfl, cls, ce, locs, hx U hWs.alike f1 (fun q hq => f2 q hq (fun z hz => nomatch hz)), hce, hO.vm, hcl, hWs, hall, hf⟩⟩
  refine st1 _ ?_
  show Steps p.tables e below (T1.setTop { method := m, pc := pc + 3, locals := ls, stack := .ref T.heap.size :: rest, locked := none }) _
  jvm_step X₁.here [X₁.here.top, hexec, d3', Value.category]
  exact hsteps
/-- 'throw new E("text")': new; dup; ldc; invokespecial; athrow -/
theorem vx_throwS {cc : ByteArray} {pc : Nat} (hexec : p.tables.exec = Jvm.exec) (hb : c.code = cc) (hl : l.stackTraces = false) {own cls text : String} {names : List String} {ik is ic mc ms sa : Nat} {A : Nat → Prop}
    (hown : s.vm.findClass own = some m.cls) (hcls : Bundle.fit cls = true) (hnames : ∀ n ∈ names, Bundle.fit n = true)
    (hk : (Cond.classLink own ik cls).before args s = true) (hini : (Cond.initialized cls).before args s = true) (hstr : vk_R own is text sa s) (hat : ∀ w ∈ vx_atS own ic cls names, w.before args s = true)
    (hgood : ∀ w ∈ Cond.classLink own ik cls :: Cond.initialized cls :: vx_atS own ic cls names, vx_ot w = true)
    (hU : vx_Zq Bundle.tN "UNASSIGNED_STACK" Bundle.steD A s s.heap) (hN : vx_Zq Bundle.tN "SUPPRESSED_SENTINEL" Bundle.listD A s s.heap) (hS : va_S A s.heap H locs) (hsize : ls.size = c.maxLocals)
    (d0 : decode cc pc = .ok (.new ik, 3)) (d3 : decode cc (pc + 3) = .ok (.dup, 1)) (d4 : decode cc (pc + 4) = .ok (.ldc is, 2)) (d6 : decode cc (pc + 6) = .ok (.invokespecial ic, 3)) (d9 : decode cc (pc + 9) = .ok (.athrow, 1))
    (hout : ∀ x ∈ c.exceptionTable.toList, covers x (pc + 9) = false)
    (hRframes : names.length + 3 < R.frames) (hRlocals : (rest.map fun v => v.category).sum + (13 * (names.length + 1) + 43) ≤ R.locals) (hRcells : cells + 1 ≤ R.cells) (hRslots : slots + 6 ≤ R.slots) (hlocks : meth.locks = false)
    (hx : ∀ t : State, s.vm.Alike t.vm → H.size ≤ t.heap.size → (∀ q : Nat, q < H.size → t.heap[q]? = H[q]?) → XC cls s t)
    (hf : ∀ z ∈ locs, free z.base) (hc : cells + 1 ≤ mc) (hs : slots + 6 ≤ ms) :
    W p l e R s m args below meth c H locs cells slots (vx_MQ below Qc XC args s mc ms free) (F0 m pc ls rest) := by
  intro T hT X
  have htr : e.platform.stackTraces = false := (show e.platform.stackTraces = l.stackTraces by rw [X.admits.platform]).trans hl
  have Y := vx_rebase X (R' := { frames := R.frames, locals := R.locals, cells := 1, slots := 6 }) (Nat.le_refl _) (Nat.le_refl _) hRcells hRslots
  obtain ⟨s', hA⟩ : ∃ z, z = (T.setVm s.vm).setFrames (.invoking m args :: below) := ⟨_, rfl⟩
  rw [← hA] at Y
  have hvm : s'.vm = s.vm := by rw [hA]; rfl
  have hhp : s'.heap = H := by rw [hA]; exact hT
  have hW0 : s.WarmedH s'.vm := by rw [hvm]; exact State.WarmedH.refl s
  have hat' : ∀ w ∈ vx_atS own ic cls names, w.before args s' = true := fun w hw => vx_ot_at hW0 hvm.symm (hgood w (List.mem_cons_of_mem _ (List.mem_cons_of_mem _ hw))) (hat w hw)
  have hk' : (Cond.classLink own ik cls).before args s' = true := vx_ot_at hW0 hvm.symm (hgood _ List.mem_cons_self) hk
  have hini' : (Cond.initialized cls).before args s' = true := vx_ot_at hW0 hvm.symm (hgood _ (List.mem_cons_of_mem _ List.mem_cons_self)) hini
  have hU' : vx_Zq Bundle.tN "UNASSIGNED_STACK" Bundle.steD A s' s'.heap := by rw [hhp]; exact vx_Zq.moved hW0.alike (hU.kept hS.2.1)
  have hN' : vx_Zq Bundle.tN "SUPPRESSED_SENTINEL" Bundle.listD A s' s'.heap := by rw [hhp]; exact vx_Zq.moved hW0.alike (hN.kept hS.2.1)
  have h : ∀ w ∈ Bundle.ownAtoms own ic cls names, w.before args s' = true := vx_own hat' (vx_isRefq hU'.1) (vx_isRefq hN'.1) hU'.2.word hN'.2.word
  have hown' : s'.vm.findClass own = some m.cls := by rw [hvm]; exact hown
  have hins : (Cond.instantiable cls 6).before args s' = true := h _ (by simp [Bundle.ownAtoms])
  obtain ⟨vm₁, cX, kX, hfX, hkX, -, -, X₁, st1⟩ := Y.newCold hexec (own := own) (C := cls) (index := ik) (n := 6) hown' hk' hins hini'
    (g := F0 m pc ls rest) rfl (by rw [hb]; exact d0) (Nat.le_refl _) (Nat.le_refl _)
  generalize hT1 : (T.setVm vm₁).pushCell { cls := cX, slots := kX.instanceTypes.map defaultValue, vm := .none } = T1 at X₁ st1
  have hcat : (Value.ref T.heap.size).category = 1 := rfl
  have hcellA : T1.heap[T.heap.size]? = some (freshCell cX kX) := by rw [← hT1]; exact State.heap_pushCell_size _ _
  have d3' : decode c.code (pc + 3) = .ok (.dup, 1) := by rw [hb]; exact d3
  have d4' : decode c.code (pc + 4) = .ok (.ldc is, 2) := by rw [hb]; exact d4
  have hstr' : vk_R own is text sa s' := vk_R.warm hW0 hstr
  obtain ⟨U, hsteps, hrun, hend, hW, hsame, ce, hce, hO⟩ := X₁.ctorThrowS hexec htr (own := own) (cls := cls) (names := names) (ic := ic) hown' hcls hnames h (fun x hx => nomatch hx) hfX hkX hcellA (by rw [hhp, hT]; exact Nat.le_refl _) (msg := .ref sa) rfl
    (g := { method := m, pc := pc + 6, locals := ls, stack := .ref sa :: .ref T.heap.size :: .ref T.heap.size :: rest, locked := none }) rfl hsize rfl rfl (rest := rest) rfl
    (by rw [hb]; exact d6) (by rw [hb]; exact d9) hout hRframes (by simp only [List.map_cons, List.sum_cons, hcat]; omega) hlocks
  obtain ⟨f1, f2⟩ := vx_frame hsame
  rw [hhp] at f1 f2
  have hWs : s.WarmedH U.vm := State.WarmedH.trans hW0 hW
  have hcl : s.vm.findClass cls = some ce.cls := by
    have h9 := hO.cls
    rw [hvm] at h9
    exact h9
  have hall : s.sameButNew ({ U with vm := s.vm } : State) locs mc ms := by
    subst hA
    obtain ⟨e1, e2⟩ := hsame
    rw [State.setFrames_setFrames] at e1
    have h2 : (T.setVm s.vm).sameButNew ({ U with vm := s.vm } : State) [] (0 + 1) (0 + 6) := ⟨e1, e2⟩
    have h3 := X.same.trans h2
    rw [List.append_nil] at h3
    exact h3.mono hc hs
  refine ⟨U, ?_, .threw T.heap.size, hrun, hend, Or.inr ⟨T.heap.size, rfl, cls, ce, locs, hx U hWs.alike f1 (fun q hq => f2 q hq (fun z hz => nomatch hz)), hce, hO.vm, hcl, hWs, hall, hf⟩⟩
  refine st1 _ ?_
  show Steps p.tables e below (T1.setTop { method := m, pc := pc + 3, locals := ls, stack := .ref T.heap.size :: rest, locked := none }) _
  jvm_step X₁.here [X₁.here.top, hexec, d3', Value.category]
  exact X₁.ldcString hexec (own := own) (text := text) (index := is) (a := sa) hown' hstr'.1 hstr'.2
    (g := { method := m, pc := pc + 4, locals := ls, stack := .ref T.heap.size :: .ref T.heap.size :: rest, locked := none }) rfl d4' _ hsteps
/-- 'throw new E("text")', the text by a wide index -/
theorem vx_throwSW {cc : ByteArray} {pc : Nat} (hexec : p.tables.exec = Jvm.exec) (hb : c.code = cc) (hl : l.stackTraces = false) {own cls text : String} {names : List String} {ik is ic mc ms sa : Nat} {A : Nat → Prop}
    (hown : s.vm.findClass own = some m.cls) (hcls : Bundle.fit cls = true) (hnames : ∀ n ∈ names, Bundle.fit n = true)
    (hk : (Cond.classLink own ik cls).before args s = true) (hini : (Cond.initialized cls).before args s = true) (hstr : vk_R own is text sa s) (hat : ∀ w ∈ vx_atS own ic cls names, w.before args s = true)
    (hgood : ∀ w ∈ Cond.classLink own ik cls :: Cond.initialized cls :: vx_atS own ic cls names, vx_ot w = true)
    (hU : vx_Zq Bundle.tN "UNASSIGNED_STACK" Bundle.steD A s s.heap) (hN : vx_Zq Bundle.tN "SUPPRESSED_SENTINEL" Bundle.listD A s s.heap) (hS : va_S A s.heap H locs) (hsize : ls.size = c.maxLocals)
    (d0 : decode cc pc = .ok (.new ik, 3)) (d3 : decode cc (pc + 3) = .ok (.dup, 1)) (d4 : decode cc (pc + 4) = .ok (.ldc_w is, 3)) (d7 : decode cc (pc + 7) = .ok (.invokespecial ic, 3)) (d10 : decode cc (pc + 10) = .ok (.athrow, 1))
    (hout : ∀ x ∈ c.exceptionTable.toList, covers x (pc + 10) = false)
    (hRframes : names.length + 3 < R.frames) (hRlocals : (rest.map fun v => v.category).sum + (13 * (names.length + 1) + 43) ≤ R.locals) (hRcells : cells + 1 ≤ R.cells) (hRslots : slots + 6 ≤ R.slots) (hlocks : meth.locks = false)
    (hx : ∀ t : State, s.vm.Alike t.vm → H.size ≤ t.heap.size → (∀ q : Nat, q < H.size → t.heap[q]? = H[q]?) → XC cls s t)
    (hf : ∀ z ∈ locs, free z.base) (hc : cells + 1 ≤ mc) (hs : slots + 6 ≤ ms) :
    W p l e R s m args below meth c H locs cells slots (vx_MQ below Qc XC args s mc ms free) (F0 m pc ls rest) := by
  intro T hT X
  have htr : e.platform.stackTraces = false := (show e.platform.stackTraces = l.stackTraces by rw [X.admits.platform]).trans hl
  have Y := vx_rebase X (R' := { frames := R.frames, locals := R.locals, cells := 1, slots := 6 }) (Nat.le_refl _) (Nat.le_refl _) hRcells hRslots
  obtain ⟨s', hA⟩ : ∃ z, z = (T.setVm s.vm).setFrames (.invoking m args :: below) := ⟨_, rfl⟩
  rw [← hA] at Y
  have hvm : s'.vm = s.vm := by rw [hA]; rfl
  have hhp : s'.heap = H := by rw [hA]; exact hT
  have hW0 : s.WarmedH s'.vm := by rw [hvm]; exact State.WarmedH.refl s
  have hat' : ∀ w ∈ vx_atS own ic cls names, w.before args s' = true := fun w hw => vx_ot_at hW0 hvm.symm (hgood w (List.mem_cons_of_mem _ (List.mem_cons_of_mem _ hw))) (hat w hw)
  have hk' : (Cond.classLink own ik cls).before args s' = true := vx_ot_at hW0 hvm.symm (hgood _ List.mem_cons_self) hk
  have hini' : (Cond.initialized cls).before args s' = true := vx_ot_at hW0 hvm.symm (hgood _ (List.mem_cons_of_mem _ List.mem_cons_self)) hini
  have hU' : vx_Zq Bundle.tN "UNASSIGNED_STACK" Bundle.steD A s' s'.heap := by rw [hhp]; exact vx_Zq.moved hW0.alike (hU.kept hS.2.1)
  have hN' : vx_Zq Bundle.tN "SUPPRESSED_SENTINEL" Bundle.listD A s' s'.heap := by rw [hhp]; exact vx_Zq.moved hW0.alike (hN.kept hS.2.1)
  have h : ∀ w ∈ Bundle.ownAtoms own ic cls names, w.before args s' = true := vx_own hat' (vx_isRefq hU'.1) (vx_isRefq hN'.1) hU'.2.word hN'.2.word
  have hown' : s'.vm.findClass own = some m.cls := by rw [hvm]; exact hown
  have hins : (Cond.instantiable cls 6).before args s' = true := h _ (by simp [Bundle.ownAtoms])
  obtain ⟨vm₁, cX, kX, hfX, hkX, -, -, X₁, st1⟩ := Y.newCold hexec (own := own) (C := cls) (index := ik) (n := 6) hown' hk' hins hini'
    (g := F0 m pc ls rest) rfl (by rw [hb]; exact d0) (Nat.le_refl _) (Nat.le_refl _)
  generalize hT1 : (T.setVm vm₁).pushCell { cls := cX, slots := kX.instanceTypes.map defaultValue, vm := .none } = T1 at X₁ st1
  have hcat : (Value.ref T.heap.size).category = 1 := rfl
  have hcellA : T1.heap[T.heap.size]? = some (freshCell cX kX) := by rw [← hT1]; exact State.heap_pushCell_size _ _
  have d3' : decode c.code (pc + 3) = .ok (.dup, 1) := by rw [hb]; exact d3
  have d4' : decode c.code (pc + 4) = .ok (.ldc_w is, 3) := by rw [hb]; exact d4
  have hstr' : vk_R own is text sa s' := vk_R.warm hW0 hstr
  obtain ⟨U, hsteps, hrun, hend, hW, hsame, ce, hce, hO⟩ := X₁.ctorThrowS hexec htr (own := own) (cls := cls) (names := names) (ic := ic) hown' hcls hnames h (fun x hx => nomatch hx) hfX hkX hcellA (by rw [hhp, hT]; exact Nat.le_refl _) (msg := .ref sa) rfl
    (g := { method := m, pc := pc + 7, locals := ls, stack := .ref sa :: .ref T.heap.size :: .ref T.heap.size :: rest, locked := none }) rfl hsize rfl rfl (rest := rest) rfl
    (by rw [hb]; exact d7) (by rw [hb]; exact d10) hout hRframes (by simp only [List.map_cons, List.sum_cons, hcat]; omega) hlocks
  obtain ⟨f1, f2⟩ := vx_frame hsame
  rw [hhp] at f1 f2
  have hWs : s.WarmedH U.vm := State.WarmedH.trans hW0 hW
  have hcl : s.vm.findClass cls = some ce.cls := by
    have h9 := hO.cls
    rw [hvm] at h9
    exact h9
  have hall : s.sameButNew ({ U with vm := s.vm } : State) locs mc ms := by
    subst hA
    obtain ⟨e1, e2⟩ := hsame
    rw [State.setFrames_setFrames] at e1
    have h2 : (T.setVm s.vm).sameButNew ({ U with vm := s.vm } : State) [] (0 + 1) (0 + 6) := ⟨e1, e2⟩
    have h3 := X.same.trans h2
    rw [List.append_nil] at h3
    exact h3.mono hc hs
  refine ⟨U, ?_, .threw T.heap.size, hrun, hend, Or.inr ⟨T.heap.size, rfl, cls, ce, locs, hx U hWs.alike f1 (fun q hq => f2 q hq (fun z hz => nomatch hz)), hce, hO.vm, hcl, hWs, hall, hf⟩⟩
  refine st1 _ ?_
  show Steps p.tables e below (T1.setTop { method := m, pc := pc + 3, locals := ls, stack := .ref T.heap.size :: rest, locked := none }) _
  jvm_step X₁.here [X₁.here.top, hexec, d3', Value.category]
  exact X₁.ldcStringW hexec (own := own) (text := text) (index := is) (a := sa) hown' hstr'.1 hstr'.2
    (g := { method := m, pc := pc + 4, locals := ls, stack := .ref T.heap.size :: .ref T.heap.size :: rest, locked := none }) rfl d4' _ hsteps
end Ends
section Bodies
variable {l : Launch}
theorem vx_ofW {y : MethodName} {ws ws' : List Cond} {rm : Room} {Pc : Array Value → State → Prop} {Qc : Array Value → State → Outcome → State → Prop} {XC : String → State → State → Prop} {mc ms : Nat} {free : Addr → Prop} {cc : ByteArray} {maxL : Nat} {ret : Option FieldType}
    (hy : plainName y.cls = true) (hw : ws = Cond.code y cc maxL ret :: ws')
    (body : ∀ p e s m args below meth c s₁, BodyLoose p l y (headSpec ws rm) cc maxL ret e s m args below meth c s₁ → c.maxLocals = maxL → (∀ x ∈ c.exceptionTable.toList, False) → Pc args s →
      W p l e (headSpec ws rm).room s m args below meth c s.heap [] 0 0 (vx_MQ below Qc XC args s mc ms free) (entryFrame m args maxL)) : vx_Met l y ws rm Pc Qc XC mc ms free := by
  refine MetFree.of_bodyS (code := cc) (maxLocals := maxL) (ret := ret) hy ?_ ?_
  · intro args s m h hn
    obtain ⟨meth, c, h1, h2, h3, h4, h5, h6, -, -⟩ := Cond.code_spec hn (atoms_spec (ws := ws) h _ (by rw [hw]; exact List.mem_cons_self))
    exact ⟨meth, c, h1, h2, h3, h4, h5, h6⟩
  · intro p e s m args below meth c s₁ B hml hP _
    have hh0 : s₁.heap = s.heap := by rw [B.state]; rfl
    have ht : ∀ x ∈ c.exceptionTable.toList, False := by
      obtain ⟨meth9, c9, h1, h2, -, -, -, -, h7, -⟩ := Cond.code_spec B.named (atoms_spec (ws := ws) B.pre _ (by rw [hw]; exact List.mem_cons_self))
      cases Option.some.inj (h1.symm.trans B.method)
      cases Option.some.inj (h2.symm.trans (Stand.of_body B).code)
      intro x hx
      rw [Array.isEmpty_iff.mp h7] at hx
      cases hx
    obtain ⟨t, a1, o, b1, b2, b3⟩ := body p e s m args below meth c s₁ B hml ht hP s₁ hh0 (Stand.of_body B)
    exact ⟨t, o, a1, b1, b2, b3⟩
/-- the table of a body with handlers -/
theorem vx_table {p : Program} {x y : MethodName} {S : Spec} {cc bytes : ByteArray} {maxL maxL' : Nat} {ret ret' : Option FieldType} {e : Env} {s s₁ : State} {m : MethodId} {args : Array Value} {below : List Frame} {meth : Method} {c : Code} {hh : List (Nat × Nat × Nat × Nat)}
    (B : BodyLoose p l y S cc maxL ret e s m args below meth c s₁) (h : (Cond.codeWith y bytes maxL' ret' hh).before args s = true) : c.exceptionTable.toList = tableOf hh := by
  obtain ⟨m9, meth9, c9, hn9, h1, h2, -, -, h6, -⟩ := Cond.codeWith_spec h
  cases Option.some.inj (hn9.symm.trans B.named)
  cases Option.some.inj (h1.symm.trans B.method)
  cases Option.some.inj (h2.symm.trans (Stand.of_body B).code)
  rw [← h6, table_eq]
end Bodies
end VXA
/-! ===== END ===== -/
/-! ===== BEGIN a static call of a method with an exception table ===== -/
section VXS
variable {p : Program} {l : Launch} {e : Env} {R : Room} {s : State} {m : MethodId} {args : Array Value} {below : List Frame} {meth : Method} {c : Code} {T : State} {H : Heap} {locs : List Loc} {cells slots : Nat}
abbrev vx_CSW (R : Room) (s : State) (args : Array Value) (own : String) (index : Nat) (y : MethodName) (bytes : ByteArray) (maxL : Nat) (ret : Option FieldType) (hh : List (Nat × Nat × Nat × Nat)) (ws : List Cond) (rm : Room) (mc ms n : Nat) : Prop :=
  (rm.cells = mc ∧ rm.slots = ms ∧ rm.frames + 1 ≤ R.frames ∧ 8 + (maxL + 11) + rm.locals ≤ R.locals ∧ (∀ w ∈ ws, ∀ (a' : Array Value) (U : State), s.WarmedH U.vm → w.before a' U = true) ∧ Cond.codeWith y bytes maxL ret hh ∈ ws) ∧
  (Cond.codeWith y bytes maxL ret hh).before args s = true ∧ (Cond.initialized y.cls).before args s = true ∧ (y.cls ≠ "java/lang/invoke/MethodHandle" ∧ y.cls ≠ "java/lang/invoke/VarHandle") ∧
  (∀ sig, parseMethodDescriptor y.desc = some sig → n = sig.parameters.length) ∧ (Cond.methodLink own index y).before args s = true ∧ (Cond.static y).before args s = true
theorem vx_cwSW {own : String} {index maxL mc ms : Nat} {y : MethodName} {bytes : ByteArray} {ret : Option FieldType} {hh : List (Nat × Nat × Nat × Nat)} {Ts ws ws' : List Cond} {rm : Room} (n : Nat) (ht : ∀ w ∈ Ts, w.before args s = true) (hT : GoodIn Ts (va_wsS own index y ws)) (hw : ws = Cond.codeWith y bytes maxL ret hh :: ws') (hrc : rm.cells = mc) (hrs : rm.slots = ms)
    (hd : y.cls ≠ "java/lang/invoke/MethodHandle" ∧ y.cls ≠ "java/lang/invoke/VarHandle" ∧ (parseMethodDescriptor y.desc).map (fun d => d.parameters.length) = some n) (hR : rm.frames + 1 ≤ R.frames ∧ 8 + (maxL + 11) + rm.locals ≤ R.locals) :
    vx_CSW R s args own index y bytes maxL ret hh ws rm mc ms n := by
  have ok : ∀ w ∈ va_wsS own index y ws, w.before args s = true := fun w h => ht w (hT w h).1
  have hG : GoodIn Ts ws := fun w h => hT w (by unfold va_wsS; exact List.mem_append_right _ h)
  have hc : Cond.codeWith y bytes maxL ret hh ∈ ws := by rw [hw]; exact List.mem_cons_self
  refine ⟨⟨hrc, hrs, hR.1, hR.2, pay_in ht hG, hc⟩, ht _ (hG _ hc).1, ok _ (by simp [va_wsS]), ⟨hd.1, hd.2.1⟩, fun sig h => ?_, ok _ (by simp [va_wsS]), ok _ (by simp [va_wsS])⟩
  have h2 := hd.2.2
  rw [h] at h2
  exact (Option.some.inj h2).symm
theorem vx_callSW (X : Stand p l e R s m args below meth c T locs cells slots) (hexec : p.tables.exec = Jvm.exec) {own : String} {index : Nat} {y : MethodName} {bytes : ByteArray} {maxL : Nat} {ret : Option FieldType} {hh : List (Nat × Nat × Nat × Nat)}
    (hown : s.vm.findClass own = some m.cls) (hlink : (Cond.methodLink own index y).before args s = true) (hstat : (Cond.static y).before args s = true) (hinit : (Cond.initialized y.cls).before args s = true)
    (hcode : (Cond.codeWith y bytes maxL ret hh).before args s = true) (hy : y.cls ≠ "java/lang/invoke/MethodHandle" ∧ y.cls ≠ "java/lang/invoke/VarHandle")
    {W9 : Nat} {Pre : Pt → Array Value → Prop} {Post : Pt → Array Value → Option Value → Pt → Prop} (hK : Back l R p e below s args y 3 W9 Pre Post)
    {g : JFrame} (hg : g.method = m) (hsize : g.locals.size = c.maxLocals) {argsL rest : List Value} (hlen : ∀ sig, parseMethodDescriptor y.desc = some sig → argsL.length = sig.parameters.length)
    (hstack : g.stack = argsL.reverse ++ rest) (hW : 2 * g.monitorRoom + (rest.map fun v => v.category).sum ≤ W9) (hdg : decode c.code g.pc = .ok (.invokestatic index, 3))
    (hpre : ∀ vm₁, s.WarmedH vm₁ → Pre ⟨T.setVm vm₁, locs, cells, slots⟩ argsL.toArray) :
    ∃ (v : Option Value) (vm₁ : Vm) (B : Pt), s.WarmedH vm₁ ∧ Stand p l e R s m args below meth c B.U B.locs B.cells B.slots ∧ Post ⟨T.setVm vm₁, locs, cells, slots⟩ argsL.toArray v B ∧
      ∀ target, Steps p.tables e below (B.U.setTop { g with pc := g.pc + 3, stack := v.toList ++ rest }) target → Steps p.tables e below (T.setTop g) target := by
  obtain ⟨mk, methM, cM, hnamed, hmethM, -, -, -, -, -, -, hsigM⟩ := Cond.codeWith_spec hcode
  have hstatic : methM.isStatic = true := Cond.static_spec hnamed hmethM hstat
  obtain ⟨kP, hkP, -⟩ := className_of_methodNamed hnamed
  have hinitP : kP.init = .initialized := Cond.initialized_spec (findClass_of_methodNamed hnamed) hkP hinit
  obtain ⟨vm₁, X₁, hstep₁⟩ := X.invokestatic hexec hown hlink hnamed hmethM hstatic hkP hinitP hy (g := g) hg (argsL := argsL) (rest := rest) (hlen _ hsigM) hstack hdg
  obtain ⟨v, B, X', hpost, hsteps⟩ := hK m meth c ⟨T.setVm vm₁, locs, cells, slots⟩ { g with stack := rest } (.invokestatic index) mk argsL.toArray X₁ hg hsize hdg hW (X₁.named hnamed) (hpre vm₁ X₁.warmed)
  exact ⟨v, vm₁, B, X₁.warmed, X', hpost, fun target h => hstep₁ _ fun acts => by rw [doInvoke_state]; exact hsteps.trans h⟩
theorem vx_runSW {y : MethodName} {bytes cc : ByteArray} {maxL nL mc ms n index : Nat} {ret : Option FieldType} {hh : List (Nat × Nat × Nat × Nat)} {ws : List Cond} {rm : Room} {Pc : Array Value → State → Prop} {Qc : Array Value → State → Outcome → State → Prop} {free : Addr → Prop} {Ts : List Cond} {own : String} {As rest : List Value} {g : JFrame}
    (S : CallFix p m c cc nL s args Ts own) (hM : Met l y ws rm Pc Qc mc ms free) (cw : vx_CSW R s args own index y bytes maxL ret hh ws rm mc ms n) (hp : PreS s H Pc As)
    (hg : g.method = m) (hn : As.length = n) (hsize : g.locals.size = nL) (hstack : g.stack = As.reverse ++ rest) (hW : 2 * g.monitorRoom + (rest.map fun v => v.category).sum ≤ 8) (hdg : decode cc g.pc = .ok (.invokestatic index, 3)) (hf : cells + mc ≤ R.cells ∧ slots + ms ≤ R.slots) :
    va_Run p l e R s m args below meth c H locs cells slots mc ms g rest (Qc As.toArray) (free) := by
  obtain ⟨⟨hrc, hrs, hfr, hlo, hws, hcw⟩, hcode, hini, hy, hlen, hl, hstt⟩ := cw
  have hK : Back l R p e below s args y 3 8 (PreOf R mc ms Pc) (PostOf Qc mc ms free) := va_backW (hh := hh) (bytes := bytes) (maxL := maxL) (ret := ret) hM hp.1 hrc hrs hfr hlo hws hcw (fun a' U hW => word_at hW (Or.inl (by first | rfl | simp [Cond.onTables, Cond.keeps, Cond.steady])) hini)
  obtain ⟨hx, hb, hml, ho, -⟩ := S
  intro T hT X
  obtain ⟨v, vm₁, ⟨U', l2, c2, s2⟩, hW₁, X', ⟨g', mk, t, L, e1, e2, hq, h1, hL, h2, h3⟩, st⟩ := vx_callSW X hx (hh := hh) (bytes := bytes) (maxL := maxL) (ret := ret) ho hl hstt hini hcode hy hK hg (hsize.trans hml.symm) (argsL := As) (rest := rest) (fun sig h => hn.trans (hlen sig h)) hstack hW (by rw [hb]; exact hdg)
    (fun vm₁ hW₁ => ⟨hf.1, hf.2, hp.2 (T.setVm vm₁) hT hW₁⟩)
  dsimp only [Pt.U, Pt.locs, Pt.cells, Pt.slots] at X' e1 e2 h1 h2 h3 st
  subst h1; subst h2; subst h3
  exact ⟨v, (T.setVm vm₁).calling g' mk As.toArray, t, U', L, hT, X', hL, e1, e2, hq, st⟩
/-- not caught here, past rows that name other classes: it goes on to the caller -/
theorem vx_outP {p : Program} {l : Launch} {e : Env} {R : Room} {s : State} {m : MethodId} {args : Array Value} {below : List Frame} {meth : Method} {c : Code} {H : Heap} {locs : List Loc} {cells slots : Nat} {free : Addr → Prop} {ls : Array Slot} {rest : List Value} {Qc : Array Value → State → Outcome → State → Prop} {XC : String → State → State → Prop}
    {pc : Nat} {own E : String} {ce : Cell} {q : Addr} {mc ms : Nat} (hown : s.vm.findClass own = some m.cls) (hlocks : meth.locks = false)
    (hpass : ∀ z ∈ c.exceptionTable.toList, covers z pc = false ∨ (z.catchType ≠ 0 ∧ ∃ nm : String, (Cond.classLink own z.catchType nm).before args s = true ∧ va_Nc E nm s)) (hcell : H[q]? = some ce) (hv : ce.vm = .none) (hcl : s.vm.findClass E = some ce.cls)
    (hx : ∀ t : State, t.heap = H → s.vm.Alike t.vm → XC E s t) (hf : ∀ z ∈ locs, free z.base) (hc : cells ≤ mc) (hs : slots ≤ ms) :
    vx_W p l e R s m args below meth c H locs cells slots (vx_MQ below Qc XC args s mc ms free) (F0 m pc ls rest) q := by
  intro T hT X
  have hpl : e.platform.magicAccessors = ({} : Platform).magicAccessors := by rw [X.admits.platform]
  obtain ⟨vm', hW', X', st⟩ := X.outThrough hlocks q (g := F0 m pc ls rest) rfl rfl rfl (cell := ce) (by rw [hT]; exact hcell) (by rw [hv]; rfl)
    (by obtain ⟨k9, h9, -⟩ := Vm.findClass_spec hcl; exact ⟨k9, h9⟩) (fun z hz => by
      rcases hpass z hz with h | ⟨hz0, nm, hl1, hn1⟩
      · exact Or.inl h
      · obtain ⟨c6, hc6, hcl6⟩ := Cond.classLink_spec hown hl1 e.platform hpl
        obtain ⟨a8, b8, h1, h2, h3⟩ := hn1
        cases Option.some.inj (h1.symm.trans hcl)
        cases Option.some.inj (h2.symm.trans hc6)
        exact Or.inr ⟨hz0, _, hcl6, h3⟩)
  obtain ⟨g₀, hfr⟩ := X'.frames_eq
  have hcell9 : ((T.setVm vm').setFrames (.throwing q :: below)).heap[q]? = some ce := by
    show T.heap[q]? = some ce
    rw [hT]; exact hcell
  have hend : Ended ((T.setVm vm').setFrames (.throwing q :: below)) below (.threw q) := State.frames_setFrames _ (State.cur_lt_of_frames hfr)
  refine ⟨(T.setVm vm').setFrames (.throwing q :: below), ?_, .threw q, X'.here.running, hend, Or.inr ⟨q, rfl, E, ce, locs, hx _ hT (X'.ends _).1.alike, hcell9, hv, hcl, (X'.ends _).1, (X'.ends _).2.mono hc hs, hf⟩⟩
  rw [X.pushThrowing_eq]
  exact st
/-- a thing of a world lies in the heap -/
theorem vx_lt {D : va_G} {cl : List vw_C} {ws : va_W} {H1 : Heap} (h : va_P D cl ws H1) {k : Nat} {q : Nat × va_E} (hk : ws[k]? = some q) : q.1 < H1.size := (h k q hk).lt
end VXS
/-! ===== END ===== -/
/-! ===== BEGIN methods with a table of their own: called by a name, returning or throwing ===== -/
section VXH
/-! vx_backW, vx_callVX, vx_callSX, vx_callVW, vx_runVW, vx_runVX, vx_runSX, vx_ofWH follow the same proofs as their sisters above (Free/Laws.lean, Shelf42/LK1.lean); vx_outP calls Shelf42/NT130.lean (outThrough). -/
section
variable {l : Launch} {R : Room} {p : Program} {e : Env} {below : List Frame} {s : State} {sargs : Array Value} {y : MethodName} {len W9 : Nat}
theorem vx_backW {ws : List Cond} {rm : Room} {Pc : Array Value → State → Prop} {Qc : Array Value → State → Outcome → State → Prop} {XC : String → State → State → Prop} {mc ms : Nat} {free : Addr → Prop} {bytes : ByteArray} {maxL : Nat} {ret : Option FieldType} {hh : List (Nat × Nat × Nat × Nat)}
    (hM : vx_Met l y ws rm Pc Qc XC mc ms free) (hblind : FrameBlind Pc) (hrc : rm.cells = mc) (hrs : rm.slots = ms)
    (hframes : rm.frames + 1 ≤ R.frames) (hlocals : W9 + (maxL + 11) + rm.locals ≤ R.locals)
    (hws : ∀ w ∈ ws, ∀ a' U, s.WarmedH U.vm → w.before a' U = true) (hcode : Cond.codeWith y bytes maxL ret hh ∈ ws) (hinit : ∀ a' U, s.WarmedH U.vm → (Cond.initialized y.cls).before a' U = true) :
    vx_Back l R p e below s sargs y len W9 (PreOf R mc ms Pc) (PostOf Qc mc ms free) (vx_Post XC mc ms free) := by
  intro m meth c A g ig mk a X hg hsize hdg hW hn hp
  have h1 : (headSpec ws rm).pre.before a A.U = true := atoms_intro fun w hw => hws w hw _ _ X.warmed
  have h2 : (Cond.codeWith y bytes maxL ret hh).before a A.U = true := hws _ hcode _ _ X.warmed
  have h3 : (Cond.initialized y.cls).before a A.U = true := hinit _ _ X.warmed
  have h4 : A.cells + (headSpec ws rm).room.cells ≤ R.cells := by rw [show (headSpec ws rm).room.cells = mc from hrc]; exact hp.1
  have h5 : A.slots + (headSpec ws rm).room.slots ≤ R.slots := by rw [show (headSpec ws rm).room.slots = ms from hrs]; exact hp.2.1
  have hPc : Pc a (A.U.calling g mk a) := hblind _ _ _ _ hp.2.2
  obtain ⟨U, Ls, c0, s0⟩ := A
  dsimp only [Pt.U, Pt.locs, Pt.cells, Pt.slots] at h1 h2 h3 h4 h5 X hn hPc ⊢
  obtain ⟨m9, methY, cY, hn9, hmY, hcY, -, hlY, -⟩ := Cond.codeWith_spec h2
  cases Option.some.inj (hn9.symm.trans hn)
  obtain ⟨kY, hkY, -⟩ := className_of_methodNamed hn
  have hinitY : kY.init = .initialized := Cond.initialized_spec (findClass_of_methodNamed hn) hkY h3
  have h : At U g.method c below := by rw [hg]; exact X.here
  have hlocals9 : W9 + (maxL + 11) + (headSpec ws rm).room.locals ≤ R.locals := hlocals
  have happ : (headSpec ws rm).appliesLoose y e.platform (U.calling g mk a) = true :=
    Spec.appliesLoose_calling (g := g) h hdg hn hkY hinitY
      (X.room_calling (g := g) (R' := (headSpec ws rm).room) hsize hmY hcY hframes (by rw [hlY]; omega) h4 h5) h1
  obtain ⟨mid, hmid⟩ := h.above
  have hfr : (U.setTop g).frames = (.java g :: mid) ++ below := by rw [State.frames_setTop' g h.top, hmid]; rfl
  obtain ⟨o, s₂, hsteps, -, hend, hq⟩ := Steps.callFree hM p X.admits X.cas X.clock (acts := []) hfr happ hPc trivial
  have hq' : vx_Q Qc XC mc ms free a (U.calling g mk a) o s₂ := hq
  rw [State.frames_setTop' g h.top] at hend
  obtain ⟨g₀, hg0⟩ := Option.isSome_iff_exists.mp h.top
  obtain ⟨r, hr⟩ := State.topJava?_eq_some.mp hg0
  have hr' : (({ U with heap := s₂.heap, slotsUsed := s₂.slotsUsed } : State).setVm s₂.vm).frames = .java g₀ :: r := hr
  rcases hq' with ⟨hqc, L, hfe, hL⟩ | ⟨q, rfl, E, ce, L, hx, hce, hcv, hcl, hW₂, hsm, hL⟩
  · obtain ⟨⟨v, rfl⟩, hW₂, e2, q2, q3, q4, q5, q6⟩ := id hfe
    have e3 : s₂ = ({ (U.calling g mk a).setFrames s₂.frames with heap := s₂.heap, slotsUsed := s₂.slotsUsed } : State).setVm s₂.vm := by
      have : s₂ = ({ s₂ with vm := (U.calling g mk a).vm } : State).setVm s₂.vm := rfl
      rw [e2] at this
      exact this
    obtain ⟨c₂, i₂, len₂, hc₂, hd₂, hf₂⟩ := hend
    have hW' : U.WarmedH s₂.vm := hW₂
    have hcc : c₂ = c := by
      have h1 : s₂.code? g.method = U.code? g.method := by
        rw [State.code?_eq, State.code?_eq, hW'.alike.method?]
      exact Option.some.inj (hc₂.symm.trans (h1.trans h.code))
    subst hcc
    have hlen : len₂ = len := by rw [hdg] at hd₂; cases hd₂; rfl
    subst hlen
    have hs₂ : s₂ = (({ U with heap := s₂.heap, slotsUsed := s₂.slotsUsed } : State).setVm s₂.vm).setTop { g with pc := g.pc + len₂, stack := v.toList ++ g.stack } := by
      refine e3.trans ?_
      rw [hf₂, State.calling_eq h.top, State.setFrames_setFrames, State.setTop_of_frames _ hr', hr]
      rfl
    have hsame : U.sameButNew ({ U with heap := s₂.heap, slotsUsed := s₂.slotsUsed } : State) L mc ms := by
      refine ⟨?_, q2, q3, q4, q5, q6⟩
      obtain ⟨t, ht, -⟩ := State.frames_cons hr
      show ({ U with heap := s₂.heap, slotsUsed := s₂.slotsUsed } : State) = { U.setFrames U.frames with heap := s₂.heap, slotsUsed := s₂.slotsUsed }
      rw [State.setFrames_self ht]
    subst hg
    refine Or.inl ⟨v, ⟨(({ U with heap := s₂.heap, slotsUsed := s₂.slotsUsed } : State).setVm s₂.vm), Ls ++ L, c0 + mc, s0 + ms⟩,
      ⟨X.admits, X.cas, X.clock, X.frames, X.room, X.hears, X.method, X.code, (X.here.setHeapUsed s₂.heap s₂.slotsUsed).setVm hW'.alike, X.tail, State.WarmedH.trans X.warmed hW', X.limits, X.bytes, X.same.trans (hsame.setVm s.vm)⟩,
      ⟨g, mk, s₂, L, rfl, rfl, hqc, rfl, hL, rfl, rfl⟩, ?_⟩
    show Steps p.tables e below _ ((({ U with heap := s₂.heap, slotsUsed := s₂.slotsUsed } : State).setVm s₂.vm).setTop { g with pc := g.pc + len₂, stack := v.toList ++ g.stack })
    rw [← hs₂]
    exact hsteps
  · obtain ⟨e2, q2, q3, q4, q5, q6⟩ := id hsm
    have e3 : s₂ = ({ (U.calling g mk a).setFrames s₂.frames with heap := s₂.heap, slotsUsed := s₂.slotsUsed } : State).setVm s₂.vm := by
      have : s₂ = ({ s₂ with vm := (U.calling g mk a).vm } : State).setVm s₂.vm := rfl
      rw [e2] at this
      exact this
    have hf₂ : s₂.frames = .throwing q :: .java g :: U.frames.tail := hend
    have hW' : U.WarmedH s₂.vm := hW₂
    have hs₂ : s₂ = ((({ U with heap := s₂.heap, slotsUsed := s₂.slotsUsed } : State).setVm s₂.vm).setTop g).pushFrame (.throwing q) := by
      refine e3.trans ?_
      rw [hf₂, State.calling_eq h.top, State.setFrames_setFrames, State.pushFrame, State.frames_setTop _ hr', State.setTop_of_frames _ hr', State.setFrames_setFrames, hr]
      rfl
    have hsame : U.sameButNew ({ U with heap := s₂.heap, slotsUsed := s₂.slotsUsed } : State) L mc ms := by
      refine ⟨?_, q2, q3, q4, q5, q6⟩
      obtain ⟨t, ht, -⟩ := State.frames_cons hr
      show ({ U with heap := s₂.heap, slotsUsed := s₂.slotsUsed } : State) = { U.setFrames U.frames with heap := s₂.heap, slotsUsed := s₂.slotsUsed }
      rw [State.setFrames_self ht]
    subst hg
    refine Or.inr ⟨q, ⟨(({ U with heap := s₂.heap, slotsUsed := s₂.slotsUsed } : State).setVm s₂.vm), Ls ++ L, c0 + mc, s0 + ms⟩,
      ⟨X.admits, X.cas, X.clock, X.frames, X.room, X.hears, X.method, X.code, (X.here.setHeapUsed s₂.heap s₂.slotsUsed).setVm hW'.alike, X.tail, State.WarmedH.trans X.warmed hW', X.limits, X.bytes, X.same.trans (hsame.setVm s.vm)⟩,
      ⟨g, mk, s₂, L, E, ce, rfl, rfl, hx, hce, hcv, hcl, rfl, hL, rfl, rfl⟩, ?_⟩
    show Steps p.tables e below _ (((({ U with heap := s₂.heap, slotsUsed := s₂.slotsUsed } : State).setVm s₂.vm).setTop g).pushFrame (.throwing q))
    rw [← hs₂]
    exact hsteps
end
variable {p : Program} {l : Launch} {e : Env} {R : Room} {s : State} {m : MethodId} {args : Array Value} {below : List Frame} {meth : Method} {c : Code} {T : State} {H : Heap} {locs : List Loc} {cells slots : Nat}
theorem vx_callVX (X : Stand p l e R s m args below meth c T locs cells slots) (hexec : p.tables.exec = Jvm.exec) {own C : String} {index : Nat} {y : MethodName} {bytes : ByteArray} {maxL : Nat} {ret : Option FieldType} {hh : List (Nat × Nat × Nat × Nat)}
    (hown : s.vm.findClass own = some m.cls) (hlink : (Cond.methodLink own index y).before args s = true) (hinst : (Cond.instanceMethod y).before args s = true) (hsel : (Cond.selects C y y).before args s = true)
    (hcode : (Cond.codeWith y bytes maxL ret hh).before args s = true) (hy : y.cls ≠ "java/lang/invoke/MethodHandle" ∧ y.cls ≠ "java/lang/invoke/VarHandle")
    {W9 : Nat} {Pre : Pt → Array Value → Prop} {Post : Pt → Array Value → Option Value → Pt → Prop} {PostX : Pt → Array Value → Addr → Pt → Prop} (hK : vx_Back l R p e below s args y 3 W9 Pre Post PostX)
    {b : Addr} {cellB : Cell} (hcell : T.heap[b]? = some cellB) (hobj : cellB.vm.isStatics = false) (hcls : s.vm.findClass C = some cellB.cls)
    {g : JFrame} (hg : g.method = m) (hsize : g.locals.size = c.maxLocals) {argsL rest : List Value} (hlen : ∀ sig, parseMethodDescriptor y.desc = some sig → argsL.length = sig.parameters.length)
    (hstack : g.stack = argsL.reverse ++ .ref b :: rest) (hW : 2 * g.monitorRoom + (rest.map fun v => v.category).sum ≤ W9) (hdg : decode c.code g.pc = .ok (.invokevirtual index, 3))
    (hpre : ∀ vm₁, s.WarmedH vm₁ → Pre ⟨T.setVm vm₁, locs, cells, slots⟩ (Value.ref b :: argsL).toArray) :
    (∃ (v : Option Value) (vm₁ : Vm) (B : Pt), s.WarmedH vm₁ ∧ Stand p l e R s m args below meth c B.U B.locs B.cells B.slots ∧ Post ⟨T.setVm vm₁, locs, cells, slots⟩ (Value.ref b :: argsL).toArray v B ∧
      ∀ target, Steps p.tables e below (B.U.setTop { g with pc := g.pc + 3, stack := v.toList ++ rest }) target → Steps p.tables e below (T.setTop g) target) ∨
    (∃ (q : Addr) (vm₁ : Vm) (B : Pt), s.WarmedH vm₁ ∧ Stand p l e R s m args below meth c B.U B.locs B.cells B.slots ∧ PostX ⟨T.setVm vm₁, locs, cells, slots⟩ (Value.ref b :: argsL).toArray q B ∧
      Steps p.tables e below (T.setTop g) ((B.U.setTop { g with stack := rest }).pushFrame (.throwing q))) := by
  obtain ⟨mk, methM, hnamed, hmethM, hstM, habM⟩ := Cond.instanceMethod_spec hinst
  obtain ⟨m8, methM', cM, hn8, hmethM', -, -, -, -, -, -, hsigM⟩ := Cond.codeWith_spec hcode
  cases Option.some.inj (hn8.symm.trans hnamed)
  cases hmethM.symm.trans hmethM'
  obtain ⟨c2, r2, m2, q1, q2, q3, q4, kP, hkP, hkPi⟩ := Cond.selects_spec hsel
  cases hcls.symm.trans q1
  cases (State.methodFound?_of_named hnamed hy).symm.trans q2
  cases hnamed.symm.trans q3
  have hselP : selectMethod e.platform s.vm cellB.cls mk = .method mk := by rw [Launch.admits_selectMethod X.admits]; exact q4
  obtain ⟨vm₁, X₁, hstep₁⟩ := X.invokevirtual hexec hown hlink hnamed hmethM hstM hkP hkPi hy (a := b) (cell := cellB) hcell
    (fun z h => by rw [h] at hobj; cases hobj) hselP hmethM habM hkP hkPi (g := g) hg (argsL := argsL) (rest := rest) (hlen _ hsigM) hstack hdg
  rcases hK m meth c ⟨T.setVm vm₁, locs, cells, slots⟩ { g with stack := rest } (.invokevirtual index) mk (Value.ref b :: argsL).toArray X₁ hg hsize hdg hW (X₁.named hnamed) (hpre vm₁ X₁.warmed) with ⟨v, B, X', hpost, hsteps⟩ | ⟨q, B, X', hpost, hsteps⟩
  · exact Or.inl ⟨v, vm₁, B, X₁.warmed, X', hpost, fun target h => hstep₁ _ fun acts => by rw [doInvoke_state]; exact hsteps.trans h⟩
  · exact Or.inr ⟨q, vm₁, B, X₁.warmed, X', hpost, hstep₁ _ fun acts => by rw [doInvoke_state]; exact hsteps⟩
theorem vx_callSX (X : Stand p l e R s m args below meth c T locs cells slots) (hexec : p.tables.exec = Jvm.exec) {own : String} {index : Nat} {y : MethodName} {bytes : ByteArray} {maxL : Nat} {ret : Option FieldType} {hh : List (Nat × Nat × Nat × Nat)}
    (hown : s.vm.findClass own = some m.cls) (hlink : (Cond.methodLink own index y).before args s = true) (hstat : (Cond.static y).before args s = true) (hinit : (Cond.initialized y.cls).before args s = true)
    (hcode : (Cond.codeWith y bytes maxL ret hh).before args s = true) (hy : y.cls ≠ "java/lang/invoke/MethodHandle" ∧ y.cls ≠ "java/lang/invoke/VarHandle")
    {W9 : Nat} {Pre : Pt → Array Value → Prop} {Post : Pt → Array Value → Option Value → Pt → Prop} {PostX : Pt → Array Value → Addr → Pt → Prop} (hK : vx_Back l R p e below s args y 3 W9 Pre Post PostX)
    {g : JFrame} (hg : g.method = m) (hsize : g.locals.size = c.maxLocals) {argsL rest : List Value} (hlen : ∀ sig, parseMethodDescriptor y.desc = some sig → argsL.length = sig.parameters.length)
    (hstack : g.stack = argsL.reverse ++ rest) (hW : 2 * g.monitorRoom + (rest.map fun v => v.category).sum ≤ W9) (hdg : decode c.code g.pc = .ok (.invokestatic index, 3))
    (hpre : ∀ vm₁, s.WarmedH vm₁ → Pre ⟨T.setVm vm₁, locs, cells, slots⟩ argsL.toArray) :
    (∃ (v : Option Value) (vm₁ : Vm) (B : Pt), s.WarmedH vm₁ ∧ Stand p l e R s m args below meth c B.U B.locs B.cells B.slots ∧ Post ⟨T.setVm vm₁, locs, cells, slots⟩ argsL.toArray v B ∧
      ∀ target, Steps p.tables e below (B.U.setTop { g with pc := g.pc + 3, stack := v.toList ++ rest }) target → Steps p.tables e below (T.setTop g) target) ∨
    (∃ (q : Addr) (vm₁ : Vm) (B : Pt), s.WarmedH vm₁ ∧ Stand p l e R s m args below meth c B.U B.locs B.cells B.slots ∧ PostX ⟨T.setVm vm₁, locs, cells, slots⟩ argsL.toArray q B ∧
      Steps p.tables e below (T.setTop g) ((B.U.setTop { g with stack := rest }).pushFrame (.throwing q))) := by
  obtain ⟨mk, methM, cM, hnamed, hmethM, -, -, -, -, -, -, hsigM⟩ := Cond.codeWith_spec hcode
  have hstatic : methM.isStatic = true := Cond.static_spec hnamed hmethM hstat
  obtain ⟨kP, hkP, -⟩ := className_of_methodNamed hnamed
  have hinitP : kP.init = .initialized := Cond.initialized_spec (findClass_of_methodNamed hnamed) hkP hinit
  obtain ⟨vm₁, X₁, hstep₁⟩ := X.invokestatic hexec hown hlink hnamed hmethM hstatic hkP hinitP hy (g := g) hg (argsL := argsL) (rest := rest) (hlen _ hsigM) hstack hdg
  rcases hK m meth c ⟨T.setVm vm₁, locs, cells, slots⟩ { g with stack := rest } (.invokestatic index) mk argsL.toArray X₁ hg hsize hdg hW (X₁.named hnamed) (hpre vm₁ X₁.warmed) with ⟨v, B, X', hpost, hsteps⟩ | ⟨q, B, X', hpost, hsteps⟩
  · exact Or.inl ⟨v, vm₁, B, X₁.warmed, X', hpost, fun target h => hstep₁ _ fun acts => by rw [doInvoke_state]; exact hsteps.trans h⟩
  · exact Or.inr ⟨q, vm₁, B, X₁.warmed, X', hpost, hstep₁ _ fun acts => by rw [doInvoke_state]; exact hsteps⟩
theorem vx_callVW (X : Stand p l e R s m args below meth c T locs cells slots) (hexec : p.tables.exec = Jvm.exec) {own C : String} {index : Nat} {y : MethodName} {bytes : ByteArray} {maxL : Nat} {ret : Option FieldType} {hh : List (Nat × Nat × Nat × Nat)}
    (hown : s.vm.findClass own = some m.cls) (hlink : (Cond.methodLink own index y).before args s = true) (hinst : (Cond.instanceMethod y).before args s = true) (hsel : (Cond.selects C y y).before args s = true)
    (hcode : (Cond.codeWith y bytes maxL ret hh).before args s = true) (hy : y.cls ≠ "java/lang/invoke/MethodHandle" ∧ y.cls ≠ "java/lang/invoke/VarHandle")
    {W9 : Nat} {Pre : Pt → Array Value → Prop} {Post : Pt → Array Value → Option Value → Pt → Prop} (hK : Back l R p e below s args y 3 W9 Pre Post)
    {b : Addr} {cellB : Cell} (hcell : T.heap[b]? = some cellB) (hobj : cellB.vm.isStatics = false) (hcls : s.vm.findClass C = some cellB.cls)
    {g : JFrame} (hg : g.method = m) (hsize : g.locals.size = c.maxLocals) {argsL rest : List Value} (hlen : ∀ sig, parseMethodDescriptor y.desc = some sig → argsL.length = sig.parameters.length)
    (hstack : g.stack = argsL.reverse ++ .ref b :: rest) (hW : 2 * g.monitorRoom + (rest.map fun v => v.category).sum ≤ W9) (hdg : decode c.code g.pc = .ok (.invokevirtual index, 3))
    (hpre : ∀ vm₁, s.WarmedH vm₁ → Pre ⟨T.setVm vm₁, locs, cells, slots⟩ (Value.ref b :: argsL).toArray) :
    ∃ (v : Option Value) (vm₁ : Vm) (B : Pt), s.WarmedH vm₁ ∧ Stand p l e R s m args below meth c B.U B.locs B.cells B.slots ∧ Post ⟨T.setVm vm₁, locs, cells, slots⟩ (Value.ref b :: argsL).toArray v B ∧
      ∀ target, Steps p.tables e below (B.U.setTop { g with pc := g.pc + 3, stack := v.toList ++ rest }) target → Steps p.tables e below (T.setTop g) target := by
  obtain ⟨mk, methM, hnamed, hmethM, hstM, habM⟩ := Cond.instanceMethod_spec hinst
  obtain ⟨m8, methM', cM, hn8, hmethM', -, -, -, -, -, -, hsigM⟩ := Cond.codeWith_spec hcode
  cases Option.some.inj (hn8.symm.trans hnamed)
  cases hmethM.symm.trans hmethM'
  obtain ⟨c2, r2, m2, q1, q2, q3, q4, kP, hkP, hkPi⟩ := Cond.selects_spec hsel
  cases hcls.symm.trans q1
  cases (State.methodFound?_of_named hnamed hy).symm.trans q2
  cases hnamed.symm.trans q3
  have hselP : selectMethod e.platform s.vm cellB.cls mk = .method mk := by rw [Launch.admits_selectMethod X.admits]; exact q4
  obtain ⟨vm₁, X₁, hstep₁⟩ := X.invokevirtual hexec hown hlink hnamed hmethM hstM hkP hkPi hy (a := b) (cell := cellB) hcell
    (fun z h => by rw [h] at hobj; cases hobj) hselP hmethM habM hkP hkPi (g := g) hg (argsL := argsL) (rest := rest) (hlen _ hsigM) hstack hdg
  obtain ⟨v, B, X', hpost, hsteps⟩ := hK m meth c ⟨T.setVm vm₁, locs, cells, slots⟩ { g with stack := rest } (.invokevirtual index) mk (Value.ref b :: argsL).toArray X₁ hg hsize hdg hW (X₁.named hnamed) (hpre vm₁ X₁.warmed)
  exact ⟨v, vm₁, B, X₁.warmed, X', hpost, fun target h => hstep₁ _ fun acts => by rw [doInvoke_state]; exact hsteps.trans h⟩
abbrev vx_CVW (R : Room) (s : State) (args : Array Value) (own C : String) (index : Nat) (y : MethodName) (bytes : ByteArray) (maxL : Nat) (ret : Option FieldType) (hh : List (Nat × Nat × Nat × Nat)) (ws : List Cond) (rm : Room) (mc ms n : Nat) : Prop :=
  (rm.cells = mc ∧ rm.slots = ms ∧ rm.frames + 1 ≤ R.frames ∧ 8 + (maxL + 11) + rm.locals ≤ R.locals ∧ (∀ w ∈ ws, ∀ (a' : Array Value) (U : State), s.WarmedH U.vm → w.before a' U = true) ∧ Cond.codeWith y bytes maxL ret hh ∈ ws) ∧
  (Cond.codeWith y bytes maxL ret hh).before args s = true ∧ (Cond.initialized y.cls).before args s = true ∧ (y.cls ≠ "java/lang/invoke/MethodHandle" ∧ y.cls ≠ "java/lang/invoke/VarHandle") ∧
  (∀ sig, parseMethodDescriptor y.desc = some sig → n = sig.parameters.length) ∧ (Cond.methodLink own index y).before args s = true ∧ (Cond.instanceMethod y).before args s = true ∧ (Cond.selects C y y).before args s = true
theorem vx_cwVW {own C : String} {index maxL mc ms : Nat} {y : MethodName} {bytes : ByteArray} {ret : Option FieldType} {hh : List (Nat × Nat × Nat × Nat)} {Ts ws ws' : List Cond} {rm : Room} (n : Nat) (ht : ∀ w ∈ Ts, w.before args s = true) (hT : GoodIn Ts (wsV own index C y ws)) (hw : ws = Cond.codeWith y bytes maxL ret hh :: ws') (hrc : rm.cells = mc) (hrs : rm.slots = ms)
    (hd : y.cls = C ∧ y.cls ≠ "java/lang/invoke/MethodHandle" ∧ y.cls ≠ "java/lang/invoke/VarHandle" ∧ (parseMethodDescriptor y.desc).map (fun d => d.parameters.length) = some n) (hR : rm.frames + 1 ≤ R.frames ∧ 8 + (maxL + 11) + rm.locals ≤ R.locals) :
    vx_CVW R s args own C index y bytes maxL ret hh ws rm mc ms n := by
  obtain ⟨hC, hd⟩ := hd
  subst hC
  have ok : ∀ w ∈ wsV own index y.cls y ws, w.before args s = true := fun w h => ht w (hT w h).1
  have hG : GoodIn Ts ws := fun w h => hT w (by unfold wsV; exact List.mem_append_right _ h)
  have hc : Cond.codeWith y bytes maxL ret hh ∈ ws := by rw [hw]; exact List.mem_cons_self
  refine ⟨⟨hrc, hrs, hR.1, hR.2, pay_in ht hG, hc⟩, ht _ (hG _ hc).1, ok _ (by simp [wsV]), ⟨hd.1, hd.2.1⟩, fun sig h => ?_, ok _ (by simp [wsV]), ok _ (by simp [wsV]), ok _ (by simp [wsV])⟩
  have h2 := hd.2.2
  rw [h] at h2
  exact (Option.some.inj h2).symm
theorem vx_runVW {y : MethodName} {bytes cc : ByteArray} {maxL nL mc ms n index : Nat} {ret : Option FieldType} {hh : List (Nat × Nat × Nat × Nat)} {ws : List Cond} {rm : Room} {Pc : Array Value → State → Prop} {Qc : Array Value → State → Outcome → State → Prop} {free : Addr → Prop} {Ts : List Cond} {own C : String} {b : Addr} {As rest : List Value} {g : JFrame}
    (S : CallFix p m c cc nL s args Ts own) (hM : Met l y ws rm Pc Qc mc ms free) (cw : vx_CVW R s args own C index y bytes maxL ret hh ws rm mc ms n) (hp : PreV s H C b Pc As)
    (hg : g.method = m) (hn : As.length = n) (hsize : g.locals.size = nL) (hstack : g.stack = As.reverse ++ .ref b :: rest) (hW : 2 * g.monitorRoom + (rest.map fun v => v.category).sum ≤ 8) (hdg : decode cc g.pc = .ok (.invokevirtual index, 3)) (hf : cells + mc ≤ R.cells ∧ slots + ms ≤ R.slots) :
    va_Run p l e R s m args below meth c H locs cells slots mc ms g rest (Qc (Value.ref b :: As).toArray) free := by
  obtain ⟨⟨hrc, hrs, hfr, hlo, hws, hcw⟩, hcode, hini, hy, hlen, hl, hin, hse⟩ := cw
  have hK : Back l R p e below s args y 3 8 (PreOf R mc ms Pc) (PostOf Qc mc ms free) := va_backW (hh := hh) (bytes := bytes) (maxL := maxL) (ret := ret) hM hp.1 hrc hrs hfr hlo hws hcw (fun a' U hW => word_at hW (Or.inl (by first | rfl | simp [Cond.onTables, Cond.keeps, Cond.steady])) hini)
  obtain ⟨hx, hb, hml, ho, -⟩ := S
  obtain ⟨-, ⟨cellB, hcB, hoB, hclB⟩, hPc⟩ := hp
  intro T hT X
  obtain ⟨v, vm₁, ⟨U', l2, c2, s2⟩, hW₁, X', ⟨g', mk, t, L, e1, e2, hq, h1, hL, h2, h3⟩, st⟩ := vx_callVW X hx (C := C) (hh := hh) (bytes := bytes) (maxL := maxL) (ret := ret) ho hl hin hse hcode hy hK (by rw [hT]; exact hcB) hoB hclB hg (hsize.trans hml.symm) (argsL := As) (rest := rest) (fun sig h => hn.trans (hlen sig h)) hstack hW (by rw [hb]; exact hdg)
    (fun vm₁ hW₁ => ⟨hf.1, hf.2, hPc (T.setVm vm₁) hT hW₁⟩)
  dsimp only [Pt.U, Pt.locs, Pt.cells, Pt.slots] at X' e1 e2 h1 h2 h3 st
  subst h1; subst h2; subst h3
  exact ⟨v, (T.setVm vm₁).calling g' mk (Value.ref b :: As).toArray, t, U', L, hT, X', hL, e1, e2, hq, st⟩
section
variable {y : MethodName} {bytes cc : ByteArray} {maxL nL mc ms n index : Nat} {ret : Option FieldType} {ws : List Cond} {rm : Room} {Pc : Array Value → State → Prop} {Qc : Array Value → State → Outcome → State → Prop} {XC : String → State → State → Prop} {free : Addr → Prop} {Ts : List Cond} {own C : String} {b : Addr} {As rest : List Value} {g : JFrame}
theorem vx_runVX {hh : List (Nat × Nat × Nat × Nat)} (S : CallFix p m c cc nL s args Ts own) (hM : vx_Met l y ws rm Pc Qc XC mc ms free) (cw : vx_CVW R s args own C index y bytes maxL ret hh ws rm mc ms n) (hp : PreV s H C b Pc As)
    (hg : g.method = m) (hn : As.length = n) (hsize : g.locals.size = nL) (hstack : g.stack = As.reverse ++ .ref b :: rest) (hW : 2 * g.monitorRoom + (rest.map fun v => v.category).sum ≤ 8) (hdg : decode cc g.pc = .ok (.invokevirtual index, 3)) (hf : cells + mc ≤ R.cells ∧ slots + ms ≤ R.slots) :
    vx_Run p l e R s m args below meth c H locs cells slots mc ms g rest (Qc (Value.ref b :: As).toArray) XC free := by
  obtain ⟨⟨hrc, hrs, hfr, hlo, hws, hcw⟩, hcode, hini, hy, hlen, hl, hin, hse⟩ := cw
  have hK : vx_Back l R p e below s args y 3 8 (PreOf R mc ms Pc) (PostOf Qc mc ms free) (vx_Post XC mc ms free) := vx_backW (hh := hh) (bytes := bytes) (maxL := maxL) (ret := ret) hM hp.1 hrc hrs hfr hlo hws hcw (fun a' U hW => word_at hW (Or.inl (by first | rfl | simp [Cond.onTables, Cond.keeps, Cond.steady])) hini)
  obtain ⟨hx, hb, hml, ho, -⟩ := S
  obtain ⟨-, ⟨cellB, hcB, hoB, hclB⟩, hPc⟩ := hp
  intro T hT X
  rcases vx_callVX X hx (C := C) (hh := hh) (bytes := bytes) (maxL := maxL) (ret := ret) ho hl hin hse hcode hy hK (by rw [hT]; exact hcB) hoB hclB hg (hsize.trans hml.symm) (argsL := As) (rest := rest) (fun sig h => hn.trans (hlen sig h)) hstack hW (by rw [hb]; exact hdg)
    (fun vm₁ hW₁ => ⟨hf.1, hf.2, hPc (T.setVm vm₁) hT hW₁⟩) with ⟨v, vm₁, ⟨U', l2, c2, s2⟩, hW₁, X', ⟨g', mk, t, L, e1, e2, hq, h1, hL, h2, h3⟩, st⟩ | ⟨q, vm₁, ⟨U', l2, c2, s2⟩, hW₁, X', ⟨g', mk, t, L, E, ce, e1, e2, hq, hce, hcv, hcl, h1, hL, h2, h3⟩, st⟩
  · dsimp only [Pt.U, Pt.locs, Pt.cells, Pt.slots] at X' e1 e2 h1 h2 h3 st
    subst h1; subst h2; subst h3
    exact Or.inl ⟨v, (T.setVm vm₁).calling g' mk (Value.ref b :: As).toArray, t, U', L, hT, X', hL, e1, e2, hq, st⟩
  · dsimp only [Pt.U, Pt.locs, Pt.cells, Pt.slots] at X' e1 e2 h1 h2 h3 st hcl
    subst h1; subst h2; subst h3
    exact Or.inr ⟨q, (T.setVm vm₁).calling g' mk (Value.ref b :: As).toArray, t, U', L, E, ce, hT, X', hL, e1, e2, hq, hce, hcv, vx_cls hW₁ hcl, st⟩
theorem vx_runSX {hh : List (Nat × Nat × Nat × Nat)} (S : CallFix p m c cc nL s args Ts own) (hM : vx_Met l y ws rm Pc Qc XC mc ms free) (cw : vx_CSW R s args own index y bytes maxL ret hh ws rm mc ms n) (hp : PreS s H Pc As)
    (hg : g.method = m) (hn : As.length = n) (hsize : g.locals.size = nL) (hstack : g.stack = As.reverse ++ rest) (hW : 2 * g.monitorRoom + (rest.map fun v => v.category).sum ≤ 8) (hdg : decode cc g.pc = .ok (.invokestatic index, 3)) (hf : cells + mc ≤ R.cells ∧ slots + ms ≤ R.slots) :
    vx_Run p l e R s m args below meth c H locs cells slots mc ms g rest (Qc As.toArray) XC free := by
  obtain ⟨⟨hrc, hrs, hfr, hlo, hws, hcw⟩, hcode, hini, hy, hlen, hl, hstt⟩ := cw
  have hK : vx_Back l R p e below s args y 3 8 (PreOf R mc ms Pc) (PostOf Qc mc ms free) (vx_Post XC mc ms free) := vx_backW (hh := hh) (bytes := bytes) (maxL := maxL) (ret := ret) hM hp.1 hrc hrs hfr hlo hws hcw (fun a' U hW => word_at hW (Or.inl (by first | rfl | simp [Cond.onTables, Cond.keeps, Cond.steady])) hini)
  obtain ⟨hx, hb, hml, ho, -⟩ := S
  intro T hT X
  rcases vx_callSX X hx (hh := hh) (bytes := bytes) (maxL := maxL) (ret := ret) ho hl hstt hini hcode hy hK hg (hsize.trans hml.symm) (argsL := As) (rest := rest) (fun sig h => hn.trans (hlen sig h)) hstack hW (by rw [hb]; exact hdg)
    (fun vm₁ hW₁ => ⟨hf.1, hf.2, hp.2 (T.setVm vm₁) hT hW₁⟩) with ⟨v, vm₁, ⟨U', l2, c2, s2⟩, hW₁, X', ⟨g', mk, t, L, e1, e2, hq, h1, hL, h2, h3⟩, st⟩ | ⟨q, vm₁, ⟨U', l2, c2, s2⟩, hW₁, X', ⟨g', mk, t, L, E, ce, e1, e2, hq, hce, hcv, hcl, h1, hL, h2, h3⟩, st⟩
  · dsimp only [Pt.U, Pt.locs, Pt.cells, Pt.slots] at X' e1 e2 h1 h2 h3 st
    subst h1; subst h2; subst h3
    exact Or.inl ⟨v, (T.setVm vm₁).calling g' mk As.toArray, t, U', L, hT, X', hL, e1, e2, hq, st⟩
  · dsimp only [Pt.U, Pt.locs, Pt.cells, Pt.slots] at X' e1 e2 h1 h2 h3 st hcl
    subst h1; subst h2; subst h3
    exact Or.inr ⟨q, (T.setVm vm₁).calling g' mk As.toArray, t, U', L, E, ce, hT, X', hL, e1, e2, hq, hce, hcv, vx_cls hW₁ hcl, st⟩
end
end VXH
theorem vx_ofWH {l : Launch} {y : MethodName} {ws ws' : List Cond} {rm : Room} {Pc : Array Value → State → Prop} {Qc : Array Value → State → Outcome → State → Prop} {XC : String → State → State → Prop} {mc ms : Nat} {free : Addr → Prop} {cc : ByteArray} {maxL : Nat} {ret : Option FieldType} {hh : List (Nat × Nat × Nat × Nat)}
    (hy : plainName y.cls = true) (hw : ws = Cond.codeWith y cc maxL ret hh :: ws')
    (body : ∀ p e s m args below meth c s₁, BodyLoose p l y (headSpec ws rm) cc maxL ret e s m args below meth c s₁ → c.maxLocals = maxL → Pc args s →
      W p l e (headSpec ws rm).room s m args below meth c s.heap [] 0 0 (vx_MQ below Qc XC args s mc ms free) (entryFrame m args maxL)) : vx_Met l y ws rm Pc Qc XC mc ms free := by
  refine MetFree.of_bodyS (code := cc) (maxLocals := maxL) (ret := ret) hy ?_ ?_
  · intro args s m h hn
    obtain ⟨m9, meth, c, hn9, h1, h2, h3, h4, -, h5, h6, -⟩ := Cond.codeWith_spec (atoms_spec (ws := ws) h _ (by rw [hw]; exact List.mem_cons_self))
    cases hn.symm.trans hn9
    exact ⟨meth, c, h1, h2, h3, h4, h5, h6⟩
  · intro p e s m args below meth c s₁ B hml hP _
    have hh0 : s₁.heap = s.heap := by rw [B.state]; rfl
    obtain ⟨t, a1, o, b1, b2, b3⟩ := body p e s m args below meth c s₁ B hml hP s₁ hh0 (Stand.of_body B)
    exact ⟨t, o, a1, b1, b2, b3⟩
/-! ===== END ===== -/
end
section
/-! names: classes, fields, methods -/
def T_F : u_T := fun k => match k with
  | 0 => ("PreferenceCount$Fractions", "uppers", "[J", true)
  | _ => ("PreferenceCount$Fractions", "lowers", "[J", true)
def ft_F : Nat → FieldType := fun k => match k with
  | 0 => .array .long
  | _ => .array .long
theorem fn_F : ∀ a, a < 2 → ∀ b, b < 2 → a ≠ b → (T_F a).2.1 ≠ (T_F b).2.1 := by decide +kernel
theorem fo_F : ∀ k, k < 2 → parseFieldDescriptor (T_F k).2.2.1 = some (ft_F k) := by decide +kernel
def T_P : u_T := fun k => match k with
  | 0 => ("PreferenceCount$Pile", "rows", "[J", true)
  | 1 => ("PreferenceCount$Pile", "counts", "[I", true)
  | 2 => ("PreferenceCount$Pile", "holders", "[I", true)
  | 3 => ("PreferenceCount$Pile", "values", "LPreferenceCount$Fractions;", true)
  | 4 => ("PreferenceCount$Pile", "bundles", "I", false)
  | _ => ("PreferenceCount$Pile", "size", "I", false)
def ft_P : Nat → FieldType := fun k => match k with
  | 0 => .array .long
  | 1 => .array .int
  | 2 => .array .int
  | 3 => .object "PreferenceCount$Fractions"
  | 4 => .int
  | _ => .int
theorem fn_P : ∀ a, a < 6 → ∀ b, b < 6 → a ≠ b → (T_P a).2.1 ≠ (T_P b).2.1 := by decide +kernel
theorem fo_P : ∀ k, k < 6 → parseFieldDescriptor (T_P k).2.2.1 = some (ft_P k) := by decide +kernel
def T_R : u_T := fun k => match k with
  | 0 => ("PreferenceCount$Roll", "draws", "[I", true)
  | 1 => ("PreferenceCount$Roll", "standings", "[I", true)
  | 2 => ("PreferenceCount$Roll", "size", "I", false)
  | 3 => ("PreferenceCount$Roll", "elected", "I", false)
  | _ => ("PreferenceCount$Roll", "excluded", "I", false)
def ft_R : Nat → FieldType := fun k => match k with
  | 0 => .array .int
  | 1 => .array .int
  | 2 => .int
  | 3 => .int
  | _ => .int
theorem fn_R : ∀ a, a < 5 → ∀ b, b < 5 → a ≠ b → (T_R a).2.1 ≠ (T_R b).2.1 := by decide +kernel
theorem fo_R : ∀ k, k < 5 → parseFieldDescriptor (T_R k).2.2.1 = some (ft_R k) := by decide +kernel
def T_S : u_T := fun k => match k with
  | 0 => ("PreferenceCount$Stage", "totals", "LPreferenceCount$Fractions;", true)
  | _ => ("PreferenceCount$Stage", "arrivals", "[I", true)
def ft_S : Nat → FieldType := fun k => match k with
  | 0 => .object "PreferenceCount$Fractions"
  | _ => .array .int
theorem fn_S : ∀ a, a < 2 → ∀ b, b < 2 → a ≠ b → (T_S a).2.1 ≠ (T_S b).2.1 := by decide +kernel
theorem fo_S : ∀ k, k < 2 → parseFieldDescriptor (T_S k).2.2.1 = some (ft_S k) := by decide +kernel
def T_C : u_T := fun k => match k with
  | 0 => ("PreferenceCount", "roll", "LPreferenceCount$Roll;", true)
  | 1 => ("PreferenceCount", "pile", "LPreferenceCount$Pile;", true)
  | 2 => ("PreferenceCount", "stages", "[LPreferenceCount$Stage;", true)
  | 3 => ("PreferenceCount", "seats", "I", false)
  | 4 => ("PreferenceCount", "latest", "I", false)
  | 5 => ("PreferenceCount", "finished", "Z", false)
  | 6 => ("PreferenceCount", "quotaUpper", "J", false)
  | _ => ("PreferenceCount", "quotaLower", "J", false)
def ft_C : Nat → FieldType := fun k => match k with
  | 0 => .object "PreferenceCount$Roll"
  | 1 => .object "PreferenceCount$Pile"
  | 2 => .array (.object "PreferenceCount$Stage")
  | 3 => .int
  | 4 => .int
  | 5 => .boolean
  | 6 => .long
  | _ => .long
theorem fn_C : ∀ a, a < 8 → ∀ b, b < 8 → a ≠ b → (T_C a).2.1 ≠ (T_C b).2.1 := by decide +kernel
theorem fo_C : ∀ k, k < 8 → parseFieldDescriptor (T_C k).2.2.1 = some (ft_C k) := by decide +kernel
def T_M : u_T := fun k => match k with
  | 0 => ("PreferenceCountModel", "thrown", "I", false)
  | 1 => ("PreferenceCountModel", "candidates", "I", false)
  | 2 => ("PreferenceCountModel", "seats", "I", false)
  | 3 => ("PreferenceCountModel", "draws", "[I", true)
  | 4 => ("PreferenceCountModel", "status", "[I", true)
  | 5 => ("PreferenceCountModel", "elected", "I", false)
  | 6 => ("PreferenceCountModel", "excluded", "I", false)
  | 7 => ("PreferenceCountModel", "papers", "I", false)
  | 8 => ("PreferenceCountModel", "rows", "[I", true)
  | 9 => ("PreferenceCountModel", "lengths", "[I", true)
  | 10 => ("PreferenceCountModel", "places", "[I", true)
  | 11 => ("PreferenceCountModel", "with", "[I", true)
  | 12 => ("PreferenceCountModel", "values", "[J", true)
  | 13 => ("PreferenceCountModel", "keeps", "[Z", true)
  | 14 => ("PreferenceCountModel", "denominator", "J", false)
  | 15 => ("PreferenceCountModel", "stage", "I", false)
  | 16 => ("PreferenceCountModel", "totals", "[J", true)
  | 17 => ("PreferenceCountModel", "denominators", "[J", true)
  | 18 => ("PreferenceCountModel", "went", "[I", true)
  | _ => ("PreferenceCountModel", "over", "Z", false)
def ft_M : Nat → FieldType := fun k => match k with
  | 0 => .int
  | 1 => .int
  | 2 => .int
  | 3 => .array .int
  | 4 => .array .int
  | 5 => .int
  | 6 => .int
  | 7 => .int
  | 8 => .array .int
  | 9 => .array .int
  | 10 => .array .int
  | 11 => .array .int
  | 12 => .array .long
  | 13 => .array .boolean
  | 14 => .long
  | 15 => .int
  | 16 => .array .long
  | 17 => .array .long
  | 18 => .array .int
  | _ => .boolean
theorem fn_M : ∀ a, a < 20 → ∀ b, b < 20 → a ≠ b → (T_M a).2.1 ≠ (T_M b).2.1 := by decide +kernel
theorem fo_M : ∀ k, k < 20 → parseFieldDescriptor (T_M k).2.2.1 = some (ft_M k) := by decide +kernel
abbrev cls : List vw_C := [("PreferenceCount$Fractions", T_F, 2), ("PreferenceCount$Pile", T_P, 6), ("PreferenceCount$Roll", T_R, 5), ("PreferenceCount$Stage", T_S, 2), ("PreferenceCount", T_C, 8), ("PreferenceCountModel", T_M, 20)]
abbrev c_C_init : ByteArray := prog_1_method_1_code
def y_C_init : MethodName := ⟨"PreferenceCount", "<init>", "()V"⟩
abbrev c_C_begin : ByteArray := prog_1_method_2_code
def y_C_begin : MethodName := ⟨"PreferenceCount", "begin", "(II)V"⟩
abbrev c_C_draw : ByteArray := prog_1_method_3_code
def y_C_draw : MethodName := ⟨"PreferenceCount", "draw", "(II)V"⟩
abbrev c_C_withdraw : ByteArray := prog_1_method_4_code
def y_C_withdraw : MethodName := ⟨"PreferenceCount", "withdraw", "(I)V"⟩
abbrev c_C_lay : ByteArray := prog_1_method_5_code
def y_C_lay : MethodName := ⟨"PreferenceCount", "lay", "(JI)I"⟩
abbrev c_C_open : ByteArray := prog_1_method_6_code
def y_C_open : MethodName := ⟨"PreferenceCount", "open", "()I"⟩
abbrev c_C_step : ByteArray := prog_1_method_7_code
def y_C_step : MethodName := ⟨"PreferenceCount", "step", "()I"⟩
abbrev c_C_over : ByteArray := prog_1_method_8_code
def y_C_over : MethodName := ⟨"PreferenceCount", "over", "()Z"⟩
abbrev c_C_state : ByteArray := prog_1_method_9_code
def y_C_state : MethodName := ⟨"PreferenceCount", "state", "(I)I"⟩
abbrev c_C_status : ByteArray := prog_1_method_10_code
def y_C_status : MethodName := ⟨"PreferenceCount", "status", "(I)I"⟩
abbrev c_C_total : ByteArray := prog_1_method_11_code
def y_C_total : MethodName := ⟨"PreferenceCount", "total", "(IIZ)J"⟩
abbrev c_C_papers : ByteArray := prog_1_method_12_code
def y_C_papers : MethodName := ⟨"PreferenceCount", "papers", "(I)I"⟩
abbrev c_C_moved : ByteArray := prog_1_method_13_code
def y_C_moved : MethodName := ⟨"PreferenceCount", "moved", "(II)I"⟩
abbrev c_C_startAnew : ByteArray := prog_1_method_14_code
def y_C_startAnew : MethodName := ⟨"PreferenceCount", "startAnew", "(II)V"⟩
abbrev c_C_hasBegun : ByteArray := prog_1_method_15_code
def y_C_hasBegun : MethodName := ⟨"PreferenceCount", "hasBegun", "()Z"⟩
abbrev c_C_refuseOnceBegun : ByteArray := prog_1_method_16_code
def y_C_refuseOnceBegun : MethodName := ⟨"PreferenceCount", "refuseOnceBegun", "()V"⟩
abbrev c_C_refuseUnknown : ByteArray := prog_1_method_17_code
def y_C_refuseUnknown : MethodName := ⟨"PreferenceCount", "refuseUnknown", "(II)V"⟩
abbrev c_C_isRanking : ByteArray := prog_1_method_18_code
def y_C_isRanking : MethodName := ⟨"PreferenceCount", "isRanking", "(J)Z"⟩
abbrev c_C_candidateAt : ByteArray := prog_1_method_19_code
def y_C_candidateAt : MethodName := ⟨"PreferenceCount", "candidateAt", "(JI)I"⟩
abbrev c_C_setQuota : ByteArray := prog_1_method_20_code
def y_C_setQuota : MethodName := ⟨"PreferenceCount", "setQuota", "()V"⟩
abbrev c_C_isAboveQuota : ByteArray := prog_1_method_21_code
def y_C_isAboveQuota : MethodName := ⟨"PreferenceCount", "isAboveQuota", "(I)Z"⟩
abbrev c_C_passSurplus : ByteArray := prog_1_method_22_code
def y_C_passSurplus : MethodName := ⟨"PreferenceCount", "passSurplus", "(I)V"⟩
abbrev c_C_excludeAndPass : ByteArray := prog_1_method_23_code
def y_C_excludeAndPass : MethodName := ⟨"PreferenceCount", "excludeAndPass", "(I)V"⟩
abbrev c_C_passOn : ByteArray := prog_1_method_24_code
def y_C_passOn : MethodName := ⟨"PreferenceCount", "passOn", "(IJJ)V"⟩
abbrev c_C_hand : ByteArray := prog_1_method_25_code
def y_C_hand : MethodName := ⟨"PreferenceCount", "hand", "(II)V"⟩
abbrev c_C_firstContinuing : ByteArray := prog_1_method_26_code
def y_C_firstContinuing : MethodName := ⟨"PreferenceCount", "firstContinuing", "(J)I"⟩
abbrev c_C_settle : ByteArray := prog_1_method_27_code
def y_C_settle : MethodName := ⟨"PreferenceCount", "settle", "()V"⟩
abbrev c_C_electInOrder : ByteArray := prog_1_method_28_code
def y_C_electInOrder : MethodName := ⟨"PreferenceCount", "electInOrder", "(Z)V"⟩
abbrev c_C_foremost : ByteArray := prog_1_method_29_code
def y_C_foremost : MethodName := ⟨"PreferenceCount", "foremost", "(Z)I"⟩
abbrev c_C_hindmost : ByteArray := prog_1_method_30_code
def y_C_hindmost : MethodName := ⟨"PreferenceCount", "hindmost", "()I"⟩
abbrev c_C_isAhead : ByteArray := prog_1_method_31_code
def y_C_isAhead : MethodName := ⟨"PreferenceCount", "isAhead", "(II)Z"⟩
abbrev c_C_commonDivisor : ByteArray := prog_1_method_32_code
def y_C_commonDivisor : MethodName := ⟨"PreferenceCount", "commonDivisor", "(JJ)J"⟩
abbrev c_M_init : ByteArray := prog_7_method_1_code
def y_M_init : MethodName := ⟨"PreferenceCountModel", "<init>", "()V"⟩
abbrev c_M_thrown : ByteArray := prog_7_method_2_code
def y_M_thrown : MethodName := ⟨"PreferenceCountModel", "thrown", "()I"⟩
abbrev c_M_clear : ByteArray := prog_7_method_3_code
def y_M_clear : MethodName := ⟨"PreferenceCountModel", "clear", "(II)V"⟩
abbrev c_M_says : ByteArray := prog_7_method_4_code
def y_M_says : MethodName := ⟨"PreferenceCountModel", "says", "(I)Z"⟩
abbrev c_M_isCandidate : ByteArray := prog_7_method_5_code
def y_M_isCandidate : MethodName := ⟨"PreferenceCountModel", "isCandidate", "(I)Z"⟩
abbrev c_M_begin : ByteArray := prog_7_method_6_code
def y_M_begin : MethodName := ⟨"PreferenceCountModel", "begin", "(II)V"⟩
abbrev c_M_draw : ByteArray := prog_7_method_7_code
def y_M_draw : MethodName := ⟨"PreferenceCountModel", "draw", "(II)V"⟩
abbrev c_M_continuing : ByteArray := prog_7_method_8_code
def y_M_continuing : MethodName := ⟨"PreferenceCountModel", "continuing", "()I"⟩
abbrev c_M_withdraw : ByteArray := prog_7_method_9_code
def y_M_withdraw : MethodName := ⟨"PreferenceCountModel", "withdraw", "(I)V"⟩
abbrev c_M_exclude : ByteArray := prog_7_method_10_code
def y_M_exclude : MethodName := ⟨"PreferenceCountModel", "exclude", "(I)V"⟩
abbrev c_M_rank : ByteArray := prog_7_method_11_code
def y_M_rank : MethodName := ⟨"PreferenceCountModel", "rank", "(JI)I"⟩
abbrev c_M_lay : ByteArray := prog_7_method_12_code
def y_M_lay : MethodName := ⟨"PreferenceCountModel", "lay", "(JI)I"⟩
abbrev c_M_common : ByteArray := prog_7_method_13_code
def y_M_common : MethodName := ⟨"PreferenceCountModel", "common", "(JJ)J"⟩
abbrev c_M_quota : ByteArray := prog_7_method_14_code
def y_M_quota : MethodName := ⟨"PreferenceCountModel", "quota", "()J"⟩
abbrev c_M_lessen : ByteArray := prog_7_method_15_code
def y_M_lessen : MethodName := ⟨"PreferenceCountModel", "lessen", "()V"⟩
abbrev c_M_sumOf : ByteArray := prog_7_method_16_code
def y_M_sumOf : MethodName := ⟨"PreferenceCountModel", "sumOf", "(I)J"⟩
abbrev c_M_goOn : ByteArray := prog_7_method_17_code
def y_M_goOn : MethodName := ⟨"PreferenceCountModel", "goOn", "(II)V"⟩
abbrev c_M_beginStage : ByteArray := prog_7_method_18_code
def y_M_beginStage : MethodName := ⟨"PreferenceCountModel", "beginStage", "()V"⟩
abbrev c_M_at : ByteArray := prog_7_method_19_code
def y_M_at : MethodName := ⟨"PreferenceCountModel", "at", "(II)J"⟩
abbrev c_M_isAhead : ByteArray := prog_7_method_20_code
def y_M_isAhead : MethodName := ⟨"PreferenceCountModel", "isAhead", "(II)Z"⟩
abbrev c_M_first : ByteArray := prog_7_method_21_code
def y_M_first : MethodName := ⟨"PreferenceCountModel", "first", "(ZZ)I"⟩
abbrev c_M_last : ByteArray := prog_7_method_22_code
def y_M_last : MethodName := ⟨"PreferenceCountModel", "last", "()I"⟩
abbrev c_M_elect : ByteArray := prog_7_method_23_code
def y_M_elect : MethodName := ⟨"PreferenceCountModel", "elect", "(I)V"⟩
abbrev c_M_endStage : ByteArray := prog_7_method_24_code
def y_M_endStage : MethodName := ⟨"PreferenceCountModel", "endStage", "()V"⟩
abbrev c_M_open : ByteArray := prog_7_method_25_code
def y_M_open : MethodName := ⟨"PreferenceCountModel", "open", "()I"⟩
abbrev c_M_step : ByteArray := prog_7_method_26_code
def y_M_step : MethodName := ⟨"PreferenceCountModel", "step", "()I"⟩
abbrev c_M_pass : ByteArray := prog_7_method_27_code
def y_M_pass : MethodName := ⟨"PreferenceCountModel", "pass", "(I)V"⟩
abbrev c_M_over : ByteArray := prog_7_method_28_code
def y_M_over : MethodName := ⟨"PreferenceCountModel", "over", "()Z"⟩
abbrev c_M_state : ByteArray := prog_7_method_29_code
def y_M_state : MethodName := ⟨"PreferenceCountModel", "state", "(I)I"⟩
abbrev c_M_status : ByteArray := prog_7_method_30_code
def y_M_status : MethodName := ⟨"PreferenceCountModel", "status", "(I)I"⟩
abbrev c_M_columnOf : ByteArray := prog_7_method_31_code
def y_M_columnOf : MethodName := ⟨"PreferenceCountModel", "columnOf", "(I)I"⟩
abbrev c_M_total : ByteArray := prog_7_method_32_code
def y_M_total : MethodName := ⟨"PreferenceCountModel", "total", "(IIZ)J"⟩
abbrev c_M_papers : ByteArray := prog_7_method_33_code
def y_M_papers : MethodName := ⟨"PreferenceCountModel", "papers", "(I)I"⟩
abbrev c_M_moved : ByteArray := prog_7_method_34_code
def y_M_moved : MethodName := ⟨"PreferenceCountModel", "moved", "(II)I"⟩
abbrev c_F_init : ByteArray := prog_2_method_1_code
def y_F_init : MethodName := ⟨"PreferenceCount$Fractions", "<init>", "(I)V"⟩
abbrev c_F_clear : ByteArray := prog_2_method_2_code
def y_F_clear : MethodName := ⟨"PreferenceCount$Fractions", "clear", "()V"⟩
abbrev c_F_copy : ByteArray := prog_2_method_3_code
def y_F_copy : MethodName := ⟨"PreferenceCount$Fractions", "copy", "(LPreferenceCount$Fractions;)V"⟩
abbrev c_F_put : ByteArray := prog_2_method_4_code
def y_F_put : MethodName := ⟨"PreferenceCount$Fractions", "put", "(IJJ)V"⟩
abbrev c_F_add : ByteArray := prog_2_method_5_code
def y_F_add : MethodName := ⟨"PreferenceCount$Fractions", "add", "(IJJ)V"⟩
abbrev c_F_multiply : ByteArray := prog_2_method_6_code
def y_F_multiply : MethodName := ⟨"PreferenceCount$Fractions", "multiply", "(IJJ)V"⟩
abbrev c_F_compare : ByteArray := prog_2_method_7_code
def y_F_compare : MethodName := ⟨"PreferenceCount$Fractions", "compare", "(IJJ)I"⟩
abbrev c_P_init : ByteArray := prog_3_method_1_code
def y_P_init : MethodName := ⟨"PreferenceCount$Pile", "<init>", "()V"⟩
abbrev c_P_clear : ByteArray := prog_3_method_2_code
def y_P_clear : MethodName := ⟨"PreferenceCount$Pile", "clear", "()V"⟩
abbrev c_P_put : ByteArray := prog_3_method_3_code
def y_P_put : MethodName := ⟨"PreferenceCount$Pile", "put", "(JI)V"⟩
abbrev c_P_lyingWith : ByteArray := prog_3_method_4_code
def y_P_lyingWith : MethodName := ⟨"PreferenceCount$Pile", "lyingWith", "(I)I"⟩
abbrev c_R_init : ByteArray := prog_4_method_1_code
def y_R_init : MethodName := ⟨"PreferenceCount$Roll", "<init>", "()V"⟩
abbrev c_R_clear : ByteArray := prog_4_method_2_code
def y_R_clear : MethodName := ⟨"PreferenceCount$Roll", "clear", "(I)V"⟩
abbrev c_R_has : ByteArray := prog_4_method_3_code
def y_R_has : MethodName := ⟨"PreferenceCount$Roll", "has", "(I)Z"⟩
abbrev c_R_hasOrIsNobody : ByteArray := prog_4_method_4_code
def y_R_hasOrIsNobody : MethodName := ⟨"PreferenceCount$Roll", "hasOrIsNobody", "(I)Z"⟩
abbrev c_R_anotherHasDraw : ByteArray := prog_4_method_5_code
def y_R_anotherHasDraw : MethodName := ⟨"PreferenceCount$Roll", "anotherHasDraw", "(II)Z"⟩
abbrev c_R_isContinuing : ByteArray := prog_4_method_6_code
def y_R_isContinuing : MethodName := ⟨"PreferenceCount$Roll", "isContinuing", "(I)Z"⟩
abbrev c_R_isElected : ByteArray := prog_4_method_7_code
def y_R_isElected : MethodName := ⟨"PreferenceCount$Roll", "isElected", "(I)Z"⟩
abbrev c_R_continuing : ByteArray := prog_4_method_8_code
def y_R_continuing : MethodName := ⟨"PreferenceCount$Roll", "continuing", "()I"⟩
abbrev c_R_elect : ByteArray := prog_4_method_9_code
def y_R_elect : MethodName := ⟨"PreferenceCount$Roll", "elect", "(I)V"⟩
abbrev c_R_exclude : ByteArray := prog_4_method_10_code
def y_R_exclude : MethodName := ⟨"PreferenceCount$Roll", "exclude", "(I)V"⟩
abbrev c_S_init : ByteArray := prog_5_method_1_code
def y_S_init : MethodName := ⟨"PreferenceCount$Stage", "<init>", "()V"⟩
abbrev c_S_clear : ByteArray := prog_5_method_2_code
def y_S_clear : MethodName := ⟨"PreferenceCount$Stage", "clear", "()V"⟩
abbrev c_S_followOn : ByteArray := prog_5_method_3_code
def y_S_followOn : MethodName := ⟨"PreferenceCount$Stage", "followOn", "(LPreferenceCount$Stage;)V"⟩
abbrev c_L_begin : ByteArray := method_3_code
def y_L_begin : MethodName := ⟨"PreferenceCountLaw", "begin", "(LPreferenceCount;II)I"⟩
abbrev c_L_draw : ByteArray := method_4_code
def y_L_draw : MethodName := ⟨"PreferenceCountLaw", "draw", "(LPreferenceCount;II)I"⟩
abbrev c_L_withdraw : ByteArray := method_5_code
def y_L_withdraw : MethodName := ⟨"PreferenceCountLaw", "withdraw", "(LPreferenceCount;I)I"⟩
abbrev c_L_lay : ByteArray := method_6_code
def y_L_lay : MethodName := ⟨"PreferenceCountLaw", "lay", "(LPreferenceCount;JI[J)I"⟩
abbrev c_L_open : ByteArray := method_7_code
def y_L_open : MethodName := ⟨"PreferenceCountLaw", "open", "(LPreferenceCount;[J)I"⟩
abbrev c_L_step : ByteArray := method_8_code
def y_L_step : MethodName := ⟨"PreferenceCountLaw", "step", "(LPreferenceCount;[J)I"⟩
abbrev c_L_status : ByteArray := method_9_code
def y_L_status : MethodName := ⟨"PreferenceCountLaw", "status", "(LPreferenceCount;I[J)I"⟩
abbrev c_L_total : ByteArray := method_10_code
def y_L_total : MethodName := ⟨"PreferenceCountLaw", "total", "(LPreferenceCount;IIZ[J)I"⟩
abbrev c_L_papers : ByteArray := method_11_code
def y_L_papers : MethodName := ⟨"PreferenceCountLaw", "papers", "(LPreferenceCount;I[J)I"⟩
abbrev c_L_moved : ByteArray := method_12_code
def y_L_moved : MethodName := ⟨"PreferenceCountLaw", "moved", "(LPreferenceCount;II[J)I"⟩
def y_L_law : MethodName := ⟨"PreferenceCountLaw", "law", "([I)Z"⟩
abbrev c_L_law : ByteArray := code
abbrev c_G_compare : ByteArray := prog_12_method_42_code
def y_G_compare : MethodName := ⟨"java/lang/Long", "compare", "(JJ)I"⟩
abbrev c_A_fillI : ByteArray := prog_17_method_103_code
def y_A_fillI : MethodName := ⟨"java/util/Arrays", "fill", "([II)V"⟩
abbrev c_A_fillJ : ByteArray := prog_17_method_101_code
def y_A_fillJ : MethodName := ⟨"java/util/Arrays", "fill", "([JJ)V"⟩
/-! the words that the walks need, each by its place in the tables -/
def TB : List Cond := lw_tbl.filter goodWord
theorem TB_good {w : Cond} (h : w ∈ TB) : goodWord w = true := (List.mem_filter.mp h).2
theorem TB_in {w : Cond} (h : w ∈ TB) : w ∈ lw_tbl := (List.mem_filter.mp h).1
theorem tb_t {w : Cond} (i : Nat) (h : tables_1[i]? = some w) (hg : goodWord w = true) : w ∈ TB := List.mem_filter.mpr ⟨List.mem_append_right _ (List.mem_of_getElem? h), hg⟩
theorem tb_p {w : Cond} (i : Nat) (h : (k2_sels lw_privs)[i]? = some w) (hg : goodWord w = true) : w ∈ TB := List.mem_filter.mpr ⟨List.mem_append_left _ (List.mem_of_getElem? h), hg⟩
theorem kw_0 : Cond.initialized "PreferenceCountLaw" ∈ TB := tb_t 0 (by decide +kernel) (by decide +kernel)
theorem kw_1 : Cond.initialized "PreferenceCount" ∈ TB := tb_t 1 (by decide +kernel) (by decide +kernel)
theorem kw_2 : Cond.initialized "PreferenceCount$Roll" ∈ TB := tb_t 2 (by decide +kernel) (by decide +kernel)
theorem kw_3 : Cond.initialized "PreferenceCount$Pile" ∈ TB := tb_t 3 (by decide +kernel) (by decide +kernel)
theorem kw_4 : Cond.initialized "PreferenceCount$Fractions" ∈ TB := tb_t 4 (by decide +kernel) (by decide +kernel)
theorem kw_5 : Cond.initialized "java/util/Arrays" ∈ TB := tb_t 5 (by decide +kernel) (by decide +kernel)
theorem kw_6 : Cond.initialized "PreferenceCount$Stage" ∈ TB := tb_t 6 (by decide +kernel) (by decide +kernel)
theorem kw_7 : Cond.initialized "PreferenceCountModel" ∈ TB := tb_t 7 (by decide +kernel) (by decide +kernel)
theorem kw_8 : Cond.initialized "java/lang/Throwable" ∈ TB := tb_t 8 (by decide +kernel) (by decide +kernel)
theorem kw_9 : Cond.initialized "java/lang/Exception" ∈ TB := tb_t 9 (by decide +kernel) (by decide +kernel)
theorem kw_10 : Cond.initialized "java/lang/RuntimeException" ∈ TB := tb_t 10 (by decide +kernel) (by decide +kernel)
theorem kw_11 : Cond.initialized "java/lang/IllegalArgumentException" ∈ TB := tb_t 11 (by decide +kernel) (by decide +kernel)
theorem kw_12 : Cond.initialized "java/lang/IllegalStateException" ∈ TB := tb_t 12 (by decide +kernel) (by decide +kernel)
theorem kw_13 : Cond.initialized "java/lang/Long" ∈ TB := tb_t 13 (by decide +kernel) (by decide +kernel)
theorem kw_14 : Cond.initialized "java/lang/System" ∈ TB := tb_t 14 (by decide +kernel) (by decide +kernel)
theorem kw_15 : Cond.initialized "java/lang/IndexOutOfBoundsException" ∈ TB := tb_t 15 (by decide +kernel) (by decide +kernel)
theorem kw_16 : Cond.classLink "PreferenceCountLaw" 8 "PreferenceCount" ∈ TB := tb_t 16 (by decide +kernel) (by decide +kernel)
theorem kw_17 : Cond.instantiable "PreferenceCount" 8 ∈ TB := tb_t 17 (by decide +kernel) (by decide +kernel)
theorem kw_18 : Cond.methodLink "PreferenceCountLaw" 52 y_C_init ∈ TB := tb_t 18 (by decide +kernel) (by decide +kernel)
theorem kw_19 : Cond.instanceMethod y_C_init ∈ TB := tb_t 19 (by decide +kernel) (by decide +kernel)
theorem kw_20 : Cond.code y_C_init prog_1_method_1_code 2 (Option.none : Option Jvm.ClassFile.FieldType) ∈ TB := tb_t 20 (by decide +kernel) (by decide +kernel)
theorem kw_21 : Cond.methodLink "PreferenceCount" 3 ⟨"java/lang/Object", "<init>", "()V"⟩ ∈ TB := tb_t 21 (by decide +kernel) (by decide +kernel)
theorem kw_22 : Cond.instanceMethod ⟨"java/lang/Object", "<init>", "()V"⟩ ∈ TB := tb_t 22 (by decide +kernel) (by decide +kernel)
theorem kw_23 : Cond.code ⟨"java/lang/Object", "<init>", "()V"⟩ object_method_1_code 1 (Option.none : Option Jvm.ClassFile.FieldType) ∈ TB := tb_t 23 (by decide +kernel) (by decide +kernel)
theorem kw_24 : Cond.classLink "PreferenceCount" 9 "PreferenceCount$Roll" ∈ TB := tb_t 24 (by decide +kernel) (by decide +kernel)
theorem kw_25 : Cond.instantiable "PreferenceCount$Roll" 5 ∈ TB := tb_t 25 (by decide +kernel) (by decide +kernel)
theorem kw_27 : Cond.instanceMethod y_R_init ∈ TB := tb_t 27 (by decide +kernel) (by decide +kernel)
theorem kw_28 : Cond.code y_R_init prog_4_method_1_code 1 (Option.none : Option Jvm.ClassFile.FieldType) ∈ TB := tb_t 28 (by decide +kernel) (by decide +kernel)
theorem kw_29 : Cond.methodLink "PreferenceCount$Roll" 3 ⟨"java/lang/Object", "<init>", "()V"⟩ ∈ TB := tb_t 29 (by decide +kernel) (by decide +kernel)
theorem kw_30 : Cond.fieldLink "PreferenceCount$Roll" 9 "PreferenceCount$Roll" "draws" "[I" ∈ TB := tb_t 30 (by decide +kernel) (by decide +kernel)
theorem kw_31 : Cond.fieldLink "PreferenceCount" 54 "PreferenceCount$Roll" "draws" "[I" ∈ TB := tb_t 31 (by decide +kernel) (by decide +kernel)
theorem kw_32 : Cond.fieldLink "PreferenceCount$Roll" 15 "PreferenceCount$Roll" "standings" "[I" ∈ TB := tb_t 32 (by decide +kernel) (by decide +kernel)
theorem kw_33 : Cond.fieldLink "PreferenceCount" 158 "PreferenceCount$Roll" "standings" "[I" ∈ TB := tb_t 33 (by decide +kernel) (by decide +kernel)
theorem kw_34 : Cond.fieldLink "PreferenceCount$Roll" 18 "PreferenceCount$Roll" "size" "I" ∈ TB := tb_t 34 (by decide +kernel) (by decide +kernel)
theorem kw_35 : Cond.fieldLink "PreferenceCount" 143 "PreferenceCount$Roll" "size" "I" ∈ TB := tb_t 35 (by decide +kernel) (by decide +kernel)
theorem kw_36 : Cond.fieldLink "PreferenceCount$Roll" 22 "PreferenceCount$Roll" "elected" "I" ∈ TB := tb_t 36 (by decide +kernel) (by decide +kernel)
theorem kw_37 : Cond.fieldLink "PreferenceCount" 147 "PreferenceCount$Roll" "elected" "I" ∈ TB := tb_t 37 (by decide +kernel) (by decide +kernel)
theorem kw_38 : Cond.fieldLink "PreferenceCount$Roll" 25 "PreferenceCount$Roll" "excluded" "I" ∈ TB := tb_t 38 (by decide +kernel) (by decide +kernel)
theorem kw_39 : Cond.fieldLink "PreferenceCount" 150 "PreferenceCount$Roll" "excluded" "I" ∈ TB := tb_t 39 (by decide +kernel) (by decide +kernel)
theorem kw_40 : Cond.laysFinal "PreferenceCount$Roll" "PreferenceCount$Roll" "draws" "[I" ∈ TB := tb_t 40 (by decide +kernel) (by decide +kernel)
theorem kw_42 : Cond.laysFinal "PreferenceCount$Roll" "PreferenceCount$Roll" "standings" "[I" ∈ TB := tb_t 42 (by decide +kernel) (by decide +kernel)
theorem kw_44 : Cond.lays "PreferenceCount$Roll" "PreferenceCount$Roll" "size" "I" ∈ TB := tb_t 44 (by decide +kernel) (by decide +kernel)
theorem kw_46 : Cond.lays "PreferenceCount$Roll" "PreferenceCount$Roll" "elected" "I" ∈ TB := tb_t 46 (by decide +kernel) (by decide +kernel)
theorem kw_48 : Cond.lays "PreferenceCount$Roll" "PreferenceCount$Roll" "excluded" "I" ∈ TB := tb_t 48 (by decide +kernel) (by decide +kernel)
theorem kw_51 : Cond.arrayClass .int ∈ TB := tb_t 51 (by decide +kernel) (by decide +kernel)
theorem kw_52 : Cond.classLink "PreferenceCount" 16 "PreferenceCount$Pile" ∈ TB := tb_t 52 (by decide +kernel) (by decide +kernel)
theorem kw_53 : Cond.instantiable "PreferenceCount$Pile" 6 ∈ TB := tb_t 53 (by decide +kernel) (by decide +kernel)
theorem kw_55 : Cond.instanceMethod y_P_init ∈ TB := tb_t 55 (by decide +kernel) (by decide +kernel)
theorem kw_56 : Cond.code y_P_init prog_3_method_1_code 1 (Option.none : Option Jvm.ClassFile.FieldType) ∈ TB := tb_t 56 (by decide +kernel) (by decide +kernel)
theorem kw_57 : Cond.methodLink "PreferenceCount$Pile" 3 ⟨"java/lang/Object", "<init>", "()V"⟩ ∈ TB := tb_t 57 (by decide +kernel) (by decide +kernel)
theorem kw_58 : Cond.classLink "PreferenceCount$Pile" 22 "PreferenceCount$Fractions" ∈ TB := tb_t 58 (by decide +kernel) (by decide +kernel)
theorem kw_59 : Cond.instantiable "PreferenceCount$Fractions" 2 ∈ TB := tb_t 59 (by decide +kernel) (by decide +kernel)
theorem kw_60 : Cond.methodLink "PreferenceCount$Pile" 24 y_F_init ∈ TB := tb_t 60 (by decide +kernel) (by decide +kernel)
theorem kw_61 : Cond.instanceMethod y_F_init ∈ TB := tb_t 61 (by decide +kernel) (by decide +kernel)
theorem kw_62 : Cond.code y_F_init prog_2_method_1_code 2 (Option.none : Option Jvm.ClassFile.FieldType) ∈ TB := tb_t 62 (by decide +kernel) (by decide +kernel)
theorem kw_63 : Cond.methodLink "PreferenceCount$Fractions" 1 ⟨"java/lang/Object", "<init>", "()V"⟩ ∈ TB := tb_t 63 (by decide +kernel) (by decide +kernel)
theorem kw_64 : Cond.methodLink "PreferenceCount$Fractions" 16 y_A_fillJ ∈ TB := tb_t 64 (by decide +kernel) (by decide +kernel)
theorem kw_65 : Cond.static y_A_fillJ ∈ TB := tb_t 65 (by decide +kernel) (by decide +kernel)
theorem kw_66 : Cond.code y_A_fillJ prog_17_method_101_code 5 (Option.none : Option Jvm.ClassFile.FieldType) ∈ TB := tb_t 66 (by decide +kernel) (by decide +kernel)
theorem kw_67 : Cond.fieldLink "PreferenceCount$Fractions" 7 "PreferenceCount$Fractions" "uppers" "[J" ∈ TB := tb_t 67 (by decide +kernel) (by decide +kernel)
theorem kw_68 : Cond.fieldLink "PreferenceCount" 174 "PreferenceCount$Fractions" "uppers" "[J" ∈ TB := tb_t 68 (by decide +kernel) (by decide +kernel)
theorem kw_69 : Cond.fieldLink "PreferenceCount$Fractions" 13 "PreferenceCount$Fractions" "lowers" "[J" ∈ TB := tb_t 69 (by decide +kernel) (by decide +kernel)
theorem kw_70 : Cond.fieldLink "PreferenceCount" 168 "PreferenceCount$Fractions" "lowers" "[J" ∈ TB := tb_t 70 (by decide +kernel) (by decide +kernel)
theorem kw_71 : Cond.laysFinal "PreferenceCount$Fractions" "PreferenceCount$Fractions" "uppers" "[J" ∈ TB := tb_t 71 (by decide +kernel) (by decide +kernel)
theorem kw_73 : Cond.laysFinal "PreferenceCount$Fractions" "PreferenceCount$Fractions" "lowers" "[J" ∈ TB := tb_t 73 (by decide +kernel) (by decide +kernel)
theorem kw_76 : Cond.arrayClass .long ∈ TB := tb_t 76 (by decide +kernel) (by decide +kernel)
theorem kw_77 : Cond.fieldLink "PreferenceCount$Pile" 9 "PreferenceCount$Pile" "rows" "[J" ∈ TB := tb_t 77 (by decide +kernel) (by decide +kernel)
theorem kw_78 : Cond.fieldLink "PreferenceCount" 222 "PreferenceCount$Pile" "rows" "[J" ∈ TB := tb_t 78 (by decide +kernel) (by decide +kernel)
theorem kw_79 : Cond.fieldLink "PreferenceCount$Pile" 15 "PreferenceCount$Pile" "counts" "[I" ∈ TB := tb_t 79 (by decide +kernel) (by decide +kernel)
theorem kw_80 : Cond.fieldLink "PreferenceCount" 232 "PreferenceCount$Pile" "counts" "[I" ∈ TB := tb_t 80 (by decide +kernel) (by decide +kernel)
theorem kw_81 : Cond.fieldLink "PreferenceCount$Pile" 19 "PreferenceCount$Pile" "holders" "[I" ∈ TB := tb_t 81 (by decide +kernel) (by decide +kernel)
theorem kw_82 : Cond.fieldLink "PreferenceCount" 213 "PreferenceCount$Pile" "holders" "[I" ∈ TB := tb_t 82 (by decide +kernel) (by decide +kernel)
theorem kw_83 : Cond.fieldLink "PreferenceCount$Pile" 27 "PreferenceCount$Pile" "values" "LPreferenceCount$Fractions;" ∈ TB := tb_t 83 (by decide +kernel) (by decide +kernel)
theorem kw_84 : Cond.fieldLink "PreferenceCount" 216 "PreferenceCount$Pile" "values" "LPreferenceCount$Fractions;" ∈ TB := tb_t 84 (by decide +kernel) (by decide +kernel)
theorem kw_85 : Cond.fieldLink "PreferenceCount$Pile" 31 "PreferenceCount$Pile" "bundles" "I" ∈ TB := tb_t 85 (by decide +kernel) (by decide +kernel)
theorem kw_86 : Cond.fieldLink "PreferenceCount" 210 "PreferenceCount$Pile" "bundles" "I" ∈ TB := tb_t 86 (by decide +kernel) (by decide +kernel)
theorem kw_87 : Cond.fieldLink "PreferenceCount$Pile" 35 "PreferenceCount$Pile" "size" "I" ∈ TB := tb_t 87 (by decide +kernel) (by decide +kernel)
theorem kw_88 : Cond.fieldLink "PreferenceCount" 75 "PreferenceCount$Pile" "size" "I" ∈ TB := tb_t 88 (by decide +kernel) (by decide +kernel)
theorem kw_89 : Cond.laysFinal "PreferenceCount$Pile" "PreferenceCount$Pile" "rows" "[J" ∈ TB := tb_t 89 (by decide +kernel) (by decide +kernel)
theorem kw_91 : Cond.laysFinal "PreferenceCount$Pile" "PreferenceCount$Pile" "counts" "[I" ∈ TB := tb_t 91 (by decide +kernel) (by decide +kernel)
theorem kw_93 : Cond.laysFinal "PreferenceCount$Pile" "PreferenceCount$Pile" "holders" "[I" ∈ TB := tb_t 93 (by decide +kernel) (by decide +kernel)
theorem kw_95 : Cond.laysFinal "PreferenceCount$Pile" "PreferenceCount$Pile" "values" "LPreferenceCount$Fractions;" ∈ TB := tb_t 95 (by decide +kernel) (by decide +kernel)
theorem kw_97 : Cond.lays "PreferenceCount$Pile" "PreferenceCount$Pile" "bundles" "I" ∈ TB := tb_t 97 (by decide +kernel) (by decide +kernel)
theorem kw_99 : Cond.lays "PreferenceCount$Pile" "PreferenceCount$Pile" "size" "I" ∈ TB := tb_t 99 (by decide +kernel) (by decide +kernel)
theorem kw_102 : Cond.classLink "PreferenceCount" 23 "PreferenceCount$Stage" ∈ TB := tb_t 102 (by decide +kernel) (by decide +kernel)
theorem kw_104 : Cond.instantiable "PreferenceCount$Stage" 2 ∈ TB := tb_t 104 (by decide +kernel) (by decide +kernel)
theorem kw_106 : Cond.instanceMethod y_S_init ∈ TB := tb_t 106 (by decide +kernel) (by decide +kernel)
theorem kw_107 : Cond.code y_S_init prog_5_method_1_code 1 (Option.none : Option Jvm.ClassFile.FieldType) ∈ TB := tb_t 107 (by decide +kernel) (by decide +kernel)
theorem kw_108 : Cond.methodLink "PreferenceCount$Stage" 3 ⟨"java/lang/Object", "<init>", "()V"⟩ ∈ TB := tb_t 108 (by decide +kernel) (by decide +kernel)
theorem kw_109 : Cond.classLink "PreferenceCount$Stage" 9 "PreferenceCount$Fractions" ∈ TB := tb_t 109 (by decide +kernel) (by decide +kernel)
theorem kw_110 : Cond.methodLink "PreferenceCount$Stage" 11 y_F_init ∈ TB := tb_t 110 (by decide +kernel) (by decide +kernel)
theorem kw_111 : Cond.fieldLink "PreferenceCount$Stage" 14 "PreferenceCount$Stage" "totals" "LPreferenceCount$Fractions;" ∈ TB := tb_t 111 (by decide +kernel) (by decide +kernel)
theorem kw_112 : Cond.fieldLink "PreferenceCount" 164 "PreferenceCount$Stage" "totals" "LPreferenceCount$Fractions;" ∈ TB := tb_t 112 (by decide +kernel) (by decide +kernel)
theorem kw_113 : Cond.fieldLink "PreferenceCount$Stage" 20 "PreferenceCount$Stage" "arrivals" "[I" ∈ TB := tb_t 113 (by decide +kernel) (by decide +kernel)
theorem kw_114 : Cond.fieldLink "PreferenceCount" 184 "PreferenceCount$Stage" "arrivals" "[I" ∈ TB := tb_t 114 (by decide +kernel) (by decide +kernel)
theorem kw_115 : Cond.laysFinal "PreferenceCount$Stage" "PreferenceCount$Stage" "totals" "LPreferenceCount$Fractions;" ∈ TB := tb_t 115 (by decide +kernel) (by decide +kernel)
theorem kw_117 : Cond.laysFinal "PreferenceCount$Stage" "PreferenceCount$Stage" "arrivals" "[I" ∈ TB := tb_t 117 (by decide +kernel) (by decide +kernel)
theorem kw_120 : Cond.methodLink "PreferenceCount" 30 y_C_startAnew ∈ TB := tb_t 120 (by decide +kernel) (by decide +kernel)
theorem kw_122 : Cond.instanceMethod y_C_startAnew ∈ TB := tb_t 122 (by decide +kernel) (by decide +kernel)
theorem kw_123 : Cond.code y_C_startAnew prog_1_method_14_code 3 (Option.none : Option Jvm.ClassFile.FieldType) ∈ TB := tb_t 123 (by decide +kernel) (by decide +kernel)
theorem kw_124 : Cond.methodLink "PreferenceCount" 187 y_R_clear ∈ TB := tb_t 124 (by decide +kernel) (by decide +kernel)
theorem kw_125 : Cond.instanceMethod y_R_clear ∈ TB := tb_t 125 (by decide +kernel) (by decide +kernel)
theorem kw_126 : Cond.selects "PreferenceCount$Roll" y_R_clear y_R_clear ∈ TB := tb_t 126 (by decide +kernel) (by decide +kernel)
theorem kw_127 : Cond.code y_R_clear prog_4_method_2_code 3 (Option.none : Option Jvm.ClassFile.FieldType) ∈ TB := tb_t 127 (by decide +kernel) (by decide +kernel)
theorem kw_128 : Cond.methodLink "PreferenceCount" 189 y_P_clear ∈ TB := tb_t 128 (by decide +kernel) (by decide +kernel)
theorem kw_129 : Cond.instanceMethod y_P_clear ∈ TB := tb_t 129 (by decide +kernel) (by decide +kernel)
theorem kw_130 : Cond.selects "PreferenceCount$Pile" y_P_clear y_P_clear ∈ TB := tb_t 130 (by decide +kernel) (by decide +kernel)
theorem kw_131 : Cond.code y_P_clear prog_3_method_2_code 1 (Option.none : Option Jvm.ClassFile.FieldType) ∈ TB := tb_t 131 (by decide +kernel) (by decide +kernel)
theorem kw_132 : Cond.fieldLink "PreferenceCount" 12 "PreferenceCount" "roll" "LPreferenceCount$Roll;" ∈ TB := tb_t 132 (by decide +kernel) (by decide +kernel)
theorem kw_133 : Cond.fieldLink "PreferenceCount" 19 "PreferenceCount" "pile" "LPreferenceCount$Pile;" ∈ TB := tb_t 133 (by decide +kernel) (by decide +kernel)
theorem kw_134 : Cond.fieldLink "PreferenceCount" 25 "PreferenceCount" "stages" "[LPreferenceCount$Stage;" ∈ TB := tb_t 134 (by decide +kernel) (by decide +kernel)
theorem kw_135 : Cond.fieldLink "PreferenceCount" 65 "PreferenceCount" "seats" "I" ∈ TB := tb_t 135 (by decide +kernel) (by decide +kernel)
theorem kw_136 : Cond.fieldLink "PreferenceCount" 96 "PreferenceCount" "latest" "I" ∈ TB := tb_t 136 (by decide +kernel) (by decide +kernel)
theorem kw_137 : Cond.fieldLink "PreferenceCount" 117 "PreferenceCount" "finished" "Z" ∈ TB := tb_t 137 (by decide +kernel) (by decide +kernel)
theorem kw_138 : Cond.fieldLink "PreferenceCount" 109 "PreferenceCount" "quotaUpper" "J" ∈ TB := tb_t 138 (by decide +kernel) (by decide +kernel)
theorem kw_139 : Cond.fieldLink "PreferenceCount" 144 "PreferenceCount" "quotaLower" "J" ∈ TB := tb_t 139 (by decide +kernel) (by decide +kernel)
theorem kw_140 : Cond.laysFinal "PreferenceCount" "PreferenceCount" "roll" "LPreferenceCount$Roll;" ∈ TB := tb_t 140 (by decide +kernel) (by decide +kernel)
theorem kw_142 : Cond.laysFinal "PreferenceCount" "PreferenceCount" "pile" "LPreferenceCount$Pile;" ∈ TB := tb_t 142 (by decide +kernel) (by decide +kernel)
theorem kw_144 : Cond.laysFinal "PreferenceCount" "PreferenceCount" "stages" "[LPreferenceCount$Stage;" ∈ TB := tb_t 144 (by decide +kernel) (by decide +kernel)
theorem kw_146 : Cond.lays "PreferenceCount" "PreferenceCount" "seats" "I" ∈ TB := tb_t 146 (by decide +kernel) (by decide +kernel)
theorem kw_148 : Cond.lays "PreferenceCount" "PreferenceCount" "latest" "I" ∈ TB := tb_t 148 (by decide +kernel) (by decide +kernel)
theorem kw_150 : Cond.lays "PreferenceCount" "PreferenceCount" "finished" "Z" ∈ TB := tb_t 150 (by decide +kernel) (by decide +kernel)
theorem kw_152 : Cond.lays "PreferenceCount" "PreferenceCount" "quotaUpper" "J" ∈ TB := tb_t 152 (by decide +kernel) (by decide +kernel)
theorem kw_154 : Cond.lays "PreferenceCount" "PreferenceCount" "quotaLower" "J" ∈ TB := tb_t 154 (by decide +kernel) (by decide +kernel)
theorem kw_157 : Cond.methodLink "PreferenceCountLaw" 85 y_C_over ∈ TB := tb_t 157 (by decide +kernel) (by decide +kernel)
theorem kw_158 : Cond.instanceMethod y_C_over ∈ TB := tb_t 158 (by decide +kernel) (by decide +kernel)
theorem kw_159 : Cond.selects "PreferenceCount" y_C_over y_C_over ∈ TB := tb_t 159 (by decide +kernel) (by decide +kernel)
theorem kw_160 : Cond.code y_C_over prog_1_method_8_code 1 (some .boolean) ∈ TB := tb_t 160 (by decide +kernel) (by decide +kernel)
theorem kw_161 : Cond.methodLink "PreferenceCountLaw" 90 y_C_state ∈ TB := tb_t 161 (by decide +kernel) (by decide +kernel)
theorem kw_162 : Cond.instanceMethod y_C_state ∈ TB := tb_t 162 (by decide +kernel) (by decide +kernel)
theorem kw_163 : Cond.selects "PreferenceCount" y_C_state y_C_state ∈ TB := tb_t 163 (by decide +kernel) (by decide +kernel)
theorem kw_164 : Cond.code y_C_state prog_1_method_9_code 2 (some .int) ∈ TB := tb_t 164 (by decide +kernel) (by decide +kernel)
theorem kw_165 : Cond.methodLink "PreferenceCount" 61 y_R_continuing ∈ TB := tb_t 165 (by decide +kernel) (by decide +kernel)
theorem kw_166 : Cond.instanceMethod y_R_continuing ∈ TB := tb_t 166 (by decide +kernel) (by decide +kernel)
theorem kw_167 : Cond.selects "PreferenceCount$Roll" y_R_continuing y_R_continuing ∈ TB := tb_t 167 (by decide +kernel) (by decide +kernel)
theorem kw_168 : Cond.code y_R_continuing prog_4_method_8_code 1 (some .int) ∈ TB := tb_t 168 (by decide +kernel) (by decide +kernel)
theorem kw_169 : Cond.methodLink "PreferenceCountLaw" 56 y_L_begin ∈ TB := tb_t 169 (by decide +kernel) (by decide +kernel)
theorem kw_170 : Cond.static y_L_begin ∈ TB := tb_t 170 (by decide +kernel) (by decide +kernel)
theorem kw_171 : Cond.codeWith y_L_begin method_3_code 4 (some .int) [(0, 6, 9, 13)] ∈ TB := tb_t 171 (by decide +kernel) (by decide +kernel)
theorem kw_172 : Cond.classLink "PreferenceCountLaw" 13 "java/lang/IllegalArgumentException" ∈ TB := tb_t 172 (by decide +kernel) (by decide +kernel)
theorem kw_173 : Cond.methodLink "PreferenceCountLaw" 7 y_C_begin ∈ TB := tb_t 173 (by decide +kernel) (by decide +kernel)
theorem kw_174 : Cond.instanceMethod y_C_begin ∈ TB := tb_t 174 (by decide +kernel) (by decide +kernel)
theorem kw_175 : Cond.selects "PreferenceCount" y_C_begin y_C_begin ∈ TB := tb_t 175 (by decide +kernel) (by decide +kernel)
theorem kw_176 : Cond.code y_C_begin prog_1_method_2_code 5 (Option.none : Option Jvm.ClassFile.FieldType) ∈ TB := tb_t 176 (by decide +kernel) (by decide +kernel)
theorem kw_177 : Cond.classLink "PreferenceCount" 34 "java/lang/IllegalArgumentException" ∈ TB := tb_t 177 (by decide +kernel) (by decide +kernel)
theorem kw_178 : Cond.instantiable "java/lang/IllegalArgumentException" 6 ∈ TB := tb_t 178 (by decide +kernel) (by decide +kernel)
theorem kw_186 : Cond.selects "java/lang/IllegalArgumentException" ⟨"java/lang/Throwable", "fillInStackTrace", "(I)Ljava/lang/Throwable;"⟩ ⟨"java/lang/Throwable", "fillInStackTrace", "(I)Ljava/lang/Throwable;"⟩ ∈ TB := tb_t 186 (by decide +kernel) (by decide +kernel)
theorem kw_187 : Cond.selects "java/lang/IllegalArgumentException" ⟨"java/lang/Throwable", "fillInStackTrace", "()Ljava/lang/Throwable;"⟩ ⟨"java/lang/Throwable", "fillInStackTrace", "()Ljava/lang/Throwable;"⟩ ∈ TB := tb_t 187 (by decide +kernel) (by decide +kernel)
theorem kw_188 : Cond.lays "java/lang/IllegalArgumentException" "java/lang/Throwable" "cause" "Ljava/lang/Throwable;" ∈ TB := tb_t 188 (by decide +kernel) (by decide +kernel)
theorem kw_189 : Cond.lays "java/lang/Throwable" "java/lang/Throwable" "cause" "Ljava/lang/Throwable;" ∈ TB := tb_t 189 (by decide +kernel) (by decide +kernel)
theorem kw_190 : Cond.lays "java/lang/IllegalArgumentException" "java/lang/Throwable" "stackTrace" "[Ljava/lang/StackTraceElement;" ∈ TB := tb_t 190 (by decide +kernel) (by decide +kernel)
theorem kw_191 : Cond.lays "java/lang/Throwable" "java/lang/Throwable" "stackTrace" "[Ljava/lang/StackTraceElement;" ∈ TB := tb_t 191 (by decide +kernel) (by decide +kernel)
theorem kw_192 : Cond.lays "java/lang/IllegalArgumentException" "java/lang/Throwable" "suppressedExceptions" "Ljava/util/List;" ∈ TB := tb_t 192 (by decide +kernel) (by decide +kernel)
theorem kw_193 : Cond.lays "java/lang/Throwable" "java/lang/Throwable" "suppressedExceptions" "Ljava/util/List;" ∈ TB := tb_t 193 (by decide +kernel) (by decide +kernel)
theorem kw_194 : Cond.lays "java/lang/IllegalArgumentException" "java/lang/Throwable" "detailMessage" "Ljava/lang/String;" ∈ TB := tb_t 194 (by decide +kernel) (by decide +kernel)
theorem kw_195 : Cond.lays "java/lang/Throwable" "java/lang/Throwable" "detailMessage" "Ljava/lang/String;" ∈ TB := tb_t 195 (by decide +kernel) (by decide +kernel)
theorem kw_196 : Cond.lays "java/lang/IllegalArgumentException" "java/lang/Throwable" "backtrace" "Ljava/lang/Object;" ∈ TB := tb_t 196 (by decide +kernel) (by decide +kernel)
theorem kw_197 : Cond.lays "java/lang/Throwable" "java/lang/Throwable" "backtrace" "Ljava/lang/Object;" ∈ TB := tb_t 197 (by decide +kernel) (by decide +kernel)
theorem kw_198 : Cond.fieldLink "java/lang/Throwable" 198 "java/lang/Throwable" "backtrace" "Ljava/lang/Object;" ∈ TB := tb_t 198 (by decide +kernel) (by decide +kernel)
theorem kw_200 : Cond.instanceMethod ⟨"java/lang/Throwable", "<init>", "()V"⟩ ∈ TB := tb_t 200 (by decide +kernel) (by decide +kernel)
theorem kw_201 : Cond.code ⟨"java/lang/Throwable", "<init>", "()V"⟩ prog_16_method_1_code 1 (Option.none : Option Jvm.ClassFile.FieldType) ∈ TB := tb_t 201 (by decide +kernel) (by decide +kernel)
theorem kw_202 : Cond.methodLink "java/lang/Throwable" 1 ⟨"java/lang/Object", "<init>", "()V"⟩ ∈ TB := tb_t 202 (by decide +kernel) (by decide +kernel)
theorem kw_203 : Cond.fieldLink "java/lang/Throwable" 13 "java/lang/Throwable" "UNASSIGNED_STACK" "[Ljava/lang/StackTraceElement;" ∈ TB := tb_t 203 (by decide +kernel) (by decide +kernel)
theorem kw_205 : Cond.fieldLink "java/lang/Throwable" 20 "java/lang/Throwable" "SUPPRESSED_SENTINEL" "Ljava/util/List;" ∈ TB := tb_t 205 (by decide +kernel) (by decide +kernel)
theorem kw_207 : Cond.methodLink "java/lang/Throwable" 27 ⟨"java/lang/Throwable", "fillInStackTrace", "()Ljava/lang/Throwable;"⟩ ∈ TB := tb_t 207 (by decide +kernel) (by decide +kernel)
theorem kw_208 : Cond.instanceMethod ⟨"java/lang/Throwable", "fillInStackTrace", "()Ljava/lang/Throwable;"⟩ ∈ TB := tb_t 208 (by decide +kernel) (by decide +kernel)
theorem kw_210 : Cond.selects "java/lang/IllegalStateException" ⟨"java/lang/Throwable", "fillInStackTrace", "()Ljava/lang/Throwable;"⟩ ⟨"java/lang/Throwable", "fillInStackTrace", "()Ljava/lang/Throwable;"⟩ ∈ TB := tb_t 210 (by decide +kernel) (by decide +kernel)
theorem kw_211 : Cond.selects "java/lang/IndexOutOfBoundsException" ⟨"java/lang/Throwable", "fillInStackTrace", "()Ljava/lang/Throwable;"⟩ ⟨"java/lang/Throwable", "fillInStackTrace", "()Ljava/lang/Throwable;"⟩ ∈ TB := tb_t 211 (by decide +kernel) (by decide +kernel)
theorem kw_213 : Cond.methodLink "java/lang/Throwable" 202 ⟨"java/lang/Throwable", "fillInStackTrace", "(I)Ljava/lang/Throwable;"⟩ ∈ TB := tb_t 213 (by decide +kernel) (by decide +kernel)
theorem kw_215 : Cond.instanceMethod ⟨"java/lang/Throwable", "fillInStackTrace", "(I)Ljava/lang/Throwable;"⟩ ∈ TB := tb_t 215 (by decide +kernel) (by decide +kernel)
theorem kw_216 : Cond.instantiable "java/lang/Throwable" 6 ∈ TB := tb_t 216 (by decide +kernel) (by decide +kernel)
theorem kw_219 : Cond.methodLink "PreferenceCount" 38 ⟨"java/lang/IllegalArgumentException", "<init>", "(Ljava/lang/String;)V"⟩ ∈ TB := tb_t 219 (by decide +kernel) (by decide +kernel)
theorem kw_220 : Cond.instanceMethod ⟨"java/lang/IllegalArgumentException", "<init>", "(Ljava/lang/String;)V"⟩ ∈ TB := tb_t 220 (by decide +kernel) (by decide +kernel)
theorem kw_221 : Cond.code ⟨"java/lang/IllegalArgumentException", "<init>", "(Ljava/lang/String;)V"⟩ prog_9_method_2_code 2 (Option.none : Option Jvm.ClassFile.FieldType) ∈ TB := tb_t 221 (by decide +kernel) (by decide +kernel)
theorem kw_222 : Cond.methodLink "java/lang/IllegalArgumentException" 7 ⟨"java/lang/RuntimeException", "<init>", "(Ljava/lang/String;)V"⟩ ∈ TB := tb_t 222 (by decide +kernel) (by decide +kernel)
theorem kw_223 : Cond.instanceMethod ⟨"java/lang/RuntimeException", "<init>", "(Ljava/lang/String;)V"⟩ ∈ TB := tb_t 223 (by decide +kernel) (by decide +kernel)
theorem kw_224 : Cond.code ⟨"java/lang/RuntimeException", "<init>", "(Ljava/lang/String;)V"⟩ prog_13_method_2_code 2 (Option.none : Option Jvm.ClassFile.FieldType) ∈ TB := tb_t 224 (by decide +kernel) (by decide +kernel)
theorem kw_225 : Cond.methodLink "java/lang/RuntimeException" 7 ⟨"java/lang/Exception", "<init>", "(Ljava/lang/String;)V"⟩ ∈ TB := tb_t 225 (by decide +kernel) (by decide +kernel)
theorem kw_226 : Cond.instanceMethod ⟨"java/lang/Exception", "<init>", "(Ljava/lang/String;)V"⟩ ∈ TB := tb_t 226 (by decide +kernel) (by decide +kernel)
theorem kw_227 : Cond.code ⟨"java/lang/Exception", "<init>", "(Ljava/lang/String;)V"⟩ prog_8_method_2_code 2 (Option.none : Option Jvm.ClassFile.FieldType) ∈ TB := tb_t 227 (by decide +kernel) (by decide +kernel)
theorem kw_228 : Cond.methodLink "java/lang/Exception" 7 ⟨"java/lang/Throwable", "<init>", "(Ljava/lang/String;)V"⟩ ∈ TB := tb_t 228 (by decide +kernel) (by decide +kernel)
theorem kw_229 : Cond.instanceMethod ⟨"java/lang/Throwable", "<init>", "(Ljava/lang/String;)V"⟩ ∈ TB := tb_t 229 (by decide +kernel) (by decide +kernel)
theorem kw_230 : Cond.code ⟨"java/lang/Throwable", "<init>", "(Ljava/lang/String;)V"⟩ prog_16_method_2_code 2 (Option.none : Option Jvm.ClassFile.FieldType) ∈ TB := tb_t 230 (by decide +kernel) (by decide +kernel)
theorem kw_232 : Cond.fieldLink "java/lang/Throwable" 31 "java/lang/Throwable" "detailMessage" "Ljava/lang/String;" ∈ TB := tb_t 232 (by decide +kernel) (by decide +kernel)
theorem kw_233 : Cond.fieldLink "java/lang/Throwable" 7 "java/lang/Throwable" "cause" "Ljava/lang/Throwable;" ∈ TB := tb_t 233 (by decide +kernel) (by decide +kernel)
theorem kw_234 : Cond.fieldLink "java/lang/Throwable" 17 "java/lang/Throwable" "stackTrace" "[Ljava/lang/StackTraceElement;" ∈ TB := tb_t 234 (by decide +kernel) (by decide +kernel)
theorem kw_235 : Cond.fieldLink "java/lang/Throwable" 24 "java/lang/Throwable" "suppressedExceptions" "Ljava/util/List;" ∈ TB := tb_t 235 (by decide +kernel) (by decide +kernel)
theorem kw_240 : Cond.lays "java/lang/IllegalArgumentException" "java/lang/Throwable" "depth" "I" ∈ TB := tb_t 240 (by decide +kernel) (by decide +kernel)
theorem kw_244 : Cond.arrayClass .byte ∈ TB := tb_t 244 (by decide +kernel) (by decide +kernel)
theorem kw_245 : Cond.methodLink "PreferenceCountLaw" 65 y_L_draw ∈ TB := tb_t 245 (by decide +kernel) (by decide +kernel)
theorem kw_246 : Cond.static y_L_draw ∈ TB := tb_t 246 (by decide +kernel) (by decide +kernel)
theorem kw_247 : Cond.codeWith y_L_draw method_4_code 4 (some .int) [(0, 6, 9, 18), (0, 6, 12, 13)] ∈ TB := tb_t 247 (by decide +kernel) (by decide +kernel)
theorem kw_248 : Cond.classLink "PreferenceCountLaw" 18 "java/lang/IllegalStateException" ∈ TB := tb_t 248 (by decide +kernel) (by decide +kernel)
theorem kw_249 : Cond.methodLink "PreferenceCountLaw" 15 y_C_draw ∈ TB := tb_t 249 (by decide +kernel) (by decide +kernel)
theorem kw_250 : Cond.instanceMethod y_C_draw ∈ TB := tb_t 250 (by decide +kernel) (by decide +kernel)
theorem kw_251 : Cond.selects "PreferenceCount" y_C_draw y_C_draw ∈ TB := tb_t 251 (by decide +kernel) (by decide +kernel)
theorem kw_252 : Cond.code y_C_draw prog_1_method_3_code 4 (Option.none : Option Jvm.ClassFile.FieldType) ∈ TB := tb_t 252 (by decide +kernel) (by decide +kernel)
theorem kw_253 : Cond.methodLink "PreferenceCount" 41 y_C_refuseOnceBegun ∈ TB := tb_t 253 (by decide +kernel) (by decide +kernel)
theorem kw_255 : Cond.instanceMethod y_C_refuseOnceBegun ∈ TB := tb_t 255 (by decide +kernel) (by decide +kernel)
theorem kw_256 : Cond.code y_C_refuseOnceBegun prog_1_method_16_code 1 (Option.none : Option Jvm.ClassFile.FieldType) ∈ TB := tb_t 256 (by decide +kernel) (by decide +kernel)
theorem kw_257 : Cond.methodLink "PreferenceCount" 113 y_C_hasBegun ∈ TB := tb_t 257 (by decide +kernel) (by decide +kernel)
theorem kw_259 : Cond.instanceMethod y_C_hasBegun ∈ TB := tb_t 259 (by decide +kernel) (by decide +kernel)
theorem kw_260 : Cond.code y_C_hasBegun prog_1_method_15_code 1 (some .boolean) ∈ TB := tb_t 260 (by decide +kernel) (by decide +kernel)
theorem kw_261 : Cond.classLink "PreferenceCount" 88 "java/lang/IllegalStateException" ∈ TB := tb_t 261 (by decide +kernel) (by decide +kernel)
theorem kw_262 : Cond.instantiable "java/lang/IllegalStateException" 6 ∈ TB := tb_t 262 (by decide +kernel) (by decide +kernel)
theorem kw_264 : Cond.selects "java/lang/IllegalStateException" ⟨"java/lang/Throwable", "fillInStackTrace", "(I)Ljava/lang/Throwable;"⟩ ⟨"java/lang/Throwable", "fillInStackTrace", "(I)Ljava/lang/Throwable;"⟩ ∈ TB := tb_t 264 (by decide +kernel) (by decide +kernel)
theorem kw_265 : Cond.lays "java/lang/IllegalStateException" "java/lang/Throwable" "cause" "Ljava/lang/Throwable;" ∈ TB := tb_t 265 (by decide +kernel) (by decide +kernel)
theorem kw_266 : Cond.lays "java/lang/IllegalStateException" "java/lang/Throwable" "stackTrace" "[Ljava/lang/StackTraceElement;" ∈ TB := tb_t 266 (by decide +kernel) (by decide +kernel)
theorem kw_267 : Cond.lays "java/lang/IllegalStateException" "java/lang/Throwable" "suppressedExceptions" "Ljava/util/List;" ∈ TB := tb_t 267 (by decide +kernel) (by decide +kernel)
theorem kw_268 : Cond.lays "java/lang/IllegalStateException" "java/lang/Throwable" "detailMessage" "Ljava/lang/String;" ∈ TB := tb_t 268 (by decide +kernel) (by decide +kernel)
theorem kw_269 : Cond.lays "java/lang/IllegalStateException" "java/lang/Throwable" "backtrace" "Ljava/lang/Object;" ∈ TB := tb_t 269 (by decide +kernel) (by decide +kernel)
theorem kw_271 : Cond.methodLink "PreferenceCount" 92 ⟨"java/lang/IllegalStateException", "<init>", "(Ljava/lang/String;)V"⟩ ∈ TB := tb_t 271 (by decide +kernel) (by decide +kernel)
theorem kw_272 : Cond.instanceMethod ⟨"java/lang/IllegalStateException", "<init>", "(Ljava/lang/String;)V"⟩ ∈ TB := tb_t 272 (by decide +kernel) (by decide +kernel)
theorem kw_273 : Cond.code ⟨"java/lang/IllegalStateException", "<init>", "(Ljava/lang/String;)V"⟩ prog_10_method_2_code 2 (Option.none : Option Jvm.ClassFile.FieldType) ∈ TB := tb_t 273 (by decide +kernel) (by decide +kernel)
theorem kw_274 : Cond.methodLink "java/lang/IllegalStateException" 7 ⟨"java/lang/RuntimeException", "<init>", "(Ljava/lang/String;)V"⟩ ∈ TB := tb_t 274 (by decide +kernel) (by decide +kernel)
theorem kw_275 : Cond.lays "java/lang/IllegalStateException" "java/lang/Throwable" "depth" "I" ∈ TB := tb_t 275 (by decide +kernel) (by decide +kernel)
theorem kw_277 : Cond.methodLink "PreferenceCount" 44 y_R_has ∈ TB := tb_t 277 (by decide +kernel) (by decide +kernel)
theorem kw_278 : Cond.instanceMethod y_R_has ∈ TB := tb_t 278 (by decide +kernel) (by decide +kernel)
theorem kw_279 : Cond.selects "PreferenceCount$Roll" y_R_has y_R_has ∈ TB := tb_t 279 (by decide +kernel) (by decide +kernel)
theorem kw_280 : Cond.code y_R_has prog_4_method_3_code 2 (some .boolean) ∈ TB := tb_t 280 (by decide +kernel) (by decide +kernel)
theorem kw_281 : Cond.methodLink "PreferenceCount" 48 y_R_anotherHasDraw ∈ TB := tb_t 281 (by decide +kernel) (by decide +kernel)
theorem kw_282 : Cond.instanceMethod y_R_anotherHasDraw ∈ TB := tb_t 282 (by decide +kernel) (by decide +kernel)
theorem kw_283 : Cond.selects "PreferenceCount$Roll" y_R_anotherHasDraw y_R_anotherHasDraw ∈ TB := tb_t 283 (by decide +kernel) (by decide +kernel)
theorem kw_284 : Cond.code y_R_anotherHasDraw prog_4_method_5_code 4 (some .boolean) ∈ TB := tb_t 284 (by decide +kernel) (by decide +kernel)
theorem kw_286 : Cond.methodLink "PreferenceCountLaw" 68 y_L_withdraw ∈ TB := tb_t 286 (by decide +kernel) (by decide +kernel)
theorem kw_287 : Cond.static y_L_withdraw ∈ TB := tb_t 287 (by decide +kernel) (by decide +kernel)
theorem kw_288 : Cond.codeWith y_L_withdraw method_5_code 3 (some .int) [(0, 5, 8, 18), (0, 5, 11, 13)] ∈ TB := tb_t 288 (by decide +kernel) (by decide +kernel)
theorem kw_289 : Cond.methodLink "PreferenceCountLaw" 20 y_C_withdraw ∈ TB := tb_t 289 (by decide +kernel) (by decide +kernel)
theorem kw_290 : Cond.instanceMethod y_C_withdraw ∈ TB := tb_t 290 (by decide +kernel) (by decide +kernel)
theorem kw_291 : Cond.selects "PreferenceCount" y_C_withdraw y_C_withdraw ∈ TB := tb_t 291 (by decide +kernel) (by decide +kernel)
theorem kw_292 : Cond.code y_C_withdraw prog_1_method_4_code 2 (Option.none : Option Jvm.ClassFile.FieldType) ∈ TB := tb_t 292 (by decide +kernel) (by decide +kernel)
theorem kw_293 : Cond.methodLink "PreferenceCount" 58 y_R_isContinuing ∈ TB := tb_t 293 (by decide +kernel) (by decide +kernel)
theorem kw_294 : Cond.instanceMethod y_R_isContinuing ∈ TB := tb_t 294 (by decide +kernel) (by decide +kernel)
theorem kw_295 : Cond.selects "PreferenceCount$Roll" y_R_isContinuing y_R_isContinuing ∈ TB := tb_t 295 (by decide +kernel) (by decide +kernel)
theorem kw_296 : Cond.code y_R_isContinuing prog_4_method_6_code 2 (some .boolean) ∈ TB := tb_t 296 (by decide +kernel) (by decide +kernel)
theorem kw_298 : Cond.methodLink "PreferenceCount" 71 y_R_exclude ∈ TB := tb_t 298 (by decide +kernel) (by decide +kernel)
theorem kw_299 : Cond.instanceMethod y_R_exclude ∈ TB := tb_t 299 (by decide +kernel) (by decide +kernel)
theorem kw_300 : Cond.selects "PreferenceCount$Roll" y_R_exclude y_R_exclude ∈ TB := tb_t 300 (by decide +kernel) (by decide +kernel)
theorem kw_301 : Cond.code y_R_exclude prog_4_method_10_code 2 (Option.none : Option Jvm.ClassFile.FieldType) ∈ TB := tb_t 301 (by decide +kernel) (by decide +kernel)
theorem kw_302 : Cond.methodLink "PreferenceCountLaw" 74 y_L_lay ∈ TB := tb_t 302 (by decide +kernel) (by decide +kernel)
theorem kw_303 : Cond.static y_L_lay ∈ TB := tb_t 303 (by decide +kernel) (by decide +kernel)
theorem kw_304 : Cond.codeWith y_L_lay method_6_code 6 (some .int) [(0, 11, 14, 18), (0, 11, 18, 13)] ∈ TB := tb_t 304 (by decide +kernel) (by decide +kernel)
theorem kw_305 : Cond.methodLink "PreferenceCountLaw" 24 y_C_lay ∈ TB := tb_t 305 (by decide +kernel) (by decide +kernel)
theorem kw_306 : Cond.instanceMethod y_C_lay ∈ TB := tb_t 306 (by decide +kernel) (by decide +kernel)
theorem kw_307 : Cond.selects "PreferenceCount" y_C_lay y_C_lay ∈ TB := tb_t 307 (by decide +kernel) (by decide +kernel)
theorem kw_308 : Cond.code y_C_lay prog_1_method_5_code 5 (some .int) ∈ TB := tb_t 308 (by decide +kernel) (by decide +kernel)
theorem kw_309 : Cond.methodLink "PreferenceCount" 78 y_C_isRanking ∈ TB := tb_t 309 (by decide +kernel) (by decide +kernel)
theorem kw_311 : Cond.instanceMethod y_C_isRanking ∈ TB := tb_t 311 (by decide +kernel) (by decide +kernel)
theorem kw_312 : Cond.code y_C_isRanking prog_1_method_18_code 7 (some .boolean) ∈ TB := tb_t 312 (by decide +kernel) (by decide +kernel)
theorem kw_313 : Cond.methodLink "PreferenceCount" 194 y_C_candidateAt ∈ TB := tb_t 313 (by decide +kernel) (by decide +kernel)
theorem kw_314 : Cond.static y_C_candidateAt ∈ TB := tb_t 314 (by decide +kernel) (by decide +kernel)
theorem kw_315 : Cond.code y_C_candidateAt prog_1_method_19_code 3 (some .int) ∈ TB := tb_t 315 (by decide +kernel) (by decide +kernel)
theorem kw_316 : Cond.constantLong "PreferenceCount" 198 (15 : Int64) ∈ TB := tb_t 316 (by decide +kernel) (by decide +kernel)
theorem kw_318 : Cond.methodLink "PreferenceCount" 84 y_P_put ∈ TB := tb_t 318 (by decide +kernel) (by decide +kernel)
theorem kw_319 : Cond.instanceMethod y_P_put ∈ TB := tb_t 319 (by decide +kernel) (by decide +kernel)
theorem kw_320 : Cond.selects "PreferenceCount$Pile" y_P_put y_P_put ∈ TB := tb_t 320 (by decide +kernel) (by decide +kernel)
theorem kw_321 : Cond.code y_P_put prog_3_method_3_code 4 (Option.none : Option Jvm.ClassFile.FieldType) ∈ TB := tb_t 321 (by decide +kernel) (by decide +kernel)
theorem kw_322 : Cond.methodLink "PreferenceCount$Pile" 38 y_F_put ∈ TB := tb_t 322 (by decide +kernel) (by decide +kernel)
theorem kw_323 : Cond.instanceMethod y_F_put ∈ TB := tb_t 323 (by decide +kernel) (by decide +kernel)
theorem kw_324 : Cond.selects "PreferenceCount$Fractions" y_F_put y_F_put ∈ TB := tb_t 324 (by decide +kernel) (by decide +kernel)
theorem kw_325 : Cond.code y_F_put prog_2_method_4_code 8 (Option.none : Option Jvm.ClassFile.FieldType) ∈ TB := tb_t 325 (by decide +kernel) (by decide +kernel)
theorem kw_327 : Cond.static y_C_commonDivisor ∈ TB := tb_t 327 (by decide +kernel) (by decide +kernel)
theorem kw_328 : Cond.code y_C_commonDivisor prog_1_method_32_code 11 (some .long) ∈ TB := tb_t 328 (by decide +kernel) (by decide +kernel)
theorem kw_329 : Cond.methodLink "PreferenceCountLaw" 78 y_L_open ∈ TB := tb_t 329 (by decide +kernel) (by decide +kernel)
theorem kw_330 : Cond.static y_L_open ∈ TB := tb_t 330 (by decide +kernel) (by decide +kernel)
theorem kw_331 : Cond.codeWith y_L_open method_7_code 3 (some .int) [(0, 8, 11, 18)] ∈ TB := tb_t 331 (by decide +kernel) (by decide +kernel)
theorem kw_332 : Cond.methodLink "PreferenceCountLaw" 28 y_C_open ∈ TB := tb_t 332 (by decide +kernel) (by decide +kernel)
theorem kw_333 : Cond.instanceMethod y_C_open ∈ TB := tb_t 333 (by decide +kernel) (by decide +kernel)
theorem kw_334 : Cond.selects "PreferenceCount" y_C_open y_C_open ∈ TB := tb_t 334 (by decide +kernel) (by decide +kernel)
theorem kw_335 : Cond.code y_C_open prog_1_method_6_code 1 (some .int) ∈ TB := tb_t 335 (by decide +kernel) (by decide +kernel)
theorem kw_337 : Cond.methodLink "PreferenceCount" 93 y_C_setQuota ∈ TB := tb_t 337 (by decide +kernel) (by decide +kernel)
theorem kw_339 : Cond.instanceMethod y_C_setQuota ∈ TB := tb_t 339 (by decide +kernel) (by decide +kernel)
theorem kw_340 : Cond.code y_C_setQuota prog_1_method_20_code 3 (Option.none : Option Jvm.ClassFile.FieldType) ∈ TB := tb_t 340 (by decide +kernel) (by decide +kernel)
theorem kw_341 : Cond.methodLink "PreferenceCount" 200 y_C_commonDivisor ∈ TB := tb_t 341 (by decide +kernel) (by decide +kernel)
theorem kw_342 : Cond.methodLink "PreferenceCount" 99 y_S_clear ∈ TB := tb_t 342 (by decide +kernel) (by decide +kernel)
theorem kw_343 : Cond.instanceMethod y_S_clear ∈ TB := tb_t 343 (by decide +kernel) (by decide +kernel)
theorem kw_344 : Cond.selects "PreferenceCount$Stage" y_S_clear y_S_clear ∈ TB := tb_t 344 (by decide +kernel) (by decide +kernel)
theorem kw_345 : Cond.code y_S_clear prog_5_method_2_code 1 (Option.none : Option Jvm.ClassFile.FieldType) ∈ TB := tb_t 345 (by decide +kernel) (by decide +kernel)
theorem kw_346 : Cond.methodLink "PreferenceCount$Stage" 24 y_F_clear ∈ TB := tb_t 346 (by decide +kernel) (by decide +kernel)
theorem kw_347 : Cond.instanceMethod y_F_clear ∈ TB := tb_t 347 (by decide +kernel) (by decide +kernel)
theorem kw_348 : Cond.selects "PreferenceCount$Fractions" y_F_clear y_F_clear ∈ TB := tb_t 348 (by decide +kernel) (by decide +kernel)
theorem kw_349 : Cond.code y_F_clear prog_2_method_2_code 1 (Option.none : Option Jvm.ClassFile.FieldType) ∈ TB := tb_t 349 (by decide +kernel) (by decide +kernel)
theorem kw_350 : Cond.methodLink "PreferenceCount$Stage" 27 y_A_fillI ∈ TB := tb_t 350 (by decide +kernel) (by decide +kernel)
theorem kw_351 : Cond.static y_A_fillI ∈ TB := tb_t 351 (by decide +kernel) (by decide +kernel)
theorem kw_352 : Cond.code y_A_fillI prog_17_method_103_code 4 (Option.none : Option Jvm.ClassFile.FieldType) ∈ TB := tb_t 352 (by decide +kernel) (by decide +kernel)
theorem kw_353 : Cond.methodLink "PreferenceCount" 102 y_C_passOn ∈ TB := tb_t 353 (by decide +kernel) (by decide +kernel)
theorem kw_355 : Cond.instanceMethod y_C_passOn ∈ TB := tb_t 355 (by decide +kernel) (by decide +kernel)
theorem kw_356 : Cond.code y_C_passOn prog_1_method_24_code 7 (Option.none : Option Jvm.ClassFile.FieldType) ∈ TB := tb_t 356 (by decide +kernel) (by decide +kernel)
theorem kw_357 : Cond.methodLink "PreferenceCount" 219 y_F_multiply ∈ TB := tb_t 357 (by decide +kernel) (by decide +kernel)
theorem kw_358 : Cond.instanceMethod y_F_multiply ∈ TB := tb_t 358 (by decide +kernel) (by decide +kernel)
theorem kw_359 : Cond.selects "PreferenceCount$Fractions" y_F_multiply y_F_multiply ∈ TB := tb_t 359 (by decide +kernel) (by decide +kernel)
theorem kw_360 : Cond.code y_F_multiply prog_2_method_6_code 6 (Option.none : Option Jvm.ClassFile.FieldType) ∈ TB := tb_t 360 (by decide +kernel) (by decide +kernel)
theorem kw_361 : Cond.methodLink "PreferenceCount$Fractions" 34 y_F_put ∈ TB := tb_t 361 (by decide +kernel) (by decide +kernel)
theorem kw_362 : Cond.methodLink "PreferenceCount" 225 y_C_firstContinuing ∈ TB := tb_t 362 (by decide +kernel) (by decide +kernel)
theorem kw_364 : Cond.instanceMethod y_C_firstContinuing ∈ TB := tb_t 364 (by decide +kernel) (by decide +kernel)
theorem kw_365 : Cond.code y_C_firstContinuing prog_1_method_26_code 5 (some .int) ∈ TB := tb_t 365 (by decide +kernel) (by decide +kernel)
theorem kw_366 : Cond.methodLink "PreferenceCount" 229 y_C_hand ∈ TB := tb_t 366 (by decide +kernel) (by decide +kernel)
theorem kw_368 : Cond.instanceMethod y_C_hand ∈ TB := tb_t 368 (by decide +kernel) (by decide +kernel)
theorem kw_369 : Cond.code y_C_hand prog_1_method_25_code 4 (Option.none : Option Jvm.ClassFile.FieldType) ∈ TB := tb_t 369 (by decide +kernel) (by decide +kernel)
theorem kw_370 : Cond.methodLink "PreferenceCount" 235 y_F_add ∈ TB := tb_t 370 (by decide +kernel) (by decide +kernel)
theorem kw_371 : Cond.instanceMethod y_F_add ∈ TB := tb_t 371 (by decide +kernel) (by decide +kernel)
theorem kw_372 : Cond.selects "PreferenceCount$Fractions" y_F_add y_F_add ∈ TB := tb_t 372 (by decide +kernel) (by decide +kernel)
theorem kw_373 : Cond.code y_F_add prog_2_method_5_code 10 (Option.none : Option Jvm.ClassFile.FieldType) ∈ TB := tb_t 373 (by decide +kernel) (by decide +kernel)
theorem kw_374 : Cond.methodLink "PreferenceCount" 106 y_C_settle ∈ TB := tb_t 374 (by decide +kernel) (by decide +kernel)
theorem kw_376 : Cond.instanceMethod y_C_settle ∈ TB := tb_t 376 (by decide +kernel) (by decide +kernel)
theorem kw_377 : Cond.code y_C_settle prog_1_method_27_code 3 (Option.none : Option Jvm.ClassFile.FieldType) ∈ TB := tb_t 377 (by decide +kernel) (by decide +kernel)
theorem kw_378 : Cond.methodLink "PreferenceCount" 238 y_C_electInOrder ∈ TB := tb_t 378 (by decide +kernel) (by decide +kernel)
theorem kw_380 : Cond.instanceMethod y_C_electInOrder ∈ TB := tb_t 380 (by decide +kernel) (by decide +kernel)
theorem kw_381 : Cond.code y_C_electInOrder prog_1_method_28_code 4 (Option.none : Option Jvm.ClassFile.FieldType) ∈ TB := tb_t 381 (by decide +kernel) (by decide +kernel)
theorem kw_382 : Cond.methodLink "PreferenceCount" 123 y_C_foremost ∈ TB := tb_t 382 (by decide +kernel) (by decide +kernel)
theorem kw_384 : Cond.instanceMethod y_C_foremost ∈ TB := tb_t 384 (by decide +kernel) (by decide +kernel)
theorem kw_385 : Cond.code y_C_foremost prog_1_method_29_code 5 (some .int) ∈ TB := tb_t 385 (by decide +kernel) (by decide +kernel)
theorem kw_386 : Cond.methodLink "PreferenceCount" 245 y_R_isElected ∈ TB := tb_t 386 (by decide +kernel) (by decide +kernel)
theorem kw_387 : Cond.instanceMethod y_R_isElected ∈ TB := tb_t 387 (by decide +kernel) (by decide +kernel)
theorem kw_388 : Cond.selects "PreferenceCount$Roll" y_R_isElected y_R_isElected ∈ TB := tb_t 388 (by decide +kernel) (by decide +kernel)
theorem kw_389 : Cond.code y_R_isElected prog_4_method_7_code 2 (some .boolean) ∈ TB := tb_t 389 (by decide +kernel) (by decide +kernel)
theorem kw_390 : Cond.methodLink "PreferenceCount" 248 y_C_isAhead ∈ TB := tb_t 390 (by decide +kernel) (by decide +kernel)
theorem kw_392 : Cond.instanceMethod y_C_isAhead ∈ TB := tb_t 392 (by decide +kernel) (by decide +kernel)
theorem kw_393 : Cond.code y_C_isAhead prog_1_method_31_code 6 (some .boolean) ∈ TB := tb_t 393 (by decide +kernel) (by decide +kernel)
theorem kw_394 : Cond.methodLink "PreferenceCount" 204 y_F_compare ∈ TB := tb_t 394 (by decide +kernel) (by decide +kernel)
theorem kw_395 : Cond.instanceMethod y_F_compare ∈ TB := tb_t 395 (by decide +kernel) (by decide +kernel)
theorem kw_396 : Cond.selects "PreferenceCount$Fractions" y_F_compare y_F_compare ∈ TB := tb_t 396 (by decide +kernel) (by decide +kernel)
theorem kw_397 : Cond.code y_F_compare prog_2_method_7_code 8 (some .int) ∈ TB := tb_t 397 (by decide +kernel) (by decide +kernel)
theorem kw_398 : Cond.methodLink "PreferenceCount$Fractions" 38 y_G_compare ∈ TB := tb_t 398 (by decide +kernel) (by decide +kernel)
theorem kw_399 : Cond.static y_G_compare ∈ TB := tb_t 399 (by decide +kernel) (by decide +kernel)
theorem kw_400 : Cond.code y_G_compare prog_12_method_42_code 4 (some .int) ∈ TB := tb_t 400 (by decide +kernel) (by decide +kernel)
theorem kw_401 : Cond.methodLink "PreferenceCount" 127 y_C_isAboveQuota ∈ TB := tb_t 401 (by decide +kernel) (by decide +kernel)
theorem kw_403 : Cond.instanceMethod y_C_isAboveQuota ∈ TB := tb_t 403 (by decide +kernel) (by decide +kernel)
theorem kw_404 : Cond.code y_C_isAboveQuota prog_1_method_21_code 2 (some .boolean) ∈ TB := tb_t 404 (by decide +kernel) (by decide +kernel)
theorem kw_405 : Cond.methodLink "PreferenceCount" 242 y_R_elect ∈ TB := tb_t 405 (by decide +kernel) (by decide +kernel)
theorem kw_406 : Cond.instanceMethod y_R_elect ∈ TB := tb_t 406 (by decide +kernel) (by decide +kernel)
theorem kw_407 : Cond.selects "PreferenceCount$Roll" y_R_elect y_R_elect ∈ TB := tb_t 407 (by decide +kernel) (by decide +kernel)
theorem kw_408 : Cond.code y_R_elect prog_4_method_9_code 2 (Option.none : Option Jvm.ClassFile.FieldType) ∈ TB := tb_t 408 (by decide +kernel) (by decide +kernel)
theorem kw_409 : Cond.methodLink "PreferenceCountLaw" 82 y_L_step ∈ TB := tb_t 409 (by decide +kernel) (by decide +kernel)
theorem kw_410 : Cond.static y_L_step ∈ TB := tb_t 410 (by decide +kernel) (by decide +kernel)
theorem kw_411 : Cond.codeWith y_L_step method_8_code 3 (some .int) [(0, 8, 11, 18)] ∈ TB := tb_t 411 (by decide +kernel) (by decide +kernel)
theorem kw_412 : Cond.methodLink "PreferenceCountLaw" 32 y_C_step ∈ TB := tb_t 412 (by decide +kernel) (by decide +kernel)
theorem kw_413 : Cond.instanceMethod y_C_step ∈ TB := tb_t 413 (by decide +kernel) (by decide +kernel)
theorem kw_414 : Cond.selects "PreferenceCount" y_C_step y_C_step ∈ TB := tb_t 414 (by decide +kernel) (by decide +kernel)
theorem kw_415 : Cond.code y_C_step prog_1_method_7_code 4 (some .int) ∈ TB := tb_t 415 (by decide +kernel) (by decide +kernel)
theorem kw_417 : Cond.methodLink "PreferenceCount" 130 y_C_hindmost ∈ TB := tb_t 417 (by decide +kernel) (by decide +kernel)
theorem kw_419 : Cond.instanceMethod y_C_hindmost ∈ TB := tb_t 419 (by decide +kernel) (by decide +kernel)
theorem kw_420 : Cond.code y_C_hindmost prog_1_method_30_code 3 (some .int) ∈ TB := tb_t 420 (by decide +kernel) (by decide +kernel)
theorem kw_421 : Cond.methodLink "PreferenceCount" 133 y_S_followOn ∈ TB := tb_t 421 (by decide +kernel) (by decide +kernel)
theorem kw_422 : Cond.instanceMethod y_S_followOn ∈ TB := tb_t 422 (by decide +kernel) (by decide +kernel)
theorem kw_423 : Cond.selects "PreferenceCount$Stage" y_S_followOn y_S_followOn ∈ TB := tb_t 423 (by decide +kernel) (by decide +kernel)
theorem kw_424 : Cond.code y_S_followOn prog_5_method_3_code 2 (Option.none : Option Jvm.ClassFile.FieldType) ∈ TB := tb_t 424 (by decide +kernel) (by decide +kernel)
theorem kw_425 : Cond.methodLink "PreferenceCount$Stage" 33 y_F_copy ∈ TB := tb_t 425 (by decide +kernel) (by decide +kernel)
theorem kw_426 : Cond.instanceMethod y_F_copy ∈ TB := tb_t 426 (by decide +kernel) (by decide +kernel)
theorem kw_427 : Cond.selects "PreferenceCount$Fractions" y_F_copy y_F_copy ∈ TB := tb_t 427 (by decide +kernel) (by decide +kernel)
theorem kw_428 : Cond.code y_F_copy prog_2_method_3_code 2 (Option.none : Option Jvm.ClassFile.FieldType) ∈ TB := tb_t 428 (by decide +kernel) (by decide +kernel)
theorem kw_429 : Cond.methodLink "PreferenceCount$Fractions" 22 ⟨"java/lang/System", "arraycopy", "(Ljava/lang/Object;ILjava/lang/Object;II)V"⟩ ∈ TB := tb_t 429 (by decide +kernel) (by decide +kernel)
theorem kw_430 : Cond.static ⟨"java/lang/System", "arraycopy", "(Ljava/lang/Object;ILjava/lang/Object;II)V"⟩ ∈ TB := tb_t 430 (by decide +kernel) (by decide +kernel)
theorem kw_432 : Cond.methodLink "PreferenceCount" 137 y_C_passSurplus ∈ TB := tb_t 432 (by decide +kernel) (by decide +kernel)
theorem kw_434 : Cond.instanceMethod y_C_passSurplus ∈ TB := tb_t 434 (by decide +kernel) (by decide +kernel)
theorem kw_435 : Cond.code y_C_passSurplus prog_1_method_22_code 7 (Option.none : Option Jvm.ClassFile.FieldType) ∈ TB := tb_t 435 (by decide +kernel) (by decide +kernel)
theorem kw_436 : Cond.methodLink "PreferenceCount" 208 y_F_put ∈ TB := tb_t 436 (by decide +kernel) (by decide +kernel)
theorem kw_437 : Cond.methodLink "PreferenceCount" 140 y_C_excludeAndPass ∈ TB := tb_t 437 (by decide +kernel) (by decide +kernel)
theorem kw_439 : Cond.instanceMethod y_C_excludeAndPass ∈ TB := tb_t 439 (by decide +kernel) (by decide +kernel)
theorem kw_440 : Cond.code y_C_excludeAndPass prog_1_method_23_code 2 (Option.none : Option Jvm.ClassFile.FieldType) ∈ TB := tb_t 440 (by decide +kernel) (by decide +kernel)
theorem kw_441 : Cond.methodLink "PreferenceCountLaw" 94 y_L_status ∈ TB := tb_t 441 (by decide +kernel) (by decide +kernel)
theorem kw_442 : Cond.static y_L_status ∈ TB := tb_t 442 (by decide +kernel) (by decide +kernel)
theorem kw_443 : Cond.codeWith y_L_status method_9_code 4 (some .int) [(0, 9, 12, 39)] ∈ TB := tb_t 443 (by decide +kernel) (by decide +kernel)
theorem kw_444 : Cond.classLink "PreferenceCountLaw" 39 "java/lang/IndexOutOfBoundsException" ∈ TB := tb_t 444 (by decide +kernel) (by decide +kernel)
theorem kw_445 : Cond.methodLink "PreferenceCountLaw" 35 y_C_status ∈ TB := tb_t 445 (by decide +kernel) (by decide +kernel)
theorem kw_446 : Cond.instanceMethod y_C_status ∈ TB := tb_t 446 (by decide +kernel) (by decide +kernel)
theorem kw_447 : Cond.selects "PreferenceCount" y_C_status y_C_status ∈ TB := tb_t 447 (by decide +kernel) (by decide +kernel)
theorem kw_448 : Cond.code y_C_status prog_1_method_10_code 2 (some .int) ∈ TB := tb_t 448 (by decide +kernel) (by decide +kernel)
theorem kw_449 : Cond.classLink "PreferenceCount" 153 "java/lang/IndexOutOfBoundsException" ∈ TB := tb_t 449 (by decide +kernel) (by decide +kernel)
theorem kw_450 : Cond.instantiable "java/lang/IndexOutOfBoundsException" 6 ∈ TB := tb_t 450 (by decide +kernel) (by decide +kernel)
theorem kw_452 : Cond.selects "java/lang/IndexOutOfBoundsException" ⟨"java/lang/Throwable", "fillInStackTrace", "(I)Ljava/lang/Throwable;"⟩ ⟨"java/lang/Throwable", "fillInStackTrace", "(I)Ljava/lang/Throwable;"⟩ ∈ TB := tb_t 452 (by decide +kernel) (by decide +kernel)
theorem kw_453 : Cond.lays "java/lang/IndexOutOfBoundsException" "java/lang/Throwable" "cause" "Ljava/lang/Throwable;" ∈ TB := tb_t 453 (by decide +kernel) (by decide +kernel)
theorem kw_454 : Cond.lays "java/lang/IndexOutOfBoundsException" "java/lang/Throwable" "stackTrace" "[Ljava/lang/StackTraceElement;" ∈ TB := tb_t 454 (by decide +kernel) (by decide +kernel)
theorem kw_455 : Cond.lays "java/lang/IndexOutOfBoundsException" "java/lang/Throwable" "suppressedExceptions" "Ljava/util/List;" ∈ TB := tb_t 455 (by decide +kernel) (by decide +kernel)
theorem kw_456 : Cond.lays "java/lang/IndexOutOfBoundsException" "java/lang/Throwable" "detailMessage" "Ljava/lang/String;" ∈ TB := tb_t 456 (by decide +kernel) (by decide +kernel)
theorem kw_457 : Cond.lays "java/lang/IndexOutOfBoundsException" "java/lang/Throwable" "backtrace" "Ljava/lang/Object;" ∈ TB := tb_t 457 (by decide +kernel) (by decide +kernel)
theorem kw_459 : Cond.methodLink "PreferenceCount" 157 ⟨"java/lang/IndexOutOfBoundsException", "<init>", "(Ljava/lang/String;)V"⟩ ∈ TB := tb_t 459 (by decide +kernel) (by decide +kernel)
theorem kw_460 : Cond.instanceMethod ⟨"java/lang/IndexOutOfBoundsException", "<init>", "(Ljava/lang/String;)V"⟩ ∈ TB := tb_t 460 (by decide +kernel) (by decide +kernel)
theorem kw_461 : Cond.code ⟨"java/lang/IndexOutOfBoundsException", "<init>", "(Ljava/lang/String;)V"⟩ prog_11_method_2_code 2 (Option.none : Option Jvm.ClassFile.FieldType) ∈ TB := tb_t 461 (by decide +kernel) (by decide +kernel)
theorem kw_462 : Cond.methodLink "java/lang/IndexOutOfBoundsException" 7 ⟨"java/lang/RuntimeException", "<init>", "(Ljava/lang/String;)V"⟩ ∈ TB := tb_t 462 (by decide +kernel) (by decide +kernel)
theorem kw_463 : Cond.lays "java/lang/IndexOutOfBoundsException" "java/lang/Throwable" "depth" "I" ∈ TB := tb_t 463 (by decide +kernel) (by decide +kernel)
theorem kw_465 : Cond.methodLink "PreferenceCountLaw" 98 y_L_total ∈ TB := tb_t 465 (by decide +kernel) (by decide +kernel)
theorem kw_466 : Cond.static y_L_total ∈ TB := tb_t 466 (by decide +kernel) (by decide +kernel)
theorem kw_467 : Cond.codeWith y_L_total method_10_code 6 (some .int) [(0, 11, 14, 39)] ∈ TB := tb_t 467 (by decide +kernel) (by decide +kernel)
theorem kw_468 : Cond.methodLink "PreferenceCountLaw" 41 y_C_total ∈ TB := tb_t 468 (by decide +kernel) (by decide +kernel)
theorem kw_469 : Cond.instanceMethod y_C_total ∈ TB := tb_t 469 (by decide +kernel) (by decide +kernel)
theorem kw_470 : Cond.selects "PreferenceCount" y_C_total y_C_total ∈ TB := tb_t 470 (by decide +kernel) (by decide +kernel)
theorem kw_471 : Cond.code y_C_total prog_1_method_11_code 5 (some .long) ∈ TB := tb_t 471 (by decide +kernel) (by decide +kernel)
theorem kw_472 : Cond.methodLink "PreferenceCount" 161 y_C_refuseUnknown ∈ TB := tb_t 472 (by decide +kernel) (by decide +kernel)
theorem kw_474 : Cond.instanceMethod y_C_refuseUnknown ∈ TB := tb_t 474 (by decide +kernel) (by decide +kernel)
theorem kw_475 : Cond.code y_C_refuseUnknown prog_1_method_17_code 3 (Option.none : Option Jvm.ClassFile.FieldType) ∈ TB := tb_t 475 (by decide +kernel) (by decide +kernel)
theorem kw_476 : Cond.methodLink "PreferenceCount" 177 y_R_hasOrIsNobody ∈ TB := tb_t 476 (by decide +kernel) (by decide +kernel)
theorem kw_477 : Cond.instanceMethod y_R_hasOrIsNobody ∈ TB := tb_t 477 (by decide +kernel) (by decide +kernel)
theorem kw_478 : Cond.selects "PreferenceCount$Roll" y_R_hasOrIsNobody y_R_hasOrIsNobody ∈ TB := tb_t 478 (by decide +kernel) (by decide +kernel)
theorem kw_479 : Cond.code y_R_hasOrIsNobody prog_4_method_4_code 2 (some .boolean) ∈ TB := tb_t 479 (by decide +kernel) (by decide +kernel)
theorem kw_481 : Cond.methodLink "PreferenceCountLaw" 102 y_L_papers ∈ TB := tb_t 481 (by decide +kernel) (by decide +kernel)
theorem kw_482 : Cond.static y_L_papers ∈ TB := tb_t 482 (by decide +kernel) (by decide +kernel)
theorem kw_483 : Cond.codeWith y_L_papers method_11_code 4 (some .int) [(0, 9, 12, 39)] ∈ TB := tb_t 483 (by decide +kernel) (by decide +kernel)
theorem kw_484 : Cond.methodLink "PreferenceCountLaw" 45 y_C_papers ∈ TB := tb_t 484 (by decide +kernel) (by decide +kernel)
theorem kw_485 : Cond.instanceMethod y_C_papers ∈ TB := tb_t 485 (by decide +kernel) (by decide +kernel)
theorem kw_486 : Cond.selects "PreferenceCount" y_C_papers y_C_papers ∈ TB := tb_t 486 (by decide +kernel) (by decide +kernel)
theorem kw_487 : Cond.code y_C_papers prog_1_method_12_code 2 (some .int) ∈ TB := tb_t 487 (by decide +kernel) (by decide +kernel)
theorem kw_488 : Cond.methodLink "PreferenceCount" 180 y_P_lyingWith ∈ TB := tb_t 488 (by decide +kernel) (by decide +kernel)
theorem kw_489 : Cond.instanceMethod y_P_lyingWith ∈ TB := tb_t 489 (by decide +kernel) (by decide +kernel)
theorem kw_490 : Cond.selects "PreferenceCount$Pile" y_P_lyingWith y_P_lyingWith ∈ TB := tb_t 490 (by decide +kernel) (by decide +kernel)
theorem kw_491 : Cond.code y_P_lyingWith prog_3_method_4_code 4 (some .int) ∈ TB := tb_t 491 (by decide +kernel) (by decide +kernel)
theorem kw_492 : Cond.methodLink "PreferenceCountLaw" 105 y_L_moved ∈ TB := tb_t 492 (by decide +kernel) (by decide +kernel)
theorem kw_493 : Cond.static y_L_moved ∈ TB := tb_t 493 (by decide +kernel) (by decide +kernel)
theorem kw_494 : Cond.codeWith y_L_moved method_12_code 5 (some .int) [(0, 10, 13, 39)] ∈ TB := tb_t 494 (by decide +kernel) (by decide +kernel)
theorem kw_495 : Cond.methodLink "PreferenceCountLaw" 48 y_C_moved ∈ TB := tb_t 495 (by decide +kernel) (by decide +kernel)
theorem kw_496 : Cond.instanceMethod y_C_moved ∈ TB := tb_t 496 (by decide +kernel) (by decide +kernel)
theorem kw_497 : Cond.selects "PreferenceCount" y_C_moved y_C_moved ∈ TB := tb_t 497 (by decide +kernel) (by decide +kernel)
theorem kw_498 : Cond.code y_C_moved prog_1_method_13_code 3 (some .int) ∈ TB := tb_t 498 (by decide +kernel) (by decide +kernel)
theorem kw_499 : Cond.classLink "PreferenceCountLaw" 53 "PreferenceCountModel" ∈ TB := tb_t 499 (by decide +kernel) (by decide +kernel)
theorem kw_500 : Cond.instantiable "PreferenceCountModel" 20 ∈ TB := tb_t 500 (by decide +kernel) (by decide +kernel)
theorem kw_501 : Cond.methodLink "PreferenceCountLaw" 55 y_M_init ∈ TB := tb_t 501 (by decide +kernel) (by decide +kernel)
theorem kw_502 : Cond.instanceMethod y_M_init ∈ TB := tb_t 502 (by decide +kernel) (by decide +kernel)
theorem kw_503 : Cond.code y_M_init prog_7_method_1_code 1 (Option.none : Option Jvm.ClassFile.FieldType) ∈ TB := tb_t 503 (by decide +kernel) (by decide +kernel)
theorem kw_504 : Cond.methodLink "PreferenceCountModel" 1 ⟨"java/lang/Object", "<init>", "()V"⟩ ∈ TB := tb_t 504 (by decide +kernel) (by decide +kernel)
theorem kw_505 : Cond.methodLink "PreferenceCountModel" 59 y_M_clear ∈ TB := tb_t 505 (by decide +kernel) (by decide +kernel)
theorem kw_507 : Cond.instanceMethod y_M_clear ∈ TB := tb_t 507 (by decide +kernel) (by decide +kernel)
theorem kw_508 : Cond.code y_M_clear prog_7_method_3_code 4 (Option.none : Option Jvm.ClassFile.FieldType) ∈ TB := tb_t 508 (by decide +kernel) (by decide +kernel)
theorem kw_509 : Cond.fieldLink "PreferenceCountModel" 63 "PreferenceCountModel" "thrown" "I" ∈ TB := tb_t 509 (by decide +kernel) (by decide +kernel)
theorem kw_510 : Cond.fieldLink "PreferenceCountModel" 7 "PreferenceCountModel" "candidates" "I" ∈ TB := tb_t 510 (by decide +kernel) (by decide +kernel)
theorem kw_511 : Cond.fieldLink "PreferenceCountModel" 13 "PreferenceCountModel" "seats" "I" ∈ TB := tb_t 511 (by decide +kernel) (by decide +kernel)
theorem kw_512 : Cond.fieldLink "PreferenceCountModel" 16 "PreferenceCountModel" "draws" "[I" ∈ TB := tb_t 512 (by decide +kernel) (by decide +kernel)
theorem kw_513 : Cond.fieldLink "PreferenceCountModel" 20 "PreferenceCountModel" "status" "[I" ∈ TB := tb_t 513 (by decide +kernel) (by decide +kernel)
theorem kw_514 : Cond.fieldLink "PreferenceCountModel" 66 "PreferenceCountModel" "elected" "I" ∈ TB := tb_t 514 (by decide +kernel) (by decide +kernel)
theorem kw_515 : Cond.fieldLink "PreferenceCountModel" 69 "PreferenceCountModel" "excluded" "I" ∈ TB := tb_t 515 (by decide +kernel) (by decide +kernel)
theorem kw_516 : Cond.fieldLink "PreferenceCountModel" 72 "PreferenceCountModel" "papers" "I" ∈ TB := tb_t 516 (by decide +kernel) (by decide +kernel)
theorem kw_517 : Cond.fieldLink "PreferenceCountModel" 23 "PreferenceCountModel" "rows" "[I" ∈ TB := tb_t 517 (by decide +kernel) (by decide +kernel)
theorem kw_518 : Cond.fieldLink "PreferenceCountModel" 26 "PreferenceCountModel" "lengths" "[I" ∈ TB := tb_t 518 (by decide +kernel) (by decide +kernel)
theorem kw_519 : Cond.fieldLink "PreferenceCountModel" 29 "PreferenceCountModel" "places" "[I" ∈ TB := tb_t 519 (by decide +kernel) (by decide +kernel)
theorem kw_520 : Cond.fieldLink "PreferenceCountModel" 32 "PreferenceCountModel" "with" "[I" ∈ TB := tb_t 520 (by decide +kernel) (by decide +kernel)
theorem kw_521 : Cond.fieldLink "PreferenceCountModel" 35 "PreferenceCountModel" "values" "[J" ∈ TB := tb_t 521 (by decide +kernel) (by decide +kernel)
theorem kw_522 : Cond.fieldLink "PreferenceCountModel" 39 "PreferenceCountModel" "keeps" "[Z" ∈ TB := tb_t 522 (by decide +kernel) (by decide +kernel)
theorem kw_523 : Cond.fieldLink "PreferenceCountModel" 43 "PreferenceCountModel" "denominator" "J" ∈ TB := tb_t 523 (by decide +kernel) (by decide +kernel)
theorem kw_524 : Cond.fieldLink "PreferenceCountModel" 47 "PreferenceCountModel" "stage" "I" ∈ TB := tb_t 524 (by decide +kernel) (by decide +kernel)
theorem kw_525 : Cond.fieldLink "PreferenceCountModel" 50 "PreferenceCountModel" "totals" "[J" ∈ TB := tb_t 525 (by decide +kernel) (by decide +kernel)
theorem kw_526 : Cond.fieldLink "PreferenceCountModel" 53 "PreferenceCountModel" "denominators" "[J" ∈ TB := tb_t 526 (by decide +kernel) (by decide +kernel)
theorem kw_527 : Cond.fieldLink "PreferenceCountModel" 56 "PreferenceCountModel" "went" "[I" ∈ TB := tb_t 527 (by decide +kernel) (by decide +kernel)
theorem kw_528 : Cond.fieldLink "PreferenceCountModel" 75 "PreferenceCountModel" "over" "Z" ∈ TB := tb_t 528 (by decide +kernel) (by decide +kernel)
theorem kw_529 : Cond.lays "PreferenceCountModel" "PreferenceCountModel" "thrown" "I" ∈ TB := tb_t 529 (by decide +kernel) (by decide +kernel)
theorem kw_531 : Cond.lays "PreferenceCountModel" "PreferenceCountModel" "candidates" "I" ∈ TB := tb_t 531 (by decide +kernel) (by decide +kernel)
theorem kw_533 : Cond.lays "PreferenceCountModel" "PreferenceCountModel" "seats" "I" ∈ TB := tb_t 533 (by decide +kernel) (by decide +kernel)
theorem kw_535 : Cond.laysFinal "PreferenceCountModel" "PreferenceCountModel" "draws" "[I" ∈ TB := tb_t 535 (by decide +kernel) (by decide +kernel)
theorem kw_537 : Cond.laysFinal "PreferenceCountModel" "PreferenceCountModel" "status" "[I" ∈ TB := tb_t 537 (by decide +kernel) (by decide +kernel)
theorem kw_539 : Cond.lays "PreferenceCountModel" "PreferenceCountModel" "elected" "I" ∈ TB := tb_t 539 (by decide +kernel) (by decide +kernel)
theorem kw_541 : Cond.lays "PreferenceCountModel" "PreferenceCountModel" "excluded" "I" ∈ TB := tb_t 541 (by decide +kernel) (by decide +kernel)
theorem kw_543 : Cond.lays "PreferenceCountModel" "PreferenceCountModel" "papers" "I" ∈ TB := tb_t 543 (by decide +kernel) (by decide +kernel)
theorem kw_545 : Cond.laysFinal "PreferenceCountModel" "PreferenceCountModel" "rows" "[I" ∈ TB := tb_t 545 (by decide +kernel) (by decide +kernel)
theorem kw_547 : Cond.laysFinal "PreferenceCountModel" "PreferenceCountModel" "lengths" "[I" ∈ TB := tb_t 547 (by decide +kernel) (by decide +kernel)
theorem kw_549 : Cond.laysFinal "PreferenceCountModel" "PreferenceCountModel" "places" "[I" ∈ TB := tb_t 549 (by decide +kernel) (by decide +kernel)
theorem kw_551 : Cond.laysFinal "PreferenceCountModel" "PreferenceCountModel" "with" "[I" ∈ TB := tb_t 551 (by decide +kernel) (by decide +kernel)
theorem kw_553 : Cond.laysFinal "PreferenceCountModel" "PreferenceCountModel" "values" "[J" ∈ TB := tb_t 553 (by decide +kernel) (by decide +kernel)
theorem kw_555 : Cond.laysFinal "PreferenceCountModel" "PreferenceCountModel" "keeps" "[Z" ∈ TB := tb_t 555 (by decide +kernel) (by decide +kernel)
theorem kw_557 : Cond.lays "PreferenceCountModel" "PreferenceCountModel" "denominator" "J" ∈ TB := tb_t 557 (by decide +kernel) (by decide +kernel)
theorem kw_559 : Cond.lays "PreferenceCountModel" "PreferenceCountModel" "stage" "I" ∈ TB := tb_t 559 (by decide +kernel) (by decide +kernel)
theorem kw_561 : Cond.laysFinal "PreferenceCountModel" "PreferenceCountModel" "totals" "[J" ∈ TB := tb_t 561 (by decide +kernel) (by decide +kernel)
theorem kw_563 : Cond.laysFinal "PreferenceCountModel" "PreferenceCountModel" "denominators" "[J" ∈ TB := tb_t 563 (by decide +kernel) (by decide +kernel)
theorem kw_565 : Cond.laysFinal "PreferenceCountModel" "PreferenceCountModel" "went" "[I" ∈ TB := tb_t 565 (by decide +kernel) (by decide +kernel)
theorem kw_567 : Cond.lays "PreferenceCountModel" "PreferenceCountModel" "over" "Z" ∈ TB := tb_t 567 (by decide +kernel) (by decide +kernel)
theorem kw_570 : Cond.arrayClass .boolean ∈ TB := tb_t 570 (by decide +kernel) (by decide +kernel)
theorem kw_571 : Cond.methodLink "PreferenceCountLaw" 62 y_M_thrown ∈ TB := tb_t 571 (by decide +kernel) (by decide +kernel)
theorem kw_572 : Cond.instanceMethod y_M_thrown ∈ TB := tb_t 572 (by decide +kernel) (by decide +kernel)
theorem kw_573 : Cond.selects "PreferenceCountModel" y_M_thrown y_M_thrown ∈ TB := tb_t 573 (by decide +kernel) (by decide +kernel)
theorem kw_574 : Cond.code y_M_thrown prog_7_method_2_code 1 (some .int) ∈ TB := tb_t 574 (by decide +kernel) (by decide +kernel)
theorem kw_575 : Cond.methodLink "PreferenceCountLaw" 61 y_M_begin ∈ TB := tb_t 575 (by decide +kernel) (by decide +kernel)
theorem kw_576 : Cond.instanceMethod y_M_begin ∈ TB := tb_t 576 (by decide +kernel) (by decide +kernel)
theorem kw_577 : Cond.selects "PreferenceCountModel" y_M_begin y_M_begin ∈ TB := tb_t 577 (by decide +kernel) (by decide +kernel)
theorem kw_578 : Cond.code y_M_begin prog_7_method_6_code 3 (Option.none : Option Jvm.ClassFile.FieldType) ∈ TB := tb_t 578 (by decide +kernel) (by decide +kernel)
theorem kw_579 : Cond.methodLink "PreferenceCountModel" 79 y_M_says ∈ TB := tb_t 579 (by decide +kernel) (by decide +kernel)
theorem kw_581 : Cond.instanceMethod y_M_says ∈ TB := tb_t 581 (by decide +kernel) (by decide +kernel)
theorem kw_582 : Cond.code y_M_says prog_7_method_4_code 2 (some .boolean) ∈ TB := tb_t 582 (by decide +kernel) (by decide +kernel)
theorem kw_583 : Cond.methodLink "PreferenceCountLaw" 67 y_M_draw ∈ TB := tb_t 583 (by decide +kernel) (by decide +kernel)
theorem kw_584 : Cond.instanceMethod y_M_draw ∈ TB := tb_t 584 (by decide +kernel) (by decide +kernel)
theorem kw_585 : Cond.selects "PreferenceCountModel" y_M_draw y_M_draw ∈ TB := tb_t 585 (by decide +kernel) (by decide +kernel)
theorem kw_586 : Cond.code y_M_draw prog_7_method_7_code 5 (Option.none : Option Jvm.ClassFile.FieldType) ∈ TB := tb_t 586 (by decide +kernel) (by decide +kernel)
theorem kw_587 : Cond.methodLink "PreferenceCountModel" 83 y_M_isCandidate ∈ TB := tb_t 587 (by decide +kernel) (by decide +kernel)
theorem kw_589 : Cond.instanceMethod y_M_isCandidate ∈ TB := tb_t 589 (by decide +kernel) (by decide +kernel)
theorem kw_590 : Cond.code y_M_isCandidate prog_7_method_5_code 2 (some .boolean) ∈ TB := tb_t 590 (by decide +kernel) (by decide +kernel)
theorem kw_591 : Cond.methodLink "PreferenceCountLaw" 71 y_M_withdraw ∈ TB := tb_t 591 (by decide +kernel) (by decide +kernel)
theorem kw_592 : Cond.instanceMethod y_M_withdraw ∈ TB := tb_t 592 (by decide +kernel) (by decide +kernel)
theorem kw_593 : Cond.selects "PreferenceCountModel" y_M_withdraw y_M_withdraw ∈ TB := tb_t 593 (by decide +kernel) (by decide +kernel)
theorem kw_594 : Cond.code y_M_withdraw prog_7_method_9_code 3 (Option.none : Option Jvm.ClassFile.FieldType) ∈ TB := tb_t 594 (by decide +kernel) (by decide +kernel)
theorem kw_595 : Cond.methodLink "PreferenceCountModel" 86 y_M_continuing ∈ TB := tb_t 595 (by decide +kernel) (by decide +kernel)
theorem kw_597 : Cond.instanceMethod y_M_continuing ∈ TB := tb_t 597 (by decide +kernel) (by decide +kernel)
theorem kw_598 : Cond.code y_M_continuing prog_7_method_8_code 3 (some .int) ∈ TB := tb_t 598 (by decide +kernel) (by decide +kernel)
theorem kw_599 : Cond.methodLink "PreferenceCountModel" 90 y_M_exclude ∈ TB := tb_t 599 (by decide +kernel) (by decide +kernel)
theorem kw_601 : Cond.instanceMethod y_M_exclude ∈ TB := tb_t 601 (by decide +kernel) (by decide +kernel)
theorem kw_602 : Cond.code y_M_exclude prog_7_method_10_code 2 (Option.none : Option Jvm.ClassFile.FieldType) ∈ TB := tb_t 602 (by decide +kernel) (by decide +kernel)
theorem kw_603 : Cond.methodLink "PreferenceCountLaw" 77 y_M_lay ∈ TB := tb_t 603 (by decide +kernel) (by decide +kernel)
theorem kw_604 : Cond.instanceMethod y_M_lay ∈ TB := tb_t 604 (by decide +kernel) (by decide +kernel)
theorem kw_605 : Cond.selects "PreferenceCountModel" y_M_lay y_M_lay ∈ TB := tb_t 605 (by decide +kernel) (by decide +kernel)
theorem kw_606 : Cond.code y_M_lay prog_7_method_12_code 8 (some .int) ∈ TB := tb_t 606 (by decide +kernel) (by decide +kernel)
theorem kw_607 : Cond.constantLong "PreferenceCountModel" 96 (50 : Int64) ∈ TB := tb_t 607 (by decide +kernel) (by decide +kernel)
theorem kw_608 : Cond.methodLink "PreferenceCountModel" 98 y_M_rank ∈ TB := tb_t 608 (by decide +kernel) (by decide +kernel)
theorem kw_609 : Cond.static y_M_rank ∈ TB := tb_t 609 (by decide +kernel) (by decide +kernel)
theorem kw_610 : Cond.code y_M_rank prog_7_method_11_code 3 (some .int) ∈ TB := tb_t 610 (by decide +kernel) (by decide +kernel)
theorem kw_611 : Cond.constantLong "PreferenceCountModel" 94 (15 : Int64) ∈ TB := tb_t 611 (by decide +kernel) (by decide +kernel)
theorem kw_612 : Cond.methodLink "PreferenceCountLaw" 81 y_M_open ∈ TB := tb_t 612 (by decide +kernel) (by decide +kernel)
theorem kw_613 : Cond.instanceMethod y_M_open ∈ TB := tb_t 613 (by decide +kernel) (by decide +kernel)
theorem kw_614 : Cond.selects "PreferenceCountModel" y_M_open y_M_open ∈ TB := tb_t 614 (by decide +kernel) (by decide +kernel)
theorem kw_615 : Cond.code y_M_open prog_7_method_25_code 2 (some .int) ∈ TB := tb_t 615 (by decide +kernel) (by decide +kernel)
theorem kw_616 : Cond.methodLink "PreferenceCountModel" 132 y_M_beginStage ∈ TB := tb_t 616 (by decide +kernel) (by decide +kernel)
theorem kw_618 : Cond.instanceMethod y_M_beginStage ∈ TB := tb_t 618 (by decide +kernel) (by decide +kernel)
theorem kw_619 : Cond.code y_M_beginStage prog_7_method_18_code 2 (Option.none : Option Jvm.ClassFile.FieldType) ∈ TB := tb_t 619 (by decide +kernel) (by decide +kernel)
theorem kw_620 : Cond.methodLink "PreferenceCountModel" 135 y_M_goOn ∈ TB := tb_t 620 (by decide +kernel) (by decide +kernel)
theorem kw_622 : Cond.instanceMethod y_M_goOn ∈ TB := tb_t 622 (by decide +kernel) (by decide +kernel)
theorem kw_623 : Cond.code y_M_goOn prog_7_method_17_code 4 (Option.none : Option Jvm.ClassFile.FieldType) ∈ TB := tb_t 623 (by decide +kernel) (by decide +kernel)
theorem kw_624 : Cond.methodLink "PreferenceCountModel" 138 y_M_endStage ∈ TB := tb_t 624 (by decide +kernel) (by decide +kernel)
theorem kw_626 : Cond.instanceMethod y_M_endStage ∈ TB := tb_t 626 (by decide +kernel) (by decide +kernel)
theorem kw_627 : Cond.code y_M_endStage prog_7_method_24_code 2 (Option.none : Option Jvm.ClassFile.FieldType) ∈ TB := tb_t 627 (by decide +kernel) (by decide +kernel)
theorem kw_628 : Cond.methodLink "PreferenceCountModel" 118 y_M_lessen ∈ TB := tb_t 628 (by decide +kernel) (by decide +kernel)
theorem kw_630 : Cond.instanceMethod y_M_lessen ∈ TB := tb_t 630 (by decide +kernel) (by decide +kernel)
theorem kw_631 : Cond.code y_M_lessen prog_7_method_15_code 4 (Option.none : Option Jvm.ClassFile.FieldType) ∈ TB := tb_t 631 (by decide +kernel) (by decide +kernel)
theorem kw_632 : Cond.methodLink "PreferenceCountModel" 102 y_M_common ∈ TB := tb_t 632 (by decide +kernel) (by decide +kernel)
theorem kw_633 : Cond.static y_M_common ∈ TB := tb_t 633 (by decide +kernel) (by decide +kernel)
theorem kw_634 : Cond.code y_M_common prog_7_method_13_code 10 (some .long) ∈ TB := tb_t 634 (by decide +kernel) (by decide +kernel)
theorem kw_635 : Cond.methodLink "PreferenceCountModel" 121 y_M_sumOf ∈ TB := tb_t 635 (by decide +kernel) (by decide +kernel)
theorem kw_637 : Cond.instanceMethod y_M_sumOf ∈ TB := tb_t 637 (by decide +kernel) (by decide +kernel)
theorem kw_638 : Cond.code y_M_sumOf prog_7_method_16_code 5 (some .long) ∈ TB := tb_t 638 (by decide +kernel) (by decide +kernel)
theorem kw_639 : Cond.methodLink "PreferenceCountModel" 106 y_M_quota ∈ TB := tb_t 639 (by decide +kernel) (by decide +kernel)
theorem kw_641 : Cond.instanceMethod y_M_quota ∈ TB := tb_t 641 (by decide +kernel) (by decide +kernel)
theorem kw_642 : Cond.code y_M_quota prog_7_method_14_code 1 (some .long) ∈ TB := tb_t 642 (by decide +kernel) (by decide +kernel)
theorem kw_643 : Cond.methodLink "PreferenceCountModel" 125 y_M_first ∈ TB := tb_t 643 (by decide +kernel) (by decide +kernel)
theorem kw_645 : Cond.instanceMethod y_M_first ∈ TB := tb_t 645 (by decide +kernel) (by decide +kernel)
theorem kw_646 : Cond.code y_M_first prog_7_method_21_code 6 (some .int) ∈ TB := tb_t 646 (by decide +kernel) (by decide +kernel)
theorem kw_647 : Cond.methodLink "PreferenceCountModel" 110 y_M_at ∈ TB := tb_t 647 (by decide +kernel) (by decide +kernel)
theorem kw_649 : Cond.instanceMethod y_M_at ∈ TB := tb_t 649 (by decide +kernel) (by decide +kernel)
theorem kw_650 : Cond.code y_M_at prog_7_method_19_code 3 (some .long) ∈ TB := tb_t 650 (by decide +kernel) (by decide +kernel)
theorem kw_651 : Cond.methodLink "PreferenceCountModel" 114 y_M_isAhead ∈ TB := tb_t 651 (by decide +kernel) (by decide +kernel)
theorem kw_653 : Cond.instanceMethod y_M_isAhead ∈ TB := tb_t 653 (by decide +kernel) (by decide +kernel)
theorem kw_654 : Cond.code y_M_isAhead prog_7_method_20_code 4 (some .boolean) ∈ TB := tb_t 654 (by decide +kernel) (by decide +kernel)
theorem kw_655 : Cond.methodLink "PreferenceCountModel" 129 y_M_elect ∈ TB := tb_t 655 (by decide +kernel) (by decide +kernel)
theorem kw_657 : Cond.instanceMethod y_M_elect ∈ TB := tb_t 657 (by decide +kernel) (by decide +kernel)
theorem kw_658 : Cond.code y_M_elect prog_7_method_23_code 2 (Option.none : Option Jvm.ClassFile.FieldType) ∈ TB := tb_t 658 (by decide +kernel) (by decide +kernel)
theorem kw_659 : Cond.methodLink "PreferenceCountLaw" 84 y_M_step ∈ TB := tb_t 659 (by decide +kernel) (by decide +kernel)
theorem kw_660 : Cond.instanceMethod y_M_step ∈ TB := tb_t 660 (by decide +kernel) (by decide +kernel)
theorem kw_661 : Cond.selects "PreferenceCountModel" y_M_step y_M_step ∈ TB := tb_t 661 (by decide +kernel) (by decide +kernel)
theorem kw_662 : Cond.code y_M_step prog_7_method_26_code 4 (some .int) ∈ TB := tb_t 662 (by decide +kernel) (by decide +kernel)
theorem kw_663 : Cond.methodLink "PreferenceCountModel" 141 y_M_pass ∈ TB := tb_t 663 (by decide +kernel) (by decide +kernel)
theorem kw_665 : Cond.instanceMethod y_M_pass ∈ TB := tb_t 665 (by decide +kernel) (by decide +kernel)
theorem kw_666 : Cond.code y_M_pass prog_7_method_27_code 11 (Option.none : Option Jvm.ClassFile.FieldType) ∈ TB := tb_t 666 (by decide +kernel) (by decide +kernel)
theorem kw_667 : Cond.methodLink "PreferenceCountModel" 144 y_M_last ∈ TB := tb_t 667 (by decide +kernel) (by decide +kernel)
theorem kw_669 : Cond.instanceMethod y_M_last ∈ TB := tb_t 669 (by decide +kernel) (by decide +kernel)
theorem kw_670 : Cond.code y_M_last prog_7_method_22_code 3 (some .int) ∈ TB := tb_t 670 (by decide +kernel) (by decide +kernel)
theorem kw_671 : Cond.methodLink "PreferenceCountLaw" 89 y_M_over ∈ TB := tb_t 671 (by decide +kernel) (by decide +kernel)
theorem kw_672 : Cond.instanceMethod y_M_over ∈ TB := tb_t 672 (by decide +kernel) (by decide +kernel)
theorem kw_673 : Cond.selects "PreferenceCountModel" y_M_over y_M_over ∈ TB := tb_t 673 (by decide +kernel) (by decide +kernel)
theorem kw_674 : Cond.code y_M_over prog_7_method_28_code 1 (some .boolean) ∈ TB := tb_t 674 (by decide +kernel) (by decide +kernel)
theorem kw_675 : Cond.methodLink "PreferenceCountLaw" 93 y_M_state ∈ TB := tb_t 675 (by decide +kernel) (by decide +kernel)
theorem kw_676 : Cond.instanceMethod y_M_state ∈ TB := tb_t 676 (by decide +kernel) (by decide +kernel)
theorem kw_677 : Cond.selects "PreferenceCountModel" y_M_state y_M_state ∈ TB := tb_t 677 (by decide +kernel) (by decide +kernel)
theorem kw_678 : Cond.code y_M_state prog_7_method_29_code 2 (some .int) ∈ TB := tb_t 678 (by decide +kernel) (by decide +kernel)
theorem kw_679 : Cond.methodLink "PreferenceCountLaw" 97 y_M_status ∈ TB := tb_t 679 (by decide +kernel) (by decide +kernel)
theorem kw_680 : Cond.instanceMethod y_M_status ∈ TB := tb_t 680 (by decide +kernel) (by decide +kernel)
theorem kw_681 : Cond.selects "PreferenceCountModel" y_M_status y_M_status ∈ TB := tb_t 681 (by decide +kernel) (by decide +kernel)
theorem kw_682 : Cond.code y_M_status prog_7_method_30_code 2 (some .int) ∈ TB := tb_t 682 (by decide +kernel) (by decide +kernel)
theorem kw_683 : Cond.methodLink "PreferenceCountLaw" 101 y_M_total ∈ TB := tb_t 683 (by decide +kernel) (by decide +kernel)
theorem kw_684 : Cond.instanceMethod y_M_total ∈ TB := tb_t 684 (by decide +kernel) (by decide +kernel)
theorem kw_685 : Cond.selects "PreferenceCountModel" y_M_total y_M_total ∈ TB := tb_t 685 (by decide +kernel) (by decide +kernel)
theorem kw_686 : Cond.code y_M_total prog_7_method_32_code 8 (some .long) ∈ TB := tb_t 686 (by decide +kernel) (by decide +kernel)
theorem kw_687 : Cond.methodLink "PreferenceCountModel" 147 y_M_columnOf ∈ TB := tb_t 687 (by decide +kernel) (by decide +kernel)
theorem kw_689 : Cond.instanceMethod y_M_columnOf ∈ TB := tb_t 689 (by decide +kernel) (by decide +kernel)
theorem kw_690 : Cond.code y_M_columnOf prog_7_method_31_code 2 (some .int) ∈ TB := tb_t 690 (by decide +kernel) (by decide +kernel)
theorem kw_691 : Cond.methodLink "PreferenceCountLaw" 104 y_M_papers ∈ TB := tb_t 691 (by decide +kernel) (by decide +kernel)
theorem kw_692 : Cond.instanceMethod y_M_papers ∈ TB := tb_t 692 (by decide +kernel) (by decide +kernel)
theorem kw_693 : Cond.selects "PreferenceCountModel" y_M_papers y_M_papers ∈ TB := tb_t 693 (by decide +kernel) (by decide +kernel)
theorem kw_694 : Cond.code y_M_papers prog_7_method_33_code 4 (some .int) ∈ TB := tb_t 694 (by decide +kernel) (by decide +kernel)
theorem kw_695 : Cond.methodLink "PreferenceCountLaw" 108 y_M_moved ∈ TB := tb_t 695 (by decide +kernel) (by decide +kernel)
theorem kw_696 : Cond.instanceMethod y_M_moved ∈ TB := tb_t 696 (by decide +kernel) (by decide +kernel)
theorem kw_697 : Cond.selects "PreferenceCountModel" y_M_moved y_M_moved ∈ TB := tb_t 697 (by decide +kernel) (by decide +kernel)
theorem kw_698 : Cond.code y_M_moved prog_7_method_34_code 3 (some .int) ∈ TB := tb_t 698 (by decide +kernel) (by decide +kernel)
theorem kw_699 : Cond.constantLong "PreferenceCountLaw" 72 (4294967295 : Int64) ∈ TB := tb_t 699 (by decide +kernel) (by decide +kernel)
theorem kp_0 : Cond.selects "PreferenceCount" y_C_startAnew y_C_startAnew ∈ TB := tb_p 0 (by decide +kernel) (by decide +kernel)
theorem kp_2 : Cond.selects "PreferenceCount" y_C_refuseOnceBegun y_C_refuseOnceBegun ∈ TB := tb_p 2 (by decide +kernel) (by decide +kernel)
theorem kp_3 : Cond.selects "PreferenceCount" y_C_hasBegun y_C_hasBegun ∈ TB := tb_p 3 (by decide +kernel) (by decide +kernel)
theorem kp_4 : Cond.selects "PreferenceCount" y_C_isRanking y_C_isRanking ∈ TB := tb_p 4 (by decide +kernel) (by decide +kernel)
theorem kp_5 : Cond.selects "PreferenceCount" y_C_setQuota y_C_setQuota ∈ TB := tb_p 5 (by decide +kernel) (by decide +kernel)
theorem kp_6 : Cond.selects "PreferenceCount" y_C_passOn y_C_passOn ∈ TB := tb_p 6 (by decide +kernel) (by decide +kernel)
theorem kp_7 : Cond.selects "PreferenceCount" y_C_firstContinuing y_C_firstContinuing ∈ TB := tb_p 7 (by decide +kernel) (by decide +kernel)
theorem kp_8 : Cond.selects "PreferenceCount" y_C_hand y_C_hand ∈ TB := tb_p 8 (by decide +kernel) (by decide +kernel)
theorem kp_9 : Cond.selects "PreferenceCount" y_C_settle y_C_settle ∈ TB := tb_p 9 (by decide +kernel) (by decide +kernel)
theorem kp_10 : Cond.selects "PreferenceCount" y_C_electInOrder y_C_electInOrder ∈ TB := tb_p 10 (by decide +kernel) (by decide +kernel)
theorem kp_11 : Cond.selects "PreferenceCount" y_C_foremost y_C_foremost ∈ TB := tb_p 11 (by decide +kernel) (by decide +kernel)
theorem kp_12 : Cond.selects "PreferenceCount" y_C_isAhead y_C_isAhead ∈ TB := tb_p 12 (by decide +kernel) (by decide +kernel)
theorem kp_13 : Cond.selects "PreferenceCount" y_C_isAboveQuota y_C_isAboveQuota ∈ TB := tb_p 13 (by decide +kernel) (by decide +kernel)
theorem kp_14 : Cond.selects "PreferenceCount" y_C_hindmost y_C_hindmost ∈ TB := tb_p 14 (by decide +kernel) (by decide +kernel)
theorem kp_15 : Cond.selects "PreferenceCount" y_C_passSurplus y_C_passSurplus ∈ TB := tb_p 15 (by decide +kernel) (by decide +kernel)
theorem kp_16 : Cond.selects "PreferenceCount" y_C_excludeAndPass y_C_excludeAndPass ∈ TB := tb_p 16 (by decide +kernel) (by decide +kernel)
theorem kp_17 : Cond.selects "PreferenceCount" y_C_refuseUnknown y_C_refuseUnknown ∈ TB := tb_p 17 (by decide +kernel) (by decide +kernel)
theorem kp_18 : Cond.selects "PreferenceCountModel" y_M_clear y_M_clear ∈ TB := tb_p 18 (by decide +kernel) (by decide +kernel)
theorem kp_19 : Cond.selects "PreferenceCountModel" y_M_says y_M_says ∈ TB := tb_p 19 (by decide +kernel) (by decide +kernel)
theorem kp_20 : Cond.selects "PreferenceCountModel" y_M_isCandidate y_M_isCandidate ∈ TB := tb_p 20 (by decide +kernel) (by decide +kernel)
theorem kp_21 : Cond.selects "PreferenceCountModel" y_M_continuing y_M_continuing ∈ TB := tb_p 21 (by decide +kernel) (by decide +kernel)
theorem kp_22 : Cond.selects "PreferenceCountModel" y_M_exclude y_M_exclude ∈ TB := tb_p 22 (by decide +kernel) (by decide +kernel)
theorem kp_23 : Cond.selects "PreferenceCountModel" y_M_beginStage y_M_beginStage ∈ TB := tb_p 23 (by decide +kernel) (by decide +kernel)
theorem kp_24 : Cond.selects "PreferenceCountModel" y_M_goOn y_M_goOn ∈ TB := tb_p 24 (by decide +kernel) (by decide +kernel)
theorem kp_25 : Cond.selects "PreferenceCountModel" y_M_endStage y_M_endStage ∈ TB := tb_p 25 (by decide +kernel) (by decide +kernel)
theorem kp_26 : Cond.selects "PreferenceCountModel" y_M_lessen y_M_lessen ∈ TB := tb_p 26 (by decide +kernel) (by decide +kernel)
theorem kp_27 : Cond.selects "PreferenceCountModel" y_M_sumOf y_M_sumOf ∈ TB := tb_p 27 (by decide +kernel) (by decide +kernel)
theorem kp_28 : Cond.selects "PreferenceCountModel" y_M_quota y_M_quota ∈ TB := tb_p 28 (by decide +kernel) (by decide +kernel)
theorem kp_29 : Cond.selects "PreferenceCountModel" y_M_first y_M_first ∈ TB := tb_p 29 (by decide +kernel) (by decide +kernel)
theorem kp_30 : Cond.selects "PreferenceCountModel" y_M_at y_M_at ∈ TB := tb_p 30 (by decide +kernel) (by decide +kernel)
theorem kp_31 : Cond.selects "PreferenceCountModel" y_M_isAhead y_M_isAhead ∈ TB := tb_p 31 (by decide +kernel) (by decide +kernel)
theorem kp_32 : Cond.selects "PreferenceCountModel" y_M_elect y_M_elect ∈ TB := tb_p 32 (by decide +kernel) (by decide +kernel)
theorem kp_33 : Cond.selects "PreferenceCountModel" y_M_pass y_M_pass ∈ TB := tb_p 33 (by decide +kernel) (by decide +kernel)
theorem kp_34 : Cond.selects "PreferenceCountModel" y_M_last y_M_last ∈ TB := tb_p 34 (by decide +kernel) (by decide +kernel)
theorem kp_35 : Cond.selects "PreferenceCountModel" y_M_columnOf y_M_columnOf ∈ TB := tb_p 35 (by decide +kernel) (by decide +kernel)
theorem ku_F : ∀ w ∈ u_ws "PreferenceCount$Fractions" T_F 2, w ∈ TB := by
  intro w hw
  obtain ⟨k, hk, rfl⟩ := List.mem_map.mp hw
  rw [List.mem_range] at hk
  match k, hk with
  | 0, _ => exact kw_71
  | 1, _ => exact kw_73
  | k + 2, h => exact absurd h (by omega)
theorem ku_P : ∀ w ∈ u_ws "PreferenceCount$Pile" T_P 6, w ∈ TB := by
  intro w hw
  obtain ⟨k, hk, rfl⟩ := List.mem_map.mp hw
  rw [List.mem_range] at hk
  match k, hk with
  | 0, _ => exact kw_89
  | 1, _ => exact kw_91
  | 2, _ => exact kw_93
  | 3, _ => exact kw_95
  | 4, _ => exact kw_97
  | 5, _ => exact kw_99
  | k + 6, h => exact absurd h (by omega)
theorem ku_R : ∀ w ∈ u_ws "PreferenceCount$Roll" T_R 5, w ∈ TB := by
  intro w hw
  obtain ⟨k, hk, rfl⟩ := List.mem_map.mp hw
  rw [List.mem_range] at hk
  match k, hk with
  | 0, _ => exact kw_40
  | 1, _ => exact kw_42
  | 2, _ => exact kw_44
  | 3, _ => exact kw_46
  | 4, _ => exact kw_48
  | k + 5, h => exact absurd h (by omega)
theorem ku_S : ∀ w ∈ u_ws "PreferenceCount$Stage" T_S 2, w ∈ TB := by
  intro w hw
  obtain ⟨k, hk, rfl⟩ := List.mem_map.mp hw
  rw [List.mem_range] at hk
  match k, hk with
  | 0, _ => exact kw_115
  | 1, _ => exact kw_117
  | k + 2, h => exact absurd h (by omega)
theorem ku_C : ∀ w ∈ u_ws "PreferenceCount" T_C 8, w ∈ TB := by
  intro w hw
  obtain ⟨k, hk, rfl⟩ := List.mem_map.mp hw
  rw [List.mem_range] at hk
  match k, hk with
  | 0, _ => exact kw_140
  | 1, _ => exact kw_142
  | 2, _ => exact kw_144
  | 3, _ => exact kw_146
  | 4, _ => exact kw_148
  | 5, _ => exact kw_150
  | 6, _ => exact kw_152
  | 7, _ => exact kw_154
  | k + 8, h => exact absurd h (by omega)
theorem ku_M : ∀ w ∈ u_ws "PreferenceCountModel" T_M 20, w ∈ TB := by
  intro w hw
  obtain ⟨k, hk, rfl⟩ := List.mem_map.mp hw
  rw [List.mem_range] at hk
  match k, hk with
  | 0, _ => exact kw_529
  | 1, _ => exact kw_531
  | 2, _ => exact kw_533
  | 3, _ => exact kw_535
  | 4, _ => exact kw_537
  | 5, _ => exact kw_539
  | 6, _ => exact kw_541
  | 7, _ => exact kw_543
  | 8, _ => exact kw_545
  | 9, _ => exact kw_547
  | 10, _ => exact kw_549
  | 11, _ => exact kw_551
  | 12, _ => exact kw_553
  | 13, _ => exact kw_555
  | 14, _ => exact kw_557
  | 15, _ => exact kw_559
  | 16, _ => exact kw_561
  | 17, _ => exact kw_563
  | 18, _ => exact kw_565
  | 19, _ => exact kw_567
  | k + 20, h => exact absurd h (by omega)
end
section
theorem d_C_init_0 : decode c_C_init 0 = .ok (.aload_n 0, 1) := by decide +kernel
theorem d_C_init_1 : decode c_C_init 1 = .ok (.invokespecial 3, 3) := by decide +kernel
theorem d_C_init_4 : decode c_C_init 4 = .ok (.aload_n 0, 1) := by decide +kernel
theorem d_C_init_5 : decode c_C_init 5 = .ok (.new 9, 3) := by decide +kernel
theorem d_C_init_8 : decode c_C_init 8 = .ok (.dup, 1) := by decide +kernel
theorem d_C_init_9 : decode c_C_init 9 = .ok (.invokespecial 11, 3) := by decide +kernel
theorem d_C_init_12 : decode c_C_init 12 = .ok (.putfield 12, 3) := by decide +kernel
theorem d_C_init_15 : decode c_C_init 15 = .ok (.aload_n 0, 1) := by decide +kernel
theorem d_C_init_16 : decode c_C_init 16 = .ok (.new 16, 3) := by decide +kernel
theorem d_C_init_19 : decode c_C_init 19 = .ok (.dup, 1) := by decide +kernel
theorem d_C_init_20 : decode c_C_init 20 = .ok (.invokespecial 18, 3) := by decide +kernel
theorem d_C_init_23 : decode c_C_init 23 = .ok (.putfield 19, 3) := by decide +kernel
theorem d_C_init_26 : decode c_C_init 26 = .ok (.aload_n 0, 1) := by decide +kernel
theorem d_C_init_27 : decode c_C_init 27 = .ok (.bipush 13, 2) := by decide +kernel
theorem d_C_init_29 : decode c_C_init 29 = .ok (.anewarray 23, 3) := by decide +kernel
theorem d_C_init_32 : decode c_C_init 32 = .ok (.putfield 25, 3) := by decide +kernel
theorem d_C_init_35 : decode c_C_init 35 = .ok (.iconst 0, 1) := by decide +kernel
theorem d_C_init_36 : decode c_C_init 36 = .ok (.istore_n 1, 1) := by decide +kernel
theorem d_C_init_37 : decode c_C_init 37 = .ok (.iload_n 1, 1) := by decide +kernel
theorem d_C_init_38 : decode c_C_init 38 = .ok (.bipush 13, 2) := by decide +kernel
theorem d_C_init_40 : decode c_C_init 40 = .ok (.if_icmp .ge 22, 3) := by decide +kernel
theorem d_C_init_43 : decode c_C_init 43 = .ok (.aload_n 0, 1) := by decide +kernel
theorem d_C_init_44 : decode c_C_init 44 = .ok (.getfield 25, 3) := by decide +kernel
theorem d_C_init_47 : decode c_C_init 47 = .ok (.iload_n 1, 1) := by decide +kernel
theorem d_C_init_48 : decode c_C_init 48 = .ok (.new 23, 3) := by decide +kernel
theorem d_C_init_51 : decode c_C_init 51 = .ok (.dup, 1) := by decide +kernel
theorem d_C_init_52 : decode c_C_init 52 = .ok (.invokespecial 29, 3) := by decide +kernel
theorem d_C_init_55 : decode c_C_init 55 = .ok (.aastore, 1) := by decide +kernel
theorem d_C_init_56 : decode c_C_init 56 = .ok (.iinc 1 1, 3) := by decide +kernel
theorem d_C_init_59 : decode c_C_init 59 = .ok (.goto (-22), 3) := by decide +kernel
theorem d_C_init_62 : decode c_C_init 62 = .ok (.aload_n 0, 1) := by decide +kernel
theorem d_C_init_63 : decode c_C_init 63 = .ok (.iconst 2, 1) := by decide +kernel
theorem d_C_init_64 : decode c_C_init 64 = .ok (.iconst 1, 1) := by decide +kernel
theorem d_C_init_65 : decode c_C_init 65 = .ok (.invokevirtual 30, 3) := by decide +kernel
theorem d_C_init_68 : decode c_C_init 68 = .ok (.return_, 1) := by decide +kernel
theorem d_C_begin_0 : decode c_C_begin 0 = .ok (.iload_n 1, 1) := by decide +kernel
theorem d_C_begin_1 : decode c_C_begin 1 = .ok (.iconst 2, 1) := by decide +kernel
theorem d_C_begin_2 : decode c_C_begin 2 = .ok (.if_icmp .lt 13, 3) := by decide +kernel
theorem d_C_begin_5 : decode c_C_begin 5 = .ok (.iload_n 1, 1) := by decide +kernel
theorem d_C_begin_6 : decode c_C_begin 6 = .ok (.bipush 12, 2) := by decide +kernel
theorem d_C_begin_8 : decode c_C_begin 8 = .ok (.if_icmp .gt 7, 3) := by decide +kernel
theorem d_C_begin_11 : decode c_C_begin 11 = .ok (.iconst 1, 1) := by decide +kernel
theorem d_C_begin_12 : decode c_C_begin 12 = .ok (.goto 4, 3) := by decide +kernel
theorem d_C_begin_15 : decode c_C_begin 15 = .ok (.iconst 0, 1) := by decide +kernel
theorem d_C_begin_16 : decode c_C_begin 16 = .ok (.istore_n 3, 1) := by decide +kernel
theorem d_C_begin_17 : decode c_C_begin 17 = .ok (.iload_n 2, 1) := by decide +kernel
theorem d_C_begin_18 : decode c_C_begin 18 = .ok (.iconst 1, 1) := by decide +kernel
theorem d_C_begin_19 : decode c_C_begin 19 = .ok (.if_icmp .lt 17, 3) := by decide +kernel
theorem d_C_begin_22 : decode c_C_begin 22 = .ok (.iload_n 2, 1) := by decide +kernel
theorem d_C_begin_23 : decode c_C_begin 23 = .ok (.iconst 4, 1) := by decide +kernel
theorem d_C_begin_24 : decode c_C_begin 24 = .ok (.if_icmp .gt 12, 3) := by decide +kernel
theorem d_C_begin_27 : decode c_C_begin 27 = .ok (.iload_n 2, 1) := by decide +kernel
theorem d_C_begin_28 : decode c_C_begin 28 = .ok (.iload_n 1, 1) := by decide +kernel
theorem d_C_begin_29 : decode c_C_begin 29 = .ok (.if_icmp .ge 7, 3) := by decide +kernel
theorem d_C_begin_32 : decode c_C_begin 32 = .ok (.iconst 1, 1) := by decide +kernel
theorem d_C_begin_33 : decode c_C_begin 33 = .ok (.goto 4, 3) := by decide +kernel
theorem d_C_begin_36 : decode c_C_begin 36 = .ok (.iconst 0, 1) := by decide +kernel
theorem d_C_begin_37 : decode c_C_begin 37 = .ok (.istore 4, 2) := by decide +kernel
theorem d_C_begin_39 : decode c_C_begin 39 = .ok (.iload_n 3, 1) := by decide +kernel
theorem d_C_begin_40 : decode c_C_begin 40 = .ok (.ifCond .eq 8, 3) := by decide +kernel
theorem d_C_begin_43 : decode c_C_begin 43 = .ok (.iload 4, 2) := by decide +kernel
theorem d_C_begin_45 : decode c_C_begin 45 = .ok (.ifCond .ne 13, 3) := by decide +kernel
theorem d_C_begin_48 : decode c_C_begin 48 = .ok (.new 34, 3) := by decide +kernel
theorem d_C_begin_51 : decode c_C_begin 51 = .ok (.dup, 1) := by decide +kernel
theorem d_C_begin_52 : decode c_C_begin 52 = .ok (.ldc 36, 2) := by decide +kernel
theorem d_C_begin_54 : decode c_C_begin 54 = .ok (.invokespecial 38, 3) := by decide +kernel
theorem d_C_begin_57 : decode c_C_begin 57 = .ok (.athrow, 1) := by decide +kernel
theorem d_C_begin_58 : decode c_C_begin 58 = .ok (.aload_n 0, 1) := by decide +kernel
theorem d_C_begin_59 : decode c_C_begin 59 = .ok (.iload_n 1, 1) := by decide +kernel
theorem d_C_begin_60 : decode c_C_begin 60 = .ok (.iload_n 2, 1) := by decide +kernel
theorem d_C_begin_61 : decode c_C_begin 61 = .ok (.invokevirtual 30, 3) := by decide +kernel
theorem d_C_begin_64 : decode c_C_begin 64 = .ok (.return_, 1) := by decide +kernel
theorem d_C_draw_0 : decode c_C_draw 0 = .ok (.aload_n 0, 1) := by decide +kernel
theorem d_C_draw_1 : decode c_C_draw 1 = .ok (.invokevirtual 41, 3) := by decide +kernel
theorem d_C_draw_4 : decode c_C_draw 4 = .ok (.iload_n 2, 1) := by decide +kernel
theorem d_C_draw_5 : decode c_C_draw 5 = .ok (.ifCond .lt 14, 3) := by decide +kernel
theorem d_C_draw_8 : decode c_C_draw 8 = .ok (.iload_n 2, 1) := by decide +kernel
theorem d_C_draw_9 : decode c_C_draw 9 = .ok (.sipush 999, 3) := by decide +kernel
theorem d_C_draw_12 : decode c_C_draw 12 = .ok (.if_icmp .gt 7, 3) := by decide +kernel
theorem d_C_draw_15 : decode c_C_draw 15 = .ok (.iconst 1, 1) := by decide +kernel
theorem d_C_draw_16 : decode c_C_draw 16 = .ok (.goto 4, 3) := by decide +kernel
theorem d_C_draw_19 : decode c_C_draw 19 = .ok (.iconst 0, 1) := by decide +kernel
theorem d_C_draw_20 : decode c_C_draw 20 = .ok (.istore_n 3, 1) := by decide +kernel
theorem d_C_draw_21 : decode c_C_draw 21 = .ok (.aload_n 0, 1) := by decide +kernel
theorem d_C_draw_22 : decode c_C_draw 22 = .ok (.getfield 12, 3) := by decide +kernel
theorem d_C_draw_25 : decode c_C_draw 25 = .ok (.iload_n 1, 1) := by decide +kernel
theorem d_C_draw_26 : decode c_C_draw 26 = .ok (.invokevirtual 44, 3) := by decide +kernel
theorem d_C_draw_29 : decode c_C_draw 29 = .ok (.ifCond .eq 19, 3) := by decide +kernel
theorem d_C_draw_32 : decode c_C_draw 32 = .ok (.iload_n 3, 1) := by decide +kernel
theorem d_C_draw_33 : decode c_C_draw 33 = .ok (.ifCond .eq 15, 3) := by decide +kernel
theorem d_C_draw_36 : decode c_C_draw 36 = .ok (.aload_n 0, 1) := by decide +kernel
theorem d_C_draw_37 : decode c_C_draw 37 = .ok (.getfield 12, 3) := by decide +kernel
theorem d_C_draw_40 : decode c_C_draw 40 = .ok (.iload_n 1, 1) := by decide +kernel
theorem d_C_draw_41 : decode c_C_draw 41 = .ok (.iload_n 2, 1) := by decide +kernel
theorem d_C_draw_42 : decode c_C_draw 42 = .ok (.invokevirtual 48, 3) := by decide +kernel
theorem d_C_draw_45 : decode c_C_draw 45 = .ok (.ifCond .eq 13, 3) := by decide +kernel
theorem d_C_draw_48 : decode c_C_draw 48 = .ok (.new 34, 3) := by decide +kernel
theorem d_C_draw_51 : decode c_C_draw 51 = .ok (.dup, 1) := by decide +kernel
theorem d_C_draw_52 : decode c_C_draw 52 = .ok (.ldc 52, 2) := by decide +kernel
theorem d_C_draw_54 : decode c_C_draw 54 = .ok (.invokespecial 38, 3) := by decide +kernel
theorem d_C_draw_57 : decode c_C_draw 57 = .ok (.athrow, 1) := by decide +kernel
theorem d_C_draw_58 : decode c_C_draw 58 = .ok (.aload_n 0, 1) := by decide +kernel
theorem d_C_draw_59 : decode c_C_draw 59 = .ok (.getfield 12, 3) := by decide +kernel
theorem d_C_draw_62 : decode c_C_draw 62 = .ok (.getfield 54, 3) := by decide +kernel
theorem d_C_draw_65 : decode c_C_draw 65 = .ok (.iload_n 1, 1) := by decide +kernel
theorem d_C_draw_66 : decode c_C_draw 66 = .ok (.iload_n 2, 1) := by decide +kernel
theorem d_C_draw_67 : decode c_C_draw 67 = .ok (.iastore, 1) := by decide +kernel
theorem d_C_draw_68 : decode c_C_draw 68 = .ok (.return_, 1) := by decide +kernel
theorem d_C_withdraw_0 : decode c_C_withdraw 0 = .ok (.aload_n 0, 1) := by decide +kernel
theorem d_C_withdraw_1 : decode c_C_withdraw 1 = .ok (.invokevirtual 41, 3) := by decide +kernel
theorem d_C_withdraw_4 : decode c_C_withdraw 4 = .ok (.aload_n 0, 1) := by decide +kernel
theorem d_C_withdraw_5 : decode c_C_withdraw 5 = .ok (.getfield 12, 3) := by decide +kernel
theorem d_C_withdraw_8 : decode c_C_withdraw 8 = .ok (.iload_n 1, 1) := by decide +kernel
theorem d_C_withdraw_9 : decode c_C_withdraw 9 = .ok (.invokevirtual 44, 3) := by decide +kernel
theorem d_C_withdraw_12 : decode c_C_withdraw 12 = .ok (.ifCond .eq 30, 3) := by decide +kernel
theorem d_C_withdraw_15 : decode c_C_withdraw 15 = .ok (.aload_n 0, 1) := by decide +kernel
theorem d_C_withdraw_16 : decode c_C_withdraw 16 = .ok (.getfield 12, 3) := by decide +kernel
theorem d_C_withdraw_19 : decode c_C_withdraw 19 = .ok (.iload_n 1, 1) := by decide +kernel
theorem d_C_withdraw_20 : decode c_C_withdraw 20 = .ok (.invokevirtual 58, 3) := by decide +kernel
theorem d_C_withdraw_23 : decode c_C_withdraw 23 = .ok (.ifCond .eq 19, 3) := by decide +kernel
theorem d_C_withdraw_26 : decode c_C_withdraw 26 = .ok (.aload_n 0, 1) := by decide +kernel
theorem d_C_withdraw_27 : decode c_C_withdraw 27 = .ok (.getfield 12, 3) := by decide +kernel
theorem d_C_withdraw_30 : decode c_C_withdraw 30 = .ok (.invokevirtual 61, 3) := by decide +kernel
theorem d_C_withdraw_33 : decode c_C_withdraw 33 = .ok (.aload_n 0, 1) := by decide +kernel
theorem d_C_withdraw_34 : decode c_C_withdraw 34 = .ok (.getfield 65, 3) := by decide +kernel
theorem d_C_withdraw_37 : decode c_C_withdraw 37 = .ok (.iconst 1, 1) := by decide +kernel
theorem d_C_withdraw_38 : decode c_C_withdraw 38 = .ok (.iadd, 1) := by decide +kernel
theorem d_C_withdraw_39 : decode c_C_withdraw 39 = .ok (.if_icmp .gt 13, 3) := by decide +kernel
theorem d_C_withdraw_42 : decode c_C_withdraw 42 = .ok (.new 34, 3) := by decide +kernel
theorem d_C_withdraw_45 : decode c_C_withdraw 45 = .ok (.dup, 1) := by decide +kernel
theorem d_C_withdraw_46 : decode c_C_withdraw 46 = .ok (.ldc 69, 2) := by decide +kernel
theorem d_C_withdraw_48 : decode c_C_withdraw 48 = .ok (.invokespecial 38, 3) := by decide +kernel
theorem d_C_withdraw_51 : decode c_C_withdraw 51 = .ok (.athrow, 1) := by decide +kernel
theorem d_C_withdraw_52 : decode c_C_withdraw 52 = .ok (.aload_n 0, 1) := by decide +kernel
theorem d_C_withdraw_53 : decode c_C_withdraw 53 = .ok (.getfield 12, 3) := by decide +kernel
theorem d_C_withdraw_56 : decode c_C_withdraw 56 = .ok (.iload_n 1, 1) := by decide +kernel
theorem d_C_withdraw_57 : decode c_C_withdraw 57 = .ok (.invokevirtual 71, 3) := by decide +kernel
theorem d_C_withdraw_60 : decode c_C_withdraw 60 = .ok (.return_, 1) := by decide +kernel
theorem d_C_lay_0 : decode c_C_lay 0 = .ok (.aload_n 0, 1) := by decide +kernel
theorem d_C_lay_1 : decode c_C_lay 1 = .ok (.invokevirtual 41, 3) := by decide +kernel
theorem d_C_lay_4 : decode c_C_lay 4 = .ok (.iload_n 3, 1) := by decide +kernel
theorem d_C_lay_5 : decode c_C_lay 5 = .ok (.iconst 1, 1) := by decide +kernel
theorem d_C_lay_6 : decode c_C_lay 6 = .ok (.if_icmp .lt 21, 3) := by decide +kernel
theorem d_C_lay_9 : decode c_C_lay 9 = .ok (.iload_n 3, 1) := by decide +kernel
theorem d_C_lay_10 : decode c_C_lay 10 = .ok (.bipush 50, 2) := by decide +kernel
theorem d_C_lay_12 : decode c_C_lay 12 = .ok (.aload_n 0, 1) := by decide +kernel
theorem d_C_lay_13 : decode c_C_lay 13 = .ok (.getfield 19, 3) := by decide +kernel
theorem d_C_lay_16 : decode c_C_lay 16 = .ok (.getfield 75, 3) := by decide +kernel
theorem d_C_lay_19 : decode c_C_lay 19 = .ok (.isub, 1) := by decide +kernel
theorem d_C_lay_20 : decode c_C_lay 20 = .ok (.if_icmp .gt 7, 3) := by decide +kernel
theorem d_C_lay_23 : decode c_C_lay 23 = .ok (.iconst 1, 1) := by decide +kernel
theorem d_C_lay_24 : decode c_C_lay 24 = .ok (.goto 4, 3) := by decide +kernel
theorem d_C_lay_27 : decode c_C_lay 27 = .ok (.iconst 0, 1) := by decide +kernel
theorem d_C_lay_28 : decode c_C_lay 28 = .ok (.istore 4, 2) := by decide +kernel
theorem d_C_lay_30 : decode c_C_lay 30 = .ok (.iload 4, 2) := by decide +kernel
theorem d_C_lay_32 : decode c_C_lay 32 = .ok (.ifCond .eq 11, 3) := by decide +kernel
theorem d_C_lay_35 : decode c_C_lay 35 = .ok (.aload_n 0, 1) := by decide +kernel
theorem d_C_lay_36 : decode c_C_lay 36 = .ok (.lload_n 1, 1) := by decide +kernel
theorem d_C_lay_37 : decode c_C_lay 37 = .ok (.invokevirtual 78, 3) := by decide +kernel
theorem d_C_lay_40 : decode c_C_lay 40 = .ok (.ifCond .ne 13, 3) := by decide +kernel
theorem d_C_lay_43 : decode c_C_lay 43 = .ok (.new 34, 3) := by decide +kernel
theorem d_C_lay_46 : decode c_C_lay 46 = .ok (.dup, 1) := by decide +kernel
theorem d_C_lay_47 : decode c_C_lay 47 = .ok (.ldc 82, 2) := by decide +kernel
theorem d_C_lay_49 : decode c_C_lay 49 = .ok (.invokespecial 38, 3) := by decide +kernel
theorem d_C_lay_52 : decode c_C_lay 52 = .ok (.athrow, 1) := by decide +kernel
theorem d_C_lay_53 : decode c_C_lay 53 = .ok (.aload_n 0, 1) := by decide +kernel
theorem d_C_lay_54 : decode c_C_lay 54 = .ok (.getfield 19, 3) := by decide +kernel
theorem d_C_lay_57 : decode c_C_lay 57 = .ok (.lload_n 1, 1) := by decide +kernel
theorem d_C_lay_58 : decode c_C_lay 58 = .ok (.iload_n 3, 1) := by decide +kernel
theorem d_C_lay_59 : decode c_C_lay 59 = .ok (.invokevirtual 84, 3) := by decide +kernel
theorem d_C_lay_62 : decode c_C_lay 62 = .ok (.aload_n 0, 1) := by decide +kernel
theorem d_C_lay_63 : decode c_C_lay 63 = .ok (.getfield 19, 3) := by decide +kernel
theorem d_C_lay_66 : decode c_C_lay 66 = .ok (.getfield 75, 3) := by decide +kernel
theorem d_C_lay_69 : decode c_C_lay 69 = .ok (.ireturn, 1) := by decide +kernel
theorem d_C_open_0 : decode c_C_open 0 = .ok (.aload_n 0, 1) := by decide +kernel
theorem d_C_open_1 : decode c_C_open 1 = .ok (.invokevirtual 41, 3) := by decide +kernel
theorem d_C_open_4 : decode c_C_open 4 = .ok (.aload_n 0, 1) := by decide +kernel
theorem d_C_open_5 : decode c_C_open 5 = .ok (.getfield 19, 3) := by decide +kernel
theorem d_C_open_8 : decode c_C_open 8 = .ok (.getfield 75, 3) := by decide +kernel
theorem d_C_open_11 : decode c_C_open 11 = .ok (.ifCond .ne 13, 3) := by decide +kernel
theorem d_C_open_14 : decode c_C_open 14 = .ok (.new 88, 3) := by decide +kernel
theorem d_C_open_17 : decode c_C_open 17 = .ok (.dup, 1) := by decide +kernel
theorem d_C_open_18 : decode c_C_open 18 = .ok (.ldc 90, 2) := by decide +kernel
theorem d_C_open_20 : decode c_C_open 20 = .ok (.invokespecial 92, 3) := by decide +kernel
theorem d_C_open_23 : decode c_C_open 23 = .ok (.athrow, 1) := by decide +kernel
theorem d_C_open_24 : decode c_C_open 24 = .ok (.aload_n 0, 1) := by decide +kernel
theorem d_C_open_25 : decode c_C_open 25 = .ok (.invokevirtual 93, 3) := by decide +kernel
theorem d_C_open_28 : decode c_C_open 28 = .ok (.aload_n 0, 1) := by decide +kernel
theorem d_C_open_29 : decode c_C_open 29 = .ok (.iconst 0, 1) := by decide +kernel
theorem d_C_open_30 : decode c_C_open 30 = .ok (.putfield 96, 3) := by decide +kernel
theorem d_C_open_33 : decode c_C_open 33 = .ok (.aload_n 0, 1) := by decide +kernel
theorem d_C_open_34 : decode c_C_open 34 = .ok (.getfield 25, 3) := by decide +kernel
theorem d_C_open_37 : decode c_C_open 37 = .ok (.iconst 0, 1) := by decide +kernel
theorem d_C_open_38 : decode c_C_open 38 = .ok (.aaload, 1) := by decide +kernel
theorem d_C_open_39 : decode c_C_open 39 = .ok (.invokevirtual 99, 3) := by decide +kernel
theorem d_C_open_42 : decode c_C_open 42 = .ok (.aload_n 0, 1) := by decide +kernel
theorem d_C_open_43 : decode c_C_open 43 = .ok (.iconst (-1), 1) := by decide +kernel
theorem d_C_open_44 : decode c_C_open 44 = .ok (.lconst 1, 1) := by decide +kernel
theorem d_C_open_45 : decode c_C_open 45 = .ok (.lconst 1, 1) := by decide +kernel
theorem d_C_open_46 : decode c_C_open 46 = .ok (.invokevirtual 102, 3) := by decide +kernel
theorem d_C_open_49 : decode c_C_open 49 = .ok (.aload_n 0, 1) := by decide +kernel
theorem d_C_open_50 : decode c_C_open 50 = .ok (.invokevirtual 106, 3) := by decide +kernel
theorem d_C_open_53 : decode c_C_open 53 = .ok (.aload_n 0, 1) := by decide +kernel
theorem d_C_open_54 : decode c_C_open 54 = .ok (.getfield 109, 3) := by decide +kernel
theorem d_C_open_57 : decode c_C_open 57 = .ok (.l2i, 1) := by decide +kernel
theorem d_C_open_58 : decode c_C_open 58 = .ok (.ireturn, 1) := by decide +kernel
theorem d_C_step_0 : decode c_C_step 0 = .ok (.aload_n 0, 1) := by decide +kernel
theorem d_C_step_1 : decode c_C_step 1 = .ok (.invokevirtual 113, 3) := by decide +kernel
theorem d_C_step_4 : decode c_C_step 4 = .ok (.ifCond .eq 10, 3) := by decide +kernel
theorem d_C_step_7 : decode c_C_step 7 = .ok (.aload_n 0, 1) := by decide +kernel
theorem d_C_step_8 : decode c_C_step 8 = .ok (.getfield 117, 3) := by decide +kernel
theorem d_C_step_11 : decode c_C_step 11 = .ok (.ifCond .eq 13, 3) := by decide +kernel
theorem d_C_step_14 : decode c_C_step 14 = .ok (.new 88, 3) := by decide +kernel
theorem d_C_step_17 : decode c_C_step 17 = .ok (.dup, 1) := by decide +kernel
theorem d_C_step_18 : decode c_C_step 18 = .ok (.ldc 121, 2) := by decide +kernel
theorem d_C_step_20 : decode c_C_step 20 = .ok (.invokespecial 92, 3) := by decide +kernel
theorem d_C_step_23 : decode c_C_step 23 = .ok (.athrow, 1) := by decide +kernel
theorem d_C_step_24 : decode c_C_step 24 = .ok (.aload_n 0, 1) := by decide +kernel
theorem d_C_step_25 : decode c_C_step 25 = .ok (.iconst 1, 1) := by decide +kernel
theorem d_C_step_26 : decode c_C_step 26 = .ok (.invokevirtual 123, 3) := by decide +kernel
theorem d_C_step_29 : decode c_C_step 29 = .ok (.istore_n 1, 1) := by decide +kernel
theorem d_C_step_30 : decode c_C_step 30 = .ok (.iload_n 1, 1) := by decide +kernel
theorem d_C_step_31 : decode c_C_step 31 = .ok (.iconst (-1), 1) := by decide +kernel
theorem d_C_step_32 : decode c_C_step 32 = .ok (.if_icmp .eq 15, 3) := by decide +kernel
theorem d_C_step_35 : decode c_C_step 35 = .ok (.aload_n 0, 1) := by decide +kernel
theorem d_C_step_36 : decode c_C_step 36 = .ok (.iload_n 1, 1) := by decide +kernel
theorem d_C_step_37 : decode c_C_step 37 = .ok (.invokevirtual 127, 3) := by decide +kernel
theorem d_C_step_40 : decode c_C_step 40 = .ok (.ifCond .eq 7, 3) := by decide +kernel
theorem d_C_step_43 : decode c_C_step 43 = .ok (.iconst 1, 1) := by decide +kernel
theorem d_C_step_44 : decode c_C_step 44 = .ok (.goto 4, 3) := by decide +kernel
theorem d_C_step_47 : decode c_C_step 47 = .ok (.iconst 0, 1) := by decide +kernel
theorem d_C_step_48 : decode c_C_step 48 = .ok (.istore_n 2, 1) := by decide +kernel
theorem d_C_step_49 : decode c_C_step 49 = .ok (.iload_n 2, 1) := by decide +kernel
theorem d_C_step_50 : decode c_C_step 50 = .ok (.ifCond .eq 7, 3) := by decide +kernel
theorem d_C_step_53 : decode c_C_step 53 = .ok (.iload_n 1, 1) := by decide +kernel
theorem d_C_step_54 : decode c_C_step 54 = .ok (.goto 7, 3) := by decide +kernel
theorem d_C_step_57 : decode c_C_step 57 = .ok (.aload_n 0, 1) := by decide +kernel
theorem d_C_step_58 : decode c_C_step 58 = .ok (.invokevirtual 130, 3) := by decide +kernel
theorem d_C_step_61 : decode c_C_step 61 = .ok (.istore_n 3, 1) := by decide +kernel
theorem d_C_step_62 : decode c_C_step 62 = .ok (.aload_n 0, 1) := by decide +kernel
theorem d_C_step_63 : decode c_C_step 63 = .ok (.dup, 1) := by decide +kernel
theorem d_C_step_64 : decode c_C_step 64 = .ok (.getfield 96, 3) := by decide +kernel
theorem d_C_step_67 : decode c_C_step 67 = .ok (.iconst 1, 1) := by decide +kernel
theorem d_C_step_68 : decode c_C_step 68 = .ok (.iadd, 1) := by decide +kernel
theorem d_C_step_69 : decode c_C_step 69 = .ok (.putfield 96, 3) := by decide +kernel
theorem d_C_step_72 : decode c_C_step 72 = .ok (.aload_n 0, 1) := by decide +kernel
theorem d_C_step_73 : decode c_C_step 73 = .ok (.getfield 25, 3) := by decide +kernel
theorem d_C_step_76 : decode c_C_step 76 = .ok (.aload_n 0, 1) := by decide +kernel
theorem d_C_step_77 : decode c_C_step 77 = .ok (.getfield 96, 3) := by decide +kernel
theorem d_C_step_80 : decode c_C_step 80 = .ok (.aaload, 1) := by decide +kernel
theorem d_C_step_81 : decode c_C_step 81 = .ok (.aload_n 0, 1) := by decide +kernel
theorem d_C_step_82 : decode c_C_step 82 = .ok (.getfield 25, 3) := by decide +kernel
theorem d_C_step_85 : decode c_C_step 85 = .ok (.aload_n 0, 1) := by decide +kernel
theorem d_C_step_86 : decode c_C_step 86 = .ok (.getfield 96, 3) := by decide +kernel
theorem d_C_step_89 : decode c_C_step 89 = .ok (.iconst 1, 1) := by decide +kernel
theorem d_C_step_90 : decode c_C_step 90 = .ok (.isub, 1) := by decide +kernel
theorem d_C_step_91 : decode c_C_step 91 = .ok (.aaload, 1) := by decide +kernel
theorem d_C_step_92 : decode c_C_step 92 = .ok (.invokevirtual 133, 3) := by decide +kernel
theorem d_C_step_95 : decode c_C_step 95 = .ok (.iload_n 2, 1) := by decide +kernel
theorem d_C_step_96 : decode c_C_step 96 = .ok (.ifCond .eq 11, 3) := by decide +kernel
theorem d_C_step_99 : decode c_C_step 99 = .ok (.aload_n 0, 1) := by decide +kernel
theorem d_C_step_100 : decode c_C_step 100 = .ok (.iload_n 3, 1) := by decide +kernel
theorem d_C_step_101 : decode c_C_step 101 = .ok (.invokevirtual 137, 3) := by decide +kernel
theorem d_C_step_104 : decode c_C_step 104 = .ok (.goto 8, 3) := by decide +kernel
theorem d_C_step_107 : decode c_C_step 107 = .ok (.aload_n 0, 1) := by decide +kernel
theorem d_C_step_108 : decode c_C_step 108 = .ok (.iload_n 3, 1) := by decide +kernel
theorem d_C_step_109 : decode c_C_step 109 = .ok (.invokevirtual 140, 3) := by decide +kernel
theorem d_C_step_112 : decode c_C_step 112 = .ok (.aload_n 0, 1) := by decide +kernel
theorem d_C_step_113 : decode c_C_step 113 = .ok (.invokevirtual 106, 3) := by decide +kernel
theorem d_C_step_116 : decode c_C_step 116 = .ok (.iload_n 2, 1) := by decide +kernel
theorem d_C_step_117 : decode c_C_step 117 = .ok (.ifCond .eq 7, 3) := by decide +kernel
theorem d_C_step_120 : decode c_C_step 120 = .ok (.iload_n 3, 1) := by decide +kernel
theorem d_C_step_121 : decode c_C_step 121 = .ok (.goto 7, 3) := by decide +kernel
theorem d_C_step_124 : decode c_C_step 124 = .ok (.iload_n 3, 1) := by decide +kernel
theorem d_C_step_125 : decode c_C_step 125 = .ok (.bipush 16, 2) := by decide +kernel
theorem d_C_step_127 : decode c_C_step 127 = .ok (.iadd, 1) := by decide +kernel
theorem d_C_step_128 : decode c_C_step 128 = .ok (.ireturn, 1) := by decide +kernel
theorem d_C_over_0 : decode c_C_over 0 = .ok (.aload_n 0, 1) := by decide +kernel
theorem d_C_over_1 : decode c_C_over 1 = .ok (.getfield 117, 3) := by decide +kernel
theorem d_C_over_4 : decode c_C_over 4 = .ok (.ireturn, 1) := by decide +kernel
theorem d_C_state_0 : decode c_C_state 0 = .ok (.iload_n 1, 1) := by decide +kernel
theorem d_C_state_1 : decode c_C_state 1 = .ok (.tableswitch 103 0 7 #[47, 55, 60, 68, 74, 79, 87, 95], 47) := by decide +kernel
theorem d_C_state_48 : decode c_C_state 48 = .ok (.aload_n 0, 1) := by decide +kernel
theorem d_C_state_49 : decode c_C_state 49 = .ok (.getfield 12, 3) := by decide +kernel
theorem d_C_state_52 : decode c_C_state 52 = .ok (.getfield 143, 3) := by decide +kernel
theorem d_C_state_55 : decode c_C_state 55 = .ok (.ireturn, 1) := by decide +kernel
theorem d_C_state_56 : decode c_C_state 56 = .ok (.aload_n 0, 1) := by decide +kernel
theorem d_C_state_57 : decode c_C_state 57 = .ok (.getfield 65, 3) := by decide +kernel
theorem d_C_state_60 : decode c_C_state 60 = .ok (.ireturn, 1) := by decide +kernel
theorem d_C_state_61 : decode c_C_state 61 = .ok (.aload_n 0, 1) := by decide +kernel
theorem d_C_state_62 : decode c_C_state 62 = .ok (.getfield 19, 3) := by decide +kernel
theorem d_C_state_65 : decode c_C_state 65 = .ok (.getfield 75, 3) := by decide +kernel
theorem d_C_state_68 : decode c_C_state 68 = .ok (.ireturn, 1) := by decide +kernel
theorem d_C_state_69 : decode c_C_state 69 = .ok (.aload_n 0, 1) := by decide +kernel
theorem d_C_state_70 : decode c_C_state 70 = .ok (.getfield 144, 3) := by decide +kernel
theorem d_C_state_73 : decode c_C_state 73 = .ok (.l2i, 1) := by decide +kernel
theorem d_C_state_74 : decode c_C_state 74 = .ok (.ireturn, 1) := by decide +kernel
theorem d_C_state_75 : decode c_C_state 75 = .ok (.aload_n 0, 1) := by decide +kernel
theorem d_C_state_76 : decode c_C_state 76 = .ok (.getfield 96, 3) := by decide +kernel
theorem d_C_state_79 : decode c_C_state 79 = .ok (.ireturn, 1) := by decide +kernel
theorem d_C_state_80 : decode c_C_state 80 = .ok (.aload_n 0, 1) := by decide +kernel
theorem d_C_state_81 : decode c_C_state 81 = .ok (.getfield 12, 3) := by decide +kernel
theorem d_C_state_84 : decode c_C_state 84 = .ok (.getfield 147, 3) := by decide +kernel
theorem d_C_state_87 : decode c_C_state 87 = .ok (.ireturn, 1) := by decide +kernel
theorem d_C_state_88 : decode c_C_state 88 = .ok (.aload_n 0, 1) := by decide +kernel
theorem d_C_state_89 : decode c_C_state 89 = .ok (.getfield 12, 3) := by decide +kernel
theorem d_C_state_92 : decode c_C_state 92 = .ok (.getfield 150, 3) := by decide +kernel
theorem d_C_state_95 : decode c_C_state 95 = .ok (.ireturn, 1) := by decide +kernel
theorem d_C_state_96 : decode c_C_state 96 = .ok (.aload_n 0, 1) := by decide +kernel
theorem d_C_state_97 : decode c_C_state 97 = .ok (.getfield 12, 3) := by decide +kernel
theorem d_C_state_100 : decode c_C_state 100 = .ok (.invokevirtual 61, 3) := by decide +kernel
theorem d_C_state_103 : decode c_C_state 103 = .ok (.ireturn, 1) := by decide +kernel
theorem d_C_state_104 : decode c_C_state 104 = .ok (.iconst (-1), 1) := by decide +kernel
theorem d_C_state_105 : decode c_C_state 105 = .ok (.ireturn, 1) := by decide +kernel
theorem d_C_status_0 : decode c_C_status 0 = .ok (.aload_n 0, 1) := by decide +kernel
theorem d_C_status_1 : decode c_C_status 1 = .ok (.getfield 12, 3) := by decide +kernel
theorem d_C_status_4 : decode c_C_status 4 = .ok (.iload_n 1, 1) := by decide +kernel
theorem d_C_status_5 : decode c_C_status 5 = .ok (.invokevirtual 44, 3) := by decide +kernel
theorem d_C_status_8 : decode c_C_status 8 = .ok (.ifCond .ne 13, 3) := by decide +kernel
theorem d_C_status_11 : decode c_C_status 11 = .ok (.new 153, 3) := by decide +kernel
theorem d_C_status_14 : decode c_C_status 14 = .ok (.dup, 1) := by decide +kernel
theorem d_C_status_15 : decode c_C_status 15 = .ok (.ldc 155, 2) := by decide +kernel
theorem d_C_status_17 : decode c_C_status 17 = .ok (.invokespecial 157, 3) := by decide +kernel
theorem d_C_status_20 : decode c_C_status 20 = .ok (.athrow, 1) := by decide +kernel
theorem d_C_status_21 : decode c_C_status 21 = .ok (.aload_n 0, 1) := by decide +kernel
theorem d_C_status_22 : decode c_C_status 22 = .ok (.getfield 12, 3) := by decide +kernel
theorem d_C_status_25 : decode c_C_status 25 = .ok (.getfield 158, 3) := by decide +kernel
theorem d_C_status_28 : decode c_C_status 28 = .ok (.iload_n 1, 1) := by decide +kernel
theorem d_C_status_29 : decode c_C_status 29 = .ok (.iaload, 1) := by decide +kernel
theorem d_C_status_30 : decode c_C_status 30 = .ok (.ireturn, 1) := by decide +kernel
theorem d_C_total_0 : decode c_C_total 0 = .ok (.aload_n 0, 1) := by decide +kernel
theorem d_C_total_1 : decode c_C_total 1 = .ok (.iload_n 1, 1) := by decide +kernel
theorem d_C_total_2 : decode c_C_total 2 = .ok (.iload_n 2, 1) := by decide +kernel
theorem d_C_total_3 : decode c_C_total 3 = .ok (.invokevirtual 161, 3) := by decide +kernel
theorem d_C_total_6 : decode c_C_total 6 = .ok (.aload_n 0, 1) := by decide +kernel
theorem d_C_total_7 : decode c_C_total 7 = .ok (.getfield 25, 3) := by decide +kernel
theorem d_C_total_10 : decode c_C_total 10 = .ok (.iload_n 1, 1) := by decide +kernel
theorem d_C_total_11 : decode c_C_total 11 = .ok (.aaload, 1) := by decide +kernel
theorem d_C_total_12 : decode c_C_total 12 = .ok (.getfield 164, 3) := by decide +kernel
theorem d_C_total_15 : decode c_C_total 15 = .ok (.astore 4, 2) := by decide +kernel
theorem d_C_total_17 : decode c_C_total 17 = .ok (.iload_n 3, 1) := by decide +kernel
theorem d_C_total_18 : decode c_C_total 18 = .ok (.ifCond .eq 13, 3) := by decide +kernel
theorem d_C_total_21 : decode c_C_total 21 = .ok (.aload 4, 2) := by decide +kernel
theorem d_C_total_23 : decode c_C_total 23 = .ok (.getfield 168, 3) := by decide +kernel
theorem d_C_total_26 : decode c_C_total 26 = .ok (.iload_n 2, 1) := by decide +kernel
theorem d_C_total_27 : decode c_C_total 27 = .ok (.laload, 1) := by decide +kernel
theorem d_C_total_28 : decode c_C_total 28 = .ok (.goto 10, 3) := by decide +kernel
theorem d_C_total_31 : decode c_C_total 31 = .ok (.aload 4, 2) := by decide +kernel
theorem d_C_total_33 : decode c_C_total 33 = .ok (.getfield 174, 3) := by decide +kernel
theorem d_C_total_36 : decode c_C_total 36 = .ok (.iload_n 2, 1) := by decide +kernel
theorem d_C_total_37 : decode c_C_total 37 = .ok (.laload, 1) := by decide +kernel
theorem d_C_total_38 : decode c_C_total 38 = .ok (.lreturn, 1) := by decide +kernel
theorem d_C_papers_0 : decode c_C_papers 0 = .ok (.aload_n 0, 1) := by decide +kernel
theorem d_C_papers_1 : decode c_C_papers 1 = .ok (.getfield 12, 3) := by decide +kernel
theorem d_C_papers_4 : decode c_C_papers 4 = .ok (.iload_n 1, 1) := by decide +kernel
theorem d_C_papers_5 : decode c_C_papers 5 = .ok (.invokevirtual 177, 3) := by decide +kernel
theorem d_C_papers_8 : decode c_C_papers 8 = .ok (.ifCond .ne 13, 3) := by decide +kernel
theorem d_C_papers_11 : decode c_C_papers 11 = .ok (.new 153, 3) := by decide +kernel
theorem d_C_papers_14 : decode c_C_papers 14 = .ok (.dup, 1) := by decide +kernel
theorem d_C_papers_15 : decode c_C_papers 15 = .ok (.ldc 155, 2) := by decide +kernel
theorem d_C_papers_17 : decode c_C_papers 17 = .ok (.invokespecial 157, 3) := by decide +kernel
theorem d_C_papers_20 : decode c_C_papers 20 = .ok (.athrow, 1) := by decide +kernel
theorem d_C_papers_21 : decode c_C_papers 21 = .ok (.aload_n 0, 1) := by decide +kernel
theorem d_C_papers_22 : decode c_C_papers 22 = .ok (.getfield 19, 3) := by decide +kernel
theorem d_C_papers_25 : decode c_C_papers 25 = .ok (.iload_n 1, 1) := by decide +kernel
theorem d_C_papers_26 : decode c_C_papers 26 = .ok (.invokevirtual 180, 3) := by decide +kernel
theorem d_C_papers_29 : decode c_C_papers 29 = .ok (.ireturn, 1) := by decide +kernel
theorem d_C_moved_0 : decode c_C_moved 0 = .ok (.aload_n 0, 1) := by decide +kernel
theorem d_C_moved_1 : decode c_C_moved 1 = .ok (.iload_n 1, 1) := by decide +kernel
theorem d_C_moved_2 : decode c_C_moved 2 = .ok (.iload_n 2, 1) := by decide +kernel
theorem d_C_moved_3 : decode c_C_moved 3 = .ok (.invokevirtual 161, 3) := by decide +kernel
theorem d_C_moved_6 : decode c_C_moved 6 = .ok (.aload_n 0, 1) := by decide +kernel
theorem d_C_moved_7 : decode c_C_moved 7 = .ok (.getfield 25, 3) := by decide +kernel
theorem d_C_moved_10 : decode c_C_moved 10 = .ok (.iload_n 1, 1) := by decide +kernel
theorem d_C_moved_11 : decode c_C_moved 11 = .ok (.aaload, 1) := by decide +kernel
theorem d_C_moved_12 : decode c_C_moved 12 = .ok (.getfield 184, 3) := by decide +kernel
theorem d_C_moved_15 : decode c_C_moved 15 = .ok (.iload_n 2, 1) := by decide +kernel
theorem d_C_moved_16 : decode c_C_moved 16 = .ok (.iaload, 1) := by decide +kernel
theorem d_C_moved_17 : decode c_C_moved 17 = .ok (.ireturn, 1) := by decide +kernel
theorem d_C_startAnew_0 : decode c_C_startAnew 0 = .ok (.aload_n 0, 1) := by decide +kernel
theorem d_C_startAnew_1 : decode c_C_startAnew 1 = .ok (.getfield 12, 3) := by decide +kernel
theorem d_C_startAnew_4 : decode c_C_startAnew 4 = .ok (.iload_n 1, 1) := by decide +kernel
theorem d_C_startAnew_5 : decode c_C_startAnew 5 = .ok (.invokevirtual 187, 3) := by decide +kernel
theorem d_C_startAnew_8 : decode c_C_startAnew 8 = .ok (.aload_n 0, 1) := by decide +kernel
theorem d_C_startAnew_9 : decode c_C_startAnew 9 = .ok (.getfield 19, 3) := by decide +kernel
theorem d_C_startAnew_12 : decode c_C_startAnew 12 = .ok (.invokevirtual 189, 3) := by decide +kernel
theorem d_C_startAnew_15 : decode c_C_startAnew 15 = .ok (.aload_n 0, 1) := by decide +kernel
theorem d_C_startAnew_16 : decode c_C_startAnew 16 = .ok (.iload_n 2, 1) := by decide +kernel
theorem d_C_startAnew_17 : decode c_C_startAnew 17 = .ok (.putfield 65, 3) := by decide +kernel
theorem d_C_startAnew_20 : decode c_C_startAnew 20 = .ok (.aload_n 0, 1) := by decide +kernel
theorem d_C_startAnew_21 : decode c_C_startAnew 21 = .ok (.iconst (-1), 1) := by decide +kernel
theorem d_C_startAnew_22 : decode c_C_startAnew 22 = .ok (.putfield 96, 3) := by decide +kernel
theorem d_C_startAnew_25 : decode c_C_startAnew 25 = .ok (.aload_n 0, 1) := by decide +kernel
theorem d_C_startAnew_26 : decode c_C_startAnew 26 = .ok (.iconst 0, 1) := by decide +kernel
theorem d_C_startAnew_27 : decode c_C_startAnew 27 = .ok (.putfield 117, 3) := by decide +kernel
theorem d_C_startAnew_30 : decode c_C_startAnew 30 = .ok (.aload_n 0, 1) := by decide +kernel
theorem d_C_startAnew_31 : decode c_C_startAnew 31 = .ok (.lconst 0, 1) := by decide +kernel
theorem d_C_startAnew_32 : decode c_C_startAnew 32 = .ok (.putfield 109, 3) := by decide +kernel
theorem d_C_startAnew_35 : decode c_C_startAnew 35 = .ok (.aload_n 0, 1) := by decide +kernel
theorem d_C_startAnew_36 : decode c_C_startAnew 36 = .ok (.lconst 0, 1) := by decide +kernel
theorem d_C_startAnew_37 : decode c_C_startAnew 37 = .ok (.putfield 144, 3) := by decide +kernel
theorem d_C_startAnew_40 : decode c_C_startAnew 40 = .ok (.return_, 1) := by decide +kernel
theorem d_C_hasBegun_0 : decode c_C_hasBegun 0 = .ok (.aload_n 0, 1) := by decide +kernel
theorem d_C_hasBegun_1 : decode c_C_hasBegun 1 = .ok (.getfield 96, 3) := by decide +kernel
theorem d_C_hasBegun_4 : decode c_C_hasBegun 4 = .ok (.iconst (-1), 1) := by decide +kernel
theorem d_C_hasBegun_5 : decode c_C_hasBegun 5 = .ok (.if_icmp .eq 7, 3) := by decide +kernel
theorem d_C_hasBegun_8 : decode c_C_hasBegun 8 = .ok (.iconst 1, 1) := by decide +kernel
theorem d_C_hasBegun_9 : decode c_C_hasBegun 9 = .ok (.goto 4, 3) := by decide +kernel
theorem d_C_hasBegun_12 : decode c_C_hasBegun 12 = .ok (.iconst 0, 1) := by decide +kernel
theorem d_C_hasBegun_13 : decode c_C_hasBegun 13 = .ok (.ireturn, 1) := by decide +kernel
theorem d_C_refuseOnceBegun_0 : decode c_C_refuseOnceBegun 0 = .ok (.aload_n 0, 1) := by decide +kernel
theorem d_C_refuseOnceBegun_1 : decode c_C_refuseOnceBegun 1 = .ok (.invokevirtual 113, 3) := by decide +kernel
theorem d_C_refuseOnceBegun_4 : decode c_C_refuseOnceBegun 4 = .ok (.ifCond .eq 13, 3) := by decide +kernel
theorem d_C_refuseOnceBegun_7 : decode c_C_refuseOnceBegun 7 = .ok (.new 88, 3) := by decide +kernel
theorem d_C_refuseOnceBegun_10 : decode c_C_refuseOnceBegun 10 = .ok (.dup, 1) := by decide +kernel
theorem d_C_refuseOnceBegun_11 : decode c_C_refuseOnceBegun 11 = .ok (.ldc 190, 2) := by decide +kernel
theorem d_C_refuseOnceBegun_13 : decode c_C_refuseOnceBegun 13 = .ok (.invokespecial 92, 3) := by decide +kernel
theorem d_C_refuseOnceBegun_16 : decode c_C_refuseOnceBegun 16 = .ok (.athrow, 1) := by decide +kernel
theorem d_C_refuseOnceBegun_17 : decode c_C_refuseOnceBegun 17 = .ok (.return_, 1) := by decide +kernel
theorem d_C_refuseUnknown_0 : decode c_C_refuseUnknown 0 = .ok (.iload_n 1, 1) := by decide +kernel
theorem d_C_refuseUnknown_1 : decode c_C_refuseUnknown 1 = .ok (.ifCond .lt 22, 3) := by decide +kernel
theorem d_C_refuseUnknown_4 : decode c_C_refuseUnknown 4 = .ok (.iload_n 1, 1) := by decide +kernel
theorem d_C_refuseUnknown_5 : decode c_C_refuseUnknown 5 = .ok (.aload_n 0, 1) := by decide +kernel
theorem d_C_refuseUnknown_6 : decode c_C_refuseUnknown 6 = .ok (.getfield 96, 3) := by decide +kernel
theorem d_C_refuseUnknown_9 : decode c_C_refuseUnknown 9 = .ok (.if_icmp .gt 14, 3) := by decide +kernel
theorem d_C_refuseUnknown_12 : decode c_C_refuseUnknown 12 = .ok (.aload_n 0, 1) := by decide +kernel
theorem d_C_refuseUnknown_13 : decode c_C_refuseUnknown 13 = .ok (.getfield 12, 3) := by decide +kernel
theorem d_C_refuseUnknown_16 : decode c_C_refuseUnknown 16 = .ok (.iload_n 2, 1) := by decide +kernel
theorem d_C_refuseUnknown_17 : decode c_C_refuseUnknown 17 = .ok (.invokevirtual 177, 3) := by decide +kernel
theorem d_C_refuseUnknown_20 : decode c_C_refuseUnknown 20 = .ok (.ifCond .ne 13, 3) := by decide +kernel
theorem d_C_refuseUnknown_23 : decode c_C_refuseUnknown 23 = .ok (.new 153, 3) := by decide +kernel
theorem d_C_refuseUnknown_26 : decode c_C_refuseUnknown 26 = .ok (.dup, 1) := by decide +kernel
theorem d_C_refuseUnknown_27 : decode c_C_refuseUnknown 27 = .ok (.ldc 192, 2) := by decide +kernel
theorem d_C_refuseUnknown_29 : decode c_C_refuseUnknown 29 = .ok (.invokespecial 157, 3) := by decide +kernel
theorem d_C_refuseUnknown_32 : decode c_C_refuseUnknown 32 = .ok (.athrow, 1) := by decide +kernel
theorem d_C_refuseUnknown_33 : decode c_C_refuseUnknown 33 = .ok (.return_, 1) := by decide +kernel
theorem d_C_isRanking_0 : decode c_C_isRanking 0 = .ok (.iconst 0, 1) := by decide +kernel
theorem d_C_isRanking_1 : decode c_C_isRanking 1 = .ok (.istore_n 3, 1) := by decide +kernel
theorem d_C_isRanking_2 : decode c_C_isRanking 2 = .ok (.iconst 0, 1) := by decide +kernel
theorem d_C_isRanking_3 : decode c_C_isRanking 3 = .ok (.istore 4, 2) := by decide +kernel
theorem d_C_isRanking_5 : decode c_C_isRanking 5 = .ok (.iload 4, 2) := by decide +kernel
theorem d_C_isRanking_7 : decode c_C_isRanking 7 = .ok (.bipush 7, 2) := by decide +kernel
theorem d_C_isRanking_9 : decode c_C_isRanking 9 = .ok (.if_icmp .gt 66, 3) := by decide +kernel
theorem d_C_isRanking_12 : decode c_C_isRanking 12 = .ok (.lload_n 1, 1) := by decide +kernel
theorem d_C_isRanking_13 : decode c_C_isRanking 13 = .ok (.iload 4, 2) := by decide +kernel
theorem d_C_isRanking_15 : decode c_C_isRanking 15 = .ok (.invokestatic 194, 3) := by decide +kernel
theorem d_C_isRanking_18 : decode c_C_isRanking 18 = .ok (.istore 5, 2) := by decide +kernel
theorem d_C_isRanking_20 : decode c_C_isRanking 20 = .ok (.iload 5, 2) := by decide +kernel
theorem d_C_isRanking_22 : decode c_C_isRanking 22 = .ok (.iconst (-1), 1) := by decide +kernel
theorem d_C_isRanking_23 : decode c_C_isRanking 23 = .ok (.if_icmp .ne 14, 3) := by decide +kernel
theorem d_C_isRanking_26 : decode c_C_isRanking 26 = .ok (.iload 4, 2) := by decide +kernel
theorem d_C_isRanking_28 : decode c_C_isRanking 28 = .ok (.ifCond .le 7, 3) := by decide +kernel
theorem d_C_isRanking_31 : decode c_C_isRanking 31 = .ok (.iconst 1, 1) := by decide +kernel
theorem d_C_isRanking_32 : decode c_C_isRanking 32 = .ok (.goto 4, 3) := by decide +kernel
theorem d_C_isRanking_35 : decode c_C_isRanking 35 = .ok (.iconst 0, 1) := by decide +kernel
theorem d_C_isRanking_36 : decode c_C_isRanking 36 = .ok (.ireturn, 1) := by decide +kernel
theorem d_C_isRanking_37 : decode c_C_isRanking 37 = .ok (.iconst 1, 1) := by decide +kernel
theorem d_C_isRanking_38 : decode c_C_isRanking 38 = .ok (.iload 5, 2) := by decide +kernel
theorem d_C_isRanking_40 : decode c_C_isRanking 40 = .ok (.ishl, 1) := by decide +kernel
theorem d_C_isRanking_41 : decode c_C_isRanking 41 = .ok (.istore 6, 2) := by decide +kernel
theorem d_C_isRanking_43 : decode c_C_isRanking 43 = .ok (.aload_n 0, 1) := by decide +kernel
theorem d_C_isRanking_44 : decode c_C_isRanking 44 = .ok (.getfield 12, 3) := by decide +kernel
theorem d_C_isRanking_47 : decode c_C_isRanking 47 = .ok (.iload 5, 2) := by decide +kernel
theorem d_C_isRanking_49 : decode c_C_isRanking 49 = .ok (.invokevirtual 44, 3) := by decide +kernel
theorem d_C_isRanking_52 : decode c_C_isRanking 52 = .ok (.ifCond .eq 10, 3) := by decide +kernel
theorem d_C_isRanking_55 : decode c_C_isRanking 55 = .ok (.iload_n 3, 1) := by decide +kernel
theorem d_C_isRanking_56 : decode c_C_isRanking 56 = .ok (.iload 6, 2) := by decide +kernel
theorem d_C_isRanking_58 : decode c_C_isRanking 58 = .ok (.iand, 1) := by decide +kernel
theorem d_C_isRanking_59 : decode c_C_isRanking 59 = .ok (.ifCond .eq 5, 3) := by decide +kernel
theorem d_C_isRanking_62 : decode c_C_isRanking 62 = .ok (.iconst 0, 1) := by decide +kernel
theorem d_C_isRanking_63 : decode c_C_isRanking 63 = .ok (.ireturn, 1) := by decide +kernel
theorem d_C_isRanking_64 : decode c_C_isRanking 64 = .ok (.iload_n 3, 1) := by decide +kernel
theorem d_C_isRanking_65 : decode c_C_isRanking 65 = .ok (.iload 6, 2) := by decide +kernel
theorem d_C_isRanking_67 : decode c_C_isRanking 67 = .ok (.ior, 1) := by decide +kernel
theorem d_C_isRanking_68 : decode c_C_isRanking 68 = .ok (.istore_n 3, 1) := by decide +kernel
theorem d_C_isRanking_69 : decode c_C_isRanking 69 = .ok (.iinc 4 1, 3) := by decide +kernel
theorem d_C_isRanking_72 : decode c_C_isRanking 72 = .ok (.goto (-67), 3) := by decide +kernel
theorem d_C_isRanking_75 : decode c_C_isRanking 75 = .ok (.iconst 0, 1) := by decide +kernel
theorem d_C_isRanking_76 : decode c_C_isRanking 76 = .ok (.ireturn, 1) := by decide +kernel
theorem d_C_candidateAt_0 : decode c_C_candidateAt 0 = .ok (.lload_n 0, 1) := by decide +kernel
theorem d_C_candidateAt_1 : decode c_C_candidateAt 1 = .ok (.iload_n 2, 1) := by decide +kernel
theorem d_C_candidateAt_2 : decode c_C_candidateAt 2 = .ok (.iconst 4, 1) := by decide +kernel
theorem d_C_candidateAt_3 : decode c_C_candidateAt 3 = .ok (.imul, 1) := by decide +kernel
theorem d_C_candidateAt_4 : decode c_C_candidateAt 4 = .ok (.lushr, 1) := by decide +kernel
theorem d_C_candidateAt_5 : decode c_C_candidateAt 5 = .ok (.ldc2_w 198, 3) := by decide +kernel
theorem d_C_candidateAt_8 : decode c_C_candidateAt 8 = .ok (.land, 1) := by decide +kernel
theorem d_C_candidateAt_9 : decode c_C_candidateAt 9 = .ok (.l2i, 1) := by decide +kernel
theorem d_C_candidateAt_10 : decode c_C_candidateAt 10 = .ok (.iconst 1, 1) := by decide +kernel
theorem d_C_candidateAt_11 : decode c_C_candidateAt 11 = .ok (.isub, 1) := by decide +kernel
theorem d_C_candidateAt_12 : decode c_C_candidateAt 12 = .ok (.ireturn, 1) := by decide +kernel
theorem d_C_setQuota_0 : decode c_C_setQuota 0 = .ok (.aload_n 0, 1) := by decide +kernel
theorem d_C_setQuota_1 : decode c_C_setQuota 1 = .ok (.getfield 19, 3) := by decide +kernel
theorem d_C_setQuota_4 : decode c_C_setQuota 4 = .ok (.getfield 75, 3) := by decide +kernel
theorem d_C_setQuota_7 : decode c_C_setQuota 7 = .ok (.i2l, 1) := by decide +kernel
theorem d_C_setQuota_8 : decode c_C_setQuota 8 = .ok (.aload_n 0, 1) := by decide +kernel
theorem d_C_setQuota_9 : decode c_C_setQuota 9 = .ok (.getfield 65, 3) := by decide +kernel
theorem d_C_setQuota_12 : decode c_C_setQuota 12 = .ok (.iconst 1, 1) := by decide +kernel
theorem d_C_setQuota_13 : decode c_C_setQuota 13 = .ok (.iadd, 1) := by decide +kernel
theorem d_C_setQuota_14 : decode c_C_setQuota 14 = .ok (.i2l, 1) := by decide +kernel
theorem d_C_setQuota_15 : decode c_C_setQuota 15 = .ok (.invokestatic 200, 3) := by decide +kernel
theorem d_C_setQuota_18 : decode c_C_setQuota 18 = .ok (.lstore_n 1, 1) := by decide +kernel
theorem d_C_setQuota_19 : decode c_C_setQuota 19 = .ok (.aload_n 0, 1) := by decide +kernel
theorem d_C_setQuota_20 : decode c_C_setQuota 20 = .ok (.aload_n 0, 1) := by decide +kernel
theorem d_C_setQuota_21 : decode c_C_setQuota 21 = .ok (.getfield 19, 3) := by decide +kernel
theorem d_C_setQuota_24 : decode c_C_setQuota 24 = .ok (.getfield 75, 3) := by decide +kernel
theorem d_C_setQuota_27 : decode c_C_setQuota 27 = .ok (.i2l, 1) := by decide +kernel
theorem d_C_setQuota_28 : decode c_C_setQuota 28 = .ok (.lload_n 1, 1) := by decide +kernel
theorem d_C_setQuota_29 : decode c_C_setQuota 29 = .ok (.ldiv, 1) := by decide +kernel
theorem d_C_setQuota_30 : decode c_C_setQuota 30 = .ok (.putfield 109, 3) := by decide +kernel
theorem d_C_setQuota_33 : decode c_C_setQuota 33 = .ok (.aload_n 0, 1) := by decide +kernel
theorem d_C_setQuota_34 : decode c_C_setQuota 34 = .ok (.aload_n 0, 1) := by decide +kernel
theorem d_C_setQuota_35 : decode c_C_setQuota 35 = .ok (.getfield 65, 3) := by decide +kernel
theorem d_C_setQuota_38 : decode c_C_setQuota 38 = .ok (.iconst 1, 1) := by decide +kernel
theorem d_C_setQuota_39 : decode c_C_setQuota 39 = .ok (.iadd, 1) := by decide +kernel
theorem d_C_setQuota_40 : decode c_C_setQuota 40 = .ok (.i2l, 1) := by decide +kernel
theorem d_C_setQuota_41 : decode c_C_setQuota 41 = .ok (.lload_n 1, 1) := by decide +kernel
theorem d_C_setQuota_42 : decode c_C_setQuota 42 = .ok (.ldiv, 1) := by decide +kernel
theorem d_C_setQuota_43 : decode c_C_setQuota 43 = .ok (.putfield 144, 3) := by decide +kernel
theorem d_C_setQuota_46 : decode c_C_setQuota 46 = .ok (.return_, 1) := by decide +kernel
theorem d_C_isAboveQuota_0 : decode c_C_isAboveQuota 0 = .ok (.aload_n 0, 1) := by decide +kernel
theorem d_C_isAboveQuota_1 : decode c_C_isAboveQuota 1 = .ok (.getfield 25, 3) := by decide +kernel
theorem d_C_isAboveQuota_4 : decode c_C_isAboveQuota 4 = .ok (.aload_n 0, 1) := by decide +kernel
theorem d_C_isAboveQuota_5 : decode c_C_isAboveQuota 5 = .ok (.getfield 96, 3) := by decide +kernel
theorem d_C_isAboveQuota_8 : decode c_C_isAboveQuota 8 = .ok (.aaload, 1) := by decide +kernel
theorem d_C_isAboveQuota_9 : decode c_C_isAboveQuota 9 = .ok (.getfield 164, 3) := by decide +kernel
theorem d_C_isAboveQuota_12 : decode c_C_isAboveQuota 12 = .ok (.iload_n 1, 1) := by decide +kernel
theorem d_C_isAboveQuota_13 : decode c_C_isAboveQuota 13 = .ok (.aload_n 0, 1) := by decide +kernel
theorem d_C_isAboveQuota_14 : decode c_C_isAboveQuota 14 = .ok (.getfield 109, 3) := by decide +kernel
theorem d_C_isAboveQuota_17 : decode c_C_isAboveQuota 17 = .ok (.aload_n 0, 1) := by decide +kernel
theorem d_C_isAboveQuota_18 : decode c_C_isAboveQuota 18 = .ok (.getfield 144, 3) := by decide +kernel
theorem d_C_isAboveQuota_21 : decode c_C_isAboveQuota 21 = .ok (.invokevirtual 204, 3) := by decide +kernel
theorem d_C_isAboveQuota_24 : decode c_C_isAboveQuota 24 = .ok (.ifCond .le 7, 3) := by decide +kernel
theorem d_C_isAboveQuota_27 : decode c_C_isAboveQuota 27 = .ok (.iconst 1, 1) := by decide +kernel
theorem d_C_isAboveQuota_28 : decode c_C_isAboveQuota 28 = .ok (.goto 4, 3) := by decide +kernel
theorem d_C_isAboveQuota_31 : decode c_C_isAboveQuota 31 = .ok (.iconst 0, 1) := by decide +kernel
theorem d_C_isAboveQuota_32 : decode c_C_isAboveQuota 32 = .ok (.ireturn, 1) := by decide +kernel
theorem d_C_passSurplus_0 : decode c_C_passSurplus 0 = .ok (.aload_n 0, 1) := by decide +kernel
theorem d_C_passSurplus_1 : decode c_C_passSurplus 1 = .ok (.getfield 25, 3) := by decide +kernel
theorem d_C_passSurplus_4 : decode c_C_passSurplus 4 = .ok (.aload_n 0, 1) := by decide +kernel
theorem d_C_passSurplus_5 : decode c_C_passSurplus 5 = .ok (.getfield 96, 3) := by decide +kernel
theorem d_C_passSurplus_8 : decode c_C_passSurplus 8 = .ok (.aaload, 1) := by decide +kernel
theorem d_C_passSurplus_9 : decode c_C_passSurplus 9 = .ok (.getfield 164, 3) := by decide +kernel
theorem d_C_passSurplus_12 : decode c_C_passSurplus 12 = .ok (.astore_n 2, 1) := by decide +kernel
theorem d_C_passSurplus_13 : decode c_C_passSurplus 13 = .ok (.aload_n 0, 1) := by decide +kernel
theorem d_C_passSurplus_14 : decode c_C_passSurplus 14 = .ok (.getfield 144, 3) := by decide +kernel
theorem d_C_passSurplus_17 : decode c_C_passSurplus 17 = .ok (.aload_n 2, 1) := by decide +kernel
theorem d_C_passSurplus_18 : decode c_C_passSurplus 18 = .ok (.getfield 174, 3) := by decide +kernel
theorem d_C_passSurplus_21 : decode c_C_passSurplus 21 = .ok (.iload_n 1, 1) := by decide +kernel
theorem d_C_passSurplus_22 : decode c_C_passSurplus 22 = .ok (.laload, 1) := by decide +kernel
theorem d_C_passSurplus_23 : decode c_C_passSurplus 23 = .ok (.lmul, 1) := by decide +kernel
theorem d_C_passSurplus_24 : decode c_C_passSurplus 24 = .ok (.lstore_n 3, 1) := by decide +kernel
theorem d_C_passSurplus_25 : decode c_C_passSurplus 25 = .ok (.lload_n 3, 1) := by decide +kernel
theorem d_C_passSurplus_26 : decode c_C_passSurplus 26 = .ok (.aload_n 0, 1) := by decide +kernel
theorem d_C_passSurplus_27 : decode c_C_passSurplus 27 = .ok (.getfield 109, 3) := by decide +kernel
theorem d_C_passSurplus_30 : decode c_C_passSurplus 30 = .ok (.aload_n 2, 1) := by decide +kernel
theorem d_C_passSurplus_31 : decode c_C_passSurplus 31 = .ok (.getfield 168, 3) := by decide +kernel
theorem d_C_passSurplus_34 : decode c_C_passSurplus 34 = .ok (.iload_n 1, 1) := by decide +kernel
theorem d_C_passSurplus_35 : decode c_C_passSurplus 35 = .ok (.laload, 1) := by decide +kernel
theorem d_C_passSurplus_36 : decode c_C_passSurplus 36 = .ok (.lmul, 1) := by decide +kernel
theorem d_C_passSurplus_37 : decode c_C_passSurplus 37 = .ok (.lsub, 1) := by decide +kernel
theorem d_C_passSurplus_38 : decode c_C_passSurplus 38 = .ok (.lstore 5, 2) := by decide +kernel
theorem d_C_passSurplus_40 : decode c_C_passSurplus 40 = .ok (.aload_n 2, 1) := by decide +kernel
theorem d_C_passSurplus_41 : decode c_C_passSurplus 41 = .ok (.iload_n 1, 1) := by decide +kernel
theorem d_C_passSurplus_42 : decode c_C_passSurplus 42 = .ok (.aload_n 0, 1) := by decide +kernel
theorem d_C_passSurplus_43 : decode c_C_passSurplus 43 = .ok (.getfield 109, 3) := by decide +kernel
theorem d_C_passSurplus_46 : decode c_C_passSurplus 46 = .ok (.aload_n 0, 1) := by decide +kernel
theorem d_C_passSurplus_47 : decode c_C_passSurplus 47 = .ok (.getfield 144, 3) := by decide +kernel
theorem d_C_passSurplus_50 : decode c_C_passSurplus 50 = .ok (.invokevirtual 208, 3) := by decide +kernel
theorem d_C_passSurplus_53 : decode c_C_passSurplus 53 = .ok (.aload_n 0, 1) := by decide +kernel
theorem d_C_passSurplus_54 : decode c_C_passSurplus 54 = .ok (.iload_n 1, 1) := by decide +kernel
theorem d_C_passSurplus_55 : decode c_C_passSurplus 55 = .ok (.lload 5, 2) := by decide +kernel
theorem d_C_passSurplus_57 : decode c_C_passSurplus 57 = .ok (.lload_n 3, 1) := by decide +kernel
theorem d_C_passSurplus_58 : decode c_C_passSurplus 58 = .ok (.invokevirtual 102, 3) := by decide +kernel
theorem d_C_passSurplus_61 : decode c_C_passSurplus 61 = .ok (.return_, 1) := by decide +kernel
theorem d_C_excludeAndPass_0 : decode c_C_excludeAndPass 0 = .ok (.aload_n 0, 1) := by decide +kernel
theorem d_C_excludeAndPass_1 : decode c_C_excludeAndPass 1 = .ok (.getfield 12, 3) := by decide +kernel
theorem d_C_excludeAndPass_4 : decode c_C_excludeAndPass 4 = .ok (.iload_n 1, 1) := by decide +kernel
theorem d_C_excludeAndPass_5 : decode c_C_excludeAndPass 5 = .ok (.invokevirtual 71, 3) := by decide +kernel
theorem d_C_excludeAndPass_8 : decode c_C_excludeAndPass 8 = .ok (.aload_n 0, 1) := by decide +kernel
theorem d_C_excludeAndPass_9 : decode c_C_excludeAndPass 9 = .ok (.getfield 25, 3) := by decide +kernel
theorem d_C_excludeAndPass_12 : decode c_C_excludeAndPass 12 = .ok (.aload_n 0, 1) := by decide +kernel
theorem d_C_excludeAndPass_13 : decode c_C_excludeAndPass 13 = .ok (.getfield 96, 3) := by decide +kernel
theorem d_C_excludeAndPass_16 : decode c_C_excludeAndPass 16 = .ok (.aaload, 1) := by decide +kernel
theorem d_C_excludeAndPass_17 : decode c_C_excludeAndPass 17 = .ok (.getfield 164, 3) := by decide +kernel
theorem d_C_excludeAndPass_20 : decode c_C_excludeAndPass 20 = .ok (.iload_n 1, 1) := by decide +kernel
theorem d_C_excludeAndPass_21 : decode c_C_excludeAndPass 21 = .ok (.lconst 0, 1) := by decide +kernel
theorem d_C_excludeAndPass_22 : decode c_C_excludeAndPass 22 = .ok (.lconst 1, 1) := by decide +kernel
theorem d_C_excludeAndPass_23 : decode c_C_excludeAndPass 23 = .ok (.invokevirtual 208, 3) := by decide +kernel
theorem d_C_excludeAndPass_26 : decode c_C_excludeAndPass 26 = .ok (.aload_n 0, 1) := by decide +kernel
theorem d_C_excludeAndPass_27 : decode c_C_excludeAndPass 27 = .ok (.iload_n 1, 1) := by decide +kernel
theorem d_C_excludeAndPass_28 : decode c_C_excludeAndPass 28 = .ok (.lconst 1, 1) := by decide +kernel
theorem d_C_excludeAndPass_29 : decode c_C_excludeAndPass 29 = .ok (.lconst 1, 1) := by decide +kernel
theorem d_C_excludeAndPass_30 : decode c_C_excludeAndPass 30 = .ok (.invokevirtual 102, 3) := by decide +kernel
theorem d_C_excludeAndPass_33 : decode c_C_excludeAndPass 33 = .ok (.return_, 1) := by decide +kernel
theorem d_C_passOn_0 : decode c_C_passOn 0 = .ok (.iconst 0, 1) := by decide +kernel
theorem d_C_passOn_1 : decode c_C_passOn 1 = .ok (.istore 6, 2) := by decide +kernel
theorem d_C_passOn_3 : decode c_C_passOn 3 = .ok (.iload 6, 2) := by decide +kernel
theorem d_C_passOn_5 : decode c_C_passOn 5 = .ok (.aload_n 0, 1) := by decide +kernel
theorem d_C_passOn_6 : decode c_C_passOn 6 = .ok (.getfield 19, 3) := by decide +kernel
theorem d_C_passOn_9 : decode c_C_passOn 9 = .ok (.getfield 210, 3) := by decide +kernel
theorem d_C_passOn_12 : decode c_C_passOn 12 = .ok (.if_icmp .ge 58, 3) := by decide +kernel
theorem d_C_passOn_15 : decode c_C_passOn 15 = .ok (.aload_n 0, 1) := by decide +kernel
theorem d_C_passOn_16 : decode c_C_passOn 16 = .ok (.getfield 19, 3) := by decide +kernel
theorem d_C_passOn_19 : decode c_C_passOn 19 = .ok (.getfield 213, 3) := by decide +kernel
theorem d_C_passOn_22 : decode c_C_passOn 22 = .ok (.iload 6, 2) := by decide +kernel
theorem d_C_passOn_24 : decode c_C_passOn 24 = .ok (.iaload, 1) := by decide +kernel
theorem d_C_passOn_25 : decode c_C_passOn 25 = .ok (.iload_n 1, 1) := by decide +kernel
theorem d_C_passOn_26 : decode c_C_passOn 26 = .ok (.if_icmp .ne 38, 3) := by decide +kernel
theorem d_C_passOn_29 : decode c_C_passOn 29 = .ok (.aload_n 0, 1) := by decide +kernel
theorem d_C_passOn_30 : decode c_C_passOn 30 = .ok (.getfield 19, 3) := by decide +kernel
theorem d_C_passOn_33 : decode c_C_passOn 33 = .ok (.getfield 216, 3) := by decide +kernel
theorem d_C_passOn_36 : decode c_C_passOn 36 = .ok (.iload 6, 2) := by decide +kernel
theorem d_C_passOn_38 : decode c_C_passOn 38 = .ok (.lload_n 2, 1) := by decide +kernel
theorem d_C_passOn_39 : decode c_C_passOn 39 = .ok (.lload 4, 2) := by decide +kernel
theorem d_C_passOn_41 : decode c_C_passOn 41 = .ok (.invokevirtual 219, 3) := by decide +kernel
theorem d_C_passOn_44 : decode c_C_passOn 44 = .ok (.aload_n 0, 1) := by decide +kernel
theorem d_C_passOn_45 : decode c_C_passOn 45 = .ok (.iload 6, 2) := by decide +kernel
theorem d_C_passOn_47 : decode c_C_passOn 47 = .ok (.aload_n 0, 1) := by decide +kernel
theorem d_C_passOn_48 : decode c_C_passOn 48 = .ok (.aload_n 0, 1) := by decide +kernel
theorem d_C_passOn_49 : decode c_C_passOn 49 = .ok (.getfield 19, 3) := by decide +kernel
theorem d_C_passOn_52 : decode c_C_passOn 52 = .ok (.getfield 222, 3) := by decide +kernel
theorem d_C_passOn_55 : decode c_C_passOn 55 = .ok (.iload 6, 2) := by decide +kernel
theorem d_C_passOn_57 : decode c_C_passOn 57 = .ok (.laload, 1) := by decide +kernel
theorem d_C_passOn_58 : decode c_C_passOn 58 = .ok (.invokevirtual 225, 3) := by decide +kernel
theorem d_C_passOn_61 : decode c_C_passOn 61 = .ok (.invokevirtual 229, 3) := by decide +kernel
theorem d_C_passOn_64 : decode c_C_passOn 64 = .ok (.iinc 6 1, 3) := by decide +kernel
theorem d_C_passOn_67 : decode c_C_passOn 67 = .ok (.goto (-64), 3) := by decide +kernel
theorem d_C_passOn_70 : decode c_C_passOn 70 = .ok (.return_, 1) := by decide +kernel
theorem d_C_hand_0 : decode c_C_hand 0 = .ok (.aload_n 0, 1) := by decide +kernel
theorem d_C_hand_1 : decode c_C_hand 1 = .ok (.getfield 19, 3) := by decide +kernel
theorem d_C_hand_4 : decode c_C_hand 4 = .ok (.getfield 232, 3) := by decide +kernel
theorem d_C_hand_7 : decode c_C_hand 7 = .ok (.iload_n 1, 1) := by decide +kernel
theorem d_C_hand_8 : decode c_C_hand 8 = .ok (.iaload, 1) := by decide +kernel
theorem d_C_hand_9 : decode c_C_hand 9 = .ok (.istore_n 3, 1) := by decide +kernel
theorem d_C_hand_10 : decode c_C_hand 10 = .ok (.aload_n 0, 1) := by decide +kernel
theorem d_C_hand_11 : decode c_C_hand 11 = .ok (.getfield 19, 3) := by decide +kernel
theorem d_C_hand_14 : decode c_C_hand 14 = .ok (.getfield 213, 3) := by decide +kernel
theorem d_C_hand_17 : decode c_C_hand 17 = .ok (.iload_n 1, 1) := by decide +kernel
theorem d_C_hand_18 : decode c_C_hand 18 = .ok (.iload_n 2, 1) := by decide +kernel
theorem d_C_hand_19 : decode c_C_hand 19 = .ok (.iastore, 1) := by decide +kernel
theorem d_C_hand_20 : decode c_C_hand 20 = .ok (.aload_n 0, 1) := by decide +kernel
theorem d_C_hand_21 : decode c_C_hand 21 = .ok (.getfield 25, 3) := by decide +kernel
theorem d_C_hand_24 : decode c_C_hand 24 = .ok (.aload_n 0, 1) := by decide +kernel
theorem d_C_hand_25 : decode c_C_hand 25 = .ok (.getfield 96, 3) := by decide +kernel
theorem d_C_hand_28 : decode c_C_hand 28 = .ok (.aaload, 1) := by decide +kernel
theorem d_C_hand_29 : decode c_C_hand 29 = .ok (.getfield 184, 3) := by decide +kernel
theorem d_C_hand_32 : decode c_C_hand 32 = .ok (.iload_n 2, 1) := by decide +kernel
theorem d_C_hand_33 : decode c_C_hand 33 = .ok (.dup2, 1) := by decide +kernel
theorem d_C_hand_34 : decode c_C_hand 34 = .ok (.iaload, 1) := by decide +kernel
theorem d_C_hand_35 : decode c_C_hand 35 = .ok (.iload_n 3, 1) := by decide +kernel
theorem d_C_hand_36 : decode c_C_hand 36 = .ok (.iadd, 1) := by decide +kernel
theorem d_C_hand_37 : decode c_C_hand 37 = .ok (.iastore, 1) := by decide +kernel
theorem d_C_hand_38 : decode c_C_hand 38 = .ok (.aload_n 0, 1) := by decide +kernel
theorem d_C_hand_39 : decode c_C_hand 39 = .ok (.getfield 25, 3) := by decide +kernel
theorem d_C_hand_42 : decode c_C_hand 42 = .ok (.aload_n 0, 1) := by decide +kernel
theorem d_C_hand_43 : decode c_C_hand 43 = .ok (.getfield 96, 3) := by decide +kernel
theorem d_C_hand_46 : decode c_C_hand 46 = .ok (.aaload, 1) := by decide +kernel
theorem d_C_hand_47 : decode c_C_hand 47 = .ok (.getfield 164, 3) := by decide +kernel
theorem d_C_hand_50 : decode c_C_hand 50 = .ok (.iload_n 2, 1) := by decide +kernel
theorem d_C_hand_51 : decode c_C_hand 51 = .ok (.iload_n 3, 1) := by decide +kernel
theorem d_C_hand_52 : decode c_C_hand 52 = .ok (.i2l, 1) := by decide +kernel
theorem d_C_hand_53 : decode c_C_hand 53 = .ok (.aload_n 0, 1) := by decide +kernel
theorem d_C_hand_54 : decode c_C_hand 54 = .ok (.getfield 19, 3) := by decide +kernel
theorem d_C_hand_57 : decode c_C_hand 57 = .ok (.getfield 216, 3) := by decide +kernel
theorem d_C_hand_60 : decode c_C_hand 60 = .ok (.getfield 174, 3) := by decide +kernel
theorem d_C_hand_63 : decode c_C_hand 63 = .ok (.iload_n 1, 1) := by decide +kernel
theorem d_C_hand_64 : decode c_C_hand 64 = .ok (.laload, 1) := by decide +kernel
theorem d_C_hand_65 : decode c_C_hand 65 = .ok (.lmul, 1) := by decide +kernel
theorem d_C_hand_66 : decode c_C_hand 66 = .ok (.aload_n 0, 1) := by decide +kernel
theorem d_C_hand_67 : decode c_C_hand 67 = .ok (.getfield 19, 3) := by decide +kernel
theorem d_C_hand_70 : decode c_C_hand 70 = .ok (.getfield 216, 3) := by decide +kernel
theorem d_C_hand_73 : decode c_C_hand 73 = .ok (.getfield 168, 3) := by decide +kernel
theorem d_C_hand_76 : decode c_C_hand 76 = .ok (.iload_n 1, 1) := by decide +kernel
theorem d_C_hand_77 : decode c_C_hand 77 = .ok (.laload, 1) := by decide +kernel
theorem d_C_hand_78 : decode c_C_hand 78 = .ok (.invokevirtual 235, 3) := by decide +kernel
theorem d_C_hand_81 : decode c_C_hand 81 = .ok (.return_, 1) := by decide +kernel
theorem d_C_firstContinuing_0 : decode c_C_firstContinuing 0 = .ok (.iconst 0, 1) := by decide +kernel
theorem d_C_firstContinuing_1 : decode c_C_firstContinuing 1 = .ok (.istore_n 3, 1) := by decide +kernel
theorem d_C_firstContinuing_2 : decode c_C_firstContinuing 2 = .ok (.iload_n 3, 1) := by decide +kernel
theorem d_C_firstContinuing_3 : decode c_C_firstContinuing 3 = .ok (.bipush 7, 2) := by decide +kernel
theorem d_C_firstContinuing_5 : decode c_C_firstContinuing 5 = .ok (.if_icmp .ge 40, 3) := by decide +kernel
theorem d_C_firstContinuing_8 : decode c_C_firstContinuing 8 = .ok (.lload_n 1, 1) := by decide +kernel
theorem d_C_firstContinuing_9 : decode c_C_firstContinuing 9 = .ok (.iload_n 3, 1) := by decide +kernel
theorem d_C_firstContinuing_10 : decode c_C_firstContinuing 10 = .ok (.invokestatic 194, 3) := by decide +kernel
theorem d_C_firstContinuing_13 : decode c_C_firstContinuing 13 = .ok (.istore 4, 2) := by decide +kernel
theorem d_C_firstContinuing_15 : decode c_C_firstContinuing 15 = .ok (.iload 4, 2) := by decide +kernel
theorem d_C_firstContinuing_17 : decode c_C_firstContinuing 17 = .ok (.iconst (-1), 1) := by decide +kernel
theorem d_C_firstContinuing_18 : decode c_C_firstContinuing 18 = .ok (.if_icmp .ne 6, 3) := by decide +kernel
theorem d_C_firstContinuing_21 : decode c_C_firstContinuing 21 = .ok (.goto 24, 3) := by decide +kernel
theorem d_C_firstContinuing_24 : decode c_C_firstContinuing 24 = .ok (.aload_n 0, 1) := by decide +kernel
theorem d_C_firstContinuing_25 : decode c_C_firstContinuing 25 = .ok (.getfield 12, 3) := by decide +kernel
theorem d_C_firstContinuing_28 : decode c_C_firstContinuing 28 = .ok (.iload 4, 2) := by decide +kernel
theorem d_C_firstContinuing_30 : decode c_C_firstContinuing 30 = .ok (.invokevirtual 58, 3) := by decide +kernel
theorem d_C_firstContinuing_33 : decode c_C_firstContinuing 33 = .ok (.ifCond .eq 6, 3) := by decide +kernel
theorem d_C_firstContinuing_36 : decode c_C_firstContinuing 36 = .ok (.iload 4, 2) := by decide +kernel
theorem d_C_firstContinuing_38 : decode c_C_firstContinuing 38 = .ok (.ireturn, 1) := by decide +kernel
theorem d_C_firstContinuing_39 : decode c_C_firstContinuing 39 = .ok (.iinc 3 1, 3) := by decide +kernel
theorem d_C_firstContinuing_42 : decode c_C_firstContinuing 42 = .ok (.goto (-40), 3) := by decide +kernel
theorem d_C_firstContinuing_45 : decode c_C_firstContinuing 45 = .ok (.aload_n 0, 1) := by decide +kernel
theorem d_C_firstContinuing_46 : decode c_C_firstContinuing 46 = .ok (.getfield 12, 3) := by decide +kernel
theorem d_C_firstContinuing_49 : decode c_C_firstContinuing 49 = .ok (.getfield 143, 3) := by decide +kernel
theorem d_C_firstContinuing_52 : decode c_C_firstContinuing 52 = .ok (.ireturn, 1) := by decide +kernel
theorem d_C_settle_0 : decode c_C_settle 0 = .ok (.aload_n 0, 1) := by decide +kernel
theorem d_C_settle_1 : decode c_C_settle 1 = .ok (.iconst 1, 1) := by decide +kernel
theorem d_C_settle_2 : decode c_C_settle 2 = .ok (.invokevirtual 238, 3) := by decide +kernel
theorem d_C_settle_5 : decode c_C_settle 5 = .ok (.aload_n 0, 1) := by decide +kernel
theorem d_C_settle_6 : decode c_C_settle 6 = .ok (.getfield 12, 3) := by decide +kernel
theorem d_C_settle_9 : decode c_C_settle 9 = .ok (.getfield 147, 3) := by decide +kernel
theorem d_C_settle_12 : decode c_C_settle 12 = .ok (.aload_n 0, 1) := by decide +kernel
theorem d_C_settle_13 : decode c_C_settle 13 = .ok (.getfield 65, 3) := by decide +kernel
theorem d_C_settle_16 : decode c_C_settle 16 = .ok (.if_icmp .ne 7, 3) := by decide +kernel
theorem d_C_settle_19 : decode c_C_settle 19 = .ok (.iconst 1, 1) := by decide +kernel
theorem d_C_settle_20 : decode c_C_settle 20 = .ok (.goto 4, 3) := by decide +kernel
theorem d_C_settle_23 : decode c_C_settle 23 = .ok (.iconst 0, 1) := by decide +kernel
theorem d_C_settle_24 : decode c_C_settle 24 = .ok (.istore_n 1, 1) := by decide +kernel
theorem d_C_settle_25 : decode c_C_settle 25 = .ok (.aload_n 0, 1) := by decide +kernel
theorem d_C_settle_26 : decode c_C_settle 26 = .ok (.getfield 12, 3) := by decide +kernel
theorem d_C_settle_29 : decode c_C_settle 29 = .ok (.getfield 147, 3) := by decide +kernel
theorem d_C_settle_32 : decode c_C_settle 32 = .ok (.aload_n 0, 1) := by decide +kernel
theorem d_C_settle_33 : decode c_C_settle 33 = .ok (.getfield 12, 3) := by decide +kernel
theorem d_C_settle_36 : decode c_C_settle 36 = .ok (.invokevirtual 61, 3) := by decide +kernel
theorem d_C_settle_39 : decode c_C_settle 39 = .ok (.iadd, 1) := by decide +kernel
theorem d_C_settle_40 : decode c_C_settle 40 = .ok (.aload_n 0, 1) := by decide +kernel
theorem d_C_settle_41 : decode c_C_settle 41 = .ok (.getfield 65, 3) := by decide +kernel
theorem d_C_settle_44 : decode c_C_settle 44 = .ok (.if_icmp .gt 7, 3) := by decide +kernel
theorem d_C_settle_47 : decode c_C_settle 47 = .ok (.iconst 1, 1) := by decide +kernel
theorem d_C_settle_48 : decode c_C_settle 48 = .ok (.goto 4, 3) := by decide +kernel
theorem d_C_settle_51 : decode c_C_settle 51 = .ok (.iconst 0, 1) := by decide +kernel
theorem d_C_settle_52 : decode c_C_settle 52 = .ok (.istore_n 2, 1) := by decide +kernel
theorem d_C_settle_53 : decode c_C_settle 53 = .ok (.iload_n 2, 1) := by decide +kernel
theorem d_C_settle_54 : decode c_C_settle 54 = .ok (.ifCond .eq 8, 3) := by decide +kernel
theorem d_C_settle_57 : decode c_C_settle 57 = .ok (.aload_n 0, 1) := by decide +kernel
theorem d_C_settle_58 : decode c_C_settle 58 = .ok (.iconst 0, 1) := by decide +kernel
theorem d_C_settle_59 : decode c_C_settle 59 = .ok (.invokevirtual 238, 3) := by decide +kernel
theorem d_C_settle_62 : decode c_C_settle 62 = .ok (.aload_n 0, 1) := by decide +kernel
theorem d_C_settle_63 : decode c_C_settle 63 = .ok (.iload_n 1, 1) := by decide +kernel
theorem d_C_settle_64 : decode c_C_settle 64 = .ok (.ifCond .ne 7, 3) := by decide +kernel
theorem d_C_settle_67 : decode c_C_settle 67 = .ok (.iload_n 2, 1) := by decide +kernel
theorem d_C_settle_68 : decode c_C_settle 68 = .ok (.ifCond .eq 7, 3) := by decide +kernel
theorem d_C_settle_71 : decode c_C_settle 71 = .ok (.iconst 1, 1) := by decide +kernel
theorem d_C_settle_72 : decode c_C_settle 72 = .ok (.goto 4, 3) := by decide +kernel
theorem d_C_settle_75 : decode c_C_settle 75 = .ok (.iconst 0, 1) := by decide +kernel
theorem d_C_settle_76 : decode c_C_settle 76 = .ok (.putfield 117, 3) := by decide +kernel
theorem d_C_settle_79 : decode c_C_settle 79 = .ok (.return_, 1) := by decide +kernel
theorem d_C_electInOrder_0 : decode c_C_electInOrder 0 = .ok (.iconst 0, 1) := by decide +kernel
theorem d_C_electInOrder_1 : decode c_C_electInOrder 1 = .ok (.istore_n 2, 1) := by decide +kernel
theorem d_C_electInOrder_2 : decode c_C_electInOrder 2 = .ok (.iload_n 2, 1) := by decide +kernel
theorem d_C_electInOrder_3 : decode c_C_electInOrder 3 = .ok (.aload_n 0, 1) := by decide +kernel
theorem d_C_electInOrder_4 : decode c_C_electInOrder 4 = .ok (.getfield 12, 3) := by decide +kernel
theorem d_C_electInOrder_7 : decode c_C_electInOrder 7 = .ok (.getfield 143, 3) := by decide +kernel
theorem d_C_electInOrder_10 : decode c_C_electInOrder 10 = .ok (.if_icmp .ge 43, 3) := by decide +kernel
theorem d_C_electInOrder_13 : decode c_C_electInOrder 13 = .ok (.aload_n 0, 1) := by decide +kernel
theorem d_C_electInOrder_14 : decode c_C_electInOrder 14 = .ok (.iconst 0, 1) := by decide +kernel
theorem d_C_electInOrder_15 : decode c_C_electInOrder 15 = .ok (.invokevirtual 123, 3) := by decide +kernel
theorem d_C_electInOrder_18 : decode c_C_electInOrder 18 = .ok (.istore_n 3, 1) := by decide +kernel
theorem d_C_electInOrder_19 : decode c_C_electInOrder 19 = .ok (.iload_n 3, 1) := by decide +kernel
theorem d_C_electInOrder_20 : decode c_C_electInOrder 20 = .ok (.iconst (-1), 1) := by decide +kernel
theorem d_C_electInOrder_21 : decode c_C_electInOrder 21 = .ok (.if_icmp .eq 32, 3) := by decide +kernel
theorem d_C_electInOrder_24 : decode c_C_electInOrder 24 = .ok (.iload_n 1, 1) := by decide +kernel
theorem d_C_electInOrder_25 : decode c_C_electInOrder 25 = .ok (.ifCond .eq 14, 3) := by decide +kernel
theorem d_C_electInOrder_28 : decode c_C_electInOrder 28 = .ok (.aload_n 0, 1) := by decide +kernel
theorem d_C_electInOrder_29 : decode c_C_electInOrder 29 = .ok (.iload_n 3, 1) := by decide +kernel
theorem d_C_electInOrder_30 : decode c_C_electInOrder 30 = .ok (.invokevirtual 127, 3) := by decide +kernel
theorem d_C_electInOrder_33 : decode c_C_electInOrder 33 = .ok (.ifCond .ne 6, 3) := by decide +kernel
theorem d_C_electInOrder_36 : decode c_C_electInOrder 36 = .ok (.goto 17, 3) := by decide +kernel
theorem d_C_electInOrder_39 : decode c_C_electInOrder 39 = .ok (.aload_n 0, 1) := by decide +kernel
theorem d_C_electInOrder_40 : decode c_C_electInOrder 40 = .ok (.getfield 12, 3) := by decide +kernel
theorem d_C_electInOrder_43 : decode c_C_electInOrder 43 = .ok (.iload_n 3, 1) := by decide +kernel
theorem d_C_electInOrder_44 : decode c_C_electInOrder 44 = .ok (.invokevirtual 242, 3) := by decide +kernel
theorem d_C_electInOrder_47 : decode c_C_electInOrder 47 = .ok (.iinc 2 1, 3) := by decide +kernel
theorem d_C_electInOrder_50 : decode c_C_electInOrder 50 = .ok (.goto (-48), 3) := by decide +kernel
theorem d_C_electInOrder_53 : decode c_C_electInOrder 53 = .ok (.return_, 1) := by decide +kernel
theorem d_C_foremost_0 : decode c_C_foremost 0 = .ok (.iconst (-1), 1) := by decide +kernel
theorem d_C_foremost_1 : decode c_C_foremost 1 = .ok (.istore_n 2, 1) := by decide +kernel
theorem d_C_foremost_2 : decode c_C_foremost 2 = .ok (.iconst 0, 1) := by decide +kernel
theorem d_C_foremost_3 : decode c_C_foremost 3 = .ok (.istore_n 3, 1) := by decide +kernel
theorem d_C_foremost_4 : decode c_C_foremost 4 = .ok (.iload_n 3, 1) := by decide +kernel
theorem d_C_foremost_5 : decode c_C_foremost 5 = .ok (.aload_n 0, 1) := by decide +kernel
theorem d_C_foremost_6 : decode c_C_foremost 6 = .ok (.getfield 12, 3) := by decide +kernel
theorem d_C_foremost_9 : decode c_C_foremost 9 = .ok (.getfield 143, 3) := by decide +kernel
theorem d_C_foremost_12 : decode c_C_foremost 12 = .ok (.if_icmp .ge 55, 3) := by decide +kernel
theorem d_C_foremost_15 : decode c_C_foremost 15 = .ok (.iload_n 1, 1) := by decide +kernel
theorem d_C_foremost_16 : decode c_C_foremost 16 = .ok (.ifCond .eq 14, 3) := by decide +kernel
theorem d_C_foremost_19 : decode c_C_foremost 19 = .ok (.aload_n 0, 1) := by decide +kernel
theorem d_C_foremost_20 : decode c_C_foremost 20 = .ok (.getfield 12, 3) := by decide +kernel
theorem d_C_foremost_23 : decode c_C_foremost 23 = .ok (.iload_n 3, 1) := by decide +kernel
theorem d_C_foremost_24 : decode c_C_foremost 24 = .ok (.invokevirtual 245, 3) := by decide +kernel
theorem d_C_foremost_27 : decode c_C_foremost 27 = .ok (.goto 11, 3) := by decide +kernel
theorem d_C_foremost_30 : decode c_C_foremost 30 = .ok (.aload_n 0, 1) := by decide +kernel
theorem d_C_foremost_31 : decode c_C_foremost 31 = .ok (.getfield 12, 3) := by decide +kernel
theorem d_C_foremost_34 : decode c_C_foremost 34 = .ok (.iload_n 3, 1) := by decide +kernel
theorem d_C_foremost_35 : decode c_C_foremost 35 = .ok (.invokevirtual 58, 3) := by decide +kernel
theorem d_C_foremost_38 : decode c_C_foremost 38 = .ok (.istore 4, 2) := by decide +kernel
theorem d_C_foremost_40 : decode c_C_foremost 40 = .ok (.iload 4, 2) := by decide +kernel
theorem d_C_foremost_42 : decode c_C_foremost 42 = .ok (.ifCond .eq 19, 3) := by decide +kernel
theorem d_C_foremost_45 : decode c_C_foremost 45 = .ok (.iload_n 2, 1) := by decide +kernel
theorem d_C_foremost_46 : decode c_C_foremost 46 = .ok (.iconst (-1), 1) := by decide +kernel
theorem d_C_foremost_47 : decode c_C_foremost 47 = .ok (.if_icmp .eq 12, 3) := by decide +kernel
theorem d_C_foremost_50 : decode c_C_foremost 50 = .ok (.aload_n 0, 1) := by decide +kernel
theorem d_C_foremost_51 : decode c_C_foremost 51 = .ok (.iload_n 3, 1) := by decide +kernel
theorem d_C_foremost_52 : decode c_C_foremost 52 = .ok (.iload_n 2, 1) := by decide +kernel
theorem d_C_foremost_53 : decode c_C_foremost 53 = .ok (.invokevirtual 248, 3) := by decide +kernel
theorem d_C_foremost_56 : decode c_C_foremost 56 = .ok (.ifCond .eq 5, 3) := by decide +kernel
theorem d_C_foremost_59 : decode c_C_foremost 59 = .ok (.iload_n 3, 1) := by decide +kernel
theorem d_C_foremost_60 : decode c_C_foremost 60 = .ok (.istore_n 2, 1) := by decide +kernel
theorem d_C_foremost_61 : decode c_C_foremost 61 = .ok (.iinc 3 1, 3) := by decide +kernel
theorem d_C_foremost_64 : decode c_C_foremost 64 = .ok (.goto (-60), 3) := by decide +kernel
theorem d_C_foremost_67 : decode c_C_foremost 67 = .ok (.iload_n 2, 1) := by decide +kernel
theorem d_C_foremost_68 : decode c_C_foremost 68 = .ok (.ireturn, 1) := by decide +kernel
theorem d_C_hindmost_0 : decode c_C_hindmost 0 = .ok (.iconst (-1), 1) := by decide +kernel
theorem d_C_hindmost_1 : decode c_C_hindmost 1 = .ok (.istore_n 1, 1) := by decide +kernel
theorem d_C_hindmost_2 : decode c_C_hindmost 2 = .ok (.iconst 0, 1) := by decide +kernel
theorem d_C_hindmost_3 : decode c_C_hindmost 3 = .ok (.istore_n 2, 1) := by decide +kernel
theorem d_C_hindmost_4 : decode c_C_hindmost 4 = .ok (.iload_n 2, 1) := by decide +kernel
theorem d_C_hindmost_5 : decode c_C_hindmost 5 = .ok (.aload_n 0, 1) := by decide +kernel
theorem d_C_hindmost_6 : decode c_C_hindmost 6 = .ok (.getfield 12, 3) := by decide +kernel
theorem d_C_hindmost_9 : decode c_C_hindmost 9 = .ok (.getfield 143, 3) := by decide +kernel
theorem d_C_hindmost_12 : decode c_C_hindmost 12 = .ok (.if_icmp .ge 36, 3) := by decide +kernel
theorem d_C_hindmost_15 : decode c_C_hindmost 15 = .ok (.aload_n 0, 1) := by decide +kernel
theorem d_C_hindmost_16 : decode c_C_hindmost 16 = .ok (.getfield 12, 3) := by decide +kernel
theorem d_C_hindmost_19 : decode c_C_hindmost 19 = .ok (.iload_n 2, 1) := by decide +kernel
theorem d_C_hindmost_20 : decode c_C_hindmost 20 = .ok (.invokevirtual 58, 3) := by decide +kernel
theorem d_C_hindmost_23 : decode c_C_hindmost 23 = .ok (.ifCond .eq 19, 3) := by decide +kernel
theorem d_C_hindmost_26 : decode c_C_hindmost 26 = .ok (.iload_n 1, 1) := by decide +kernel
theorem d_C_hindmost_27 : decode c_C_hindmost 27 = .ok (.iconst (-1), 1) := by decide +kernel
theorem d_C_hindmost_28 : decode c_C_hindmost 28 = .ok (.if_icmp .eq 12, 3) := by decide +kernel
theorem d_C_hindmost_31 : decode c_C_hindmost 31 = .ok (.aload_n 0, 1) := by decide +kernel
theorem d_C_hindmost_32 : decode c_C_hindmost 32 = .ok (.iload_n 1, 1) := by decide +kernel
theorem d_C_hindmost_33 : decode c_C_hindmost 33 = .ok (.iload_n 2, 1) := by decide +kernel
theorem d_C_hindmost_34 : decode c_C_hindmost 34 = .ok (.invokevirtual 248, 3) := by decide +kernel
theorem d_C_hindmost_37 : decode c_C_hindmost 37 = .ok (.ifCond .eq 5, 3) := by decide +kernel
theorem d_C_hindmost_40 : decode c_C_hindmost 40 = .ok (.iload_n 2, 1) := by decide +kernel
theorem d_C_hindmost_41 : decode c_C_hindmost 41 = .ok (.istore_n 1, 1) := by decide +kernel
theorem d_C_hindmost_42 : decode c_C_hindmost 42 = .ok (.iinc 2 1, 3) := by decide +kernel
theorem d_C_hindmost_45 : decode c_C_hindmost 45 = .ok (.goto (-41), 3) := by decide +kernel
theorem d_C_hindmost_48 : decode c_C_hindmost 48 = .ok (.iload_n 1, 1) := by decide +kernel
theorem d_C_hindmost_49 : decode c_C_hindmost 49 = .ok (.ireturn, 1) := by decide +kernel
theorem d_C_isAhead_0 : decode c_C_isAhead 0 = .ok (.aload_n 0, 1) := by decide +kernel
theorem d_C_isAhead_1 : decode c_C_isAhead 1 = .ok (.getfield 96, 3) := by decide +kernel
theorem d_C_isAhead_4 : decode c_C_isAhead 4 = .ok (.istore_n 3, 1) := by decide +kernel
theorem d_C_isAhead_5 : decode c_C_isAhead 5 = .ok (.iload_n 3, 1) := by decide +kernel
theorem d_C_isAhead_6 : decode c_C_isAhead 6 = .ok (.ifCond .lt 58, 3) := by decide +kernel
theorem d_C_isAhead_9 : decode c_C_isAhead 9 = .ok (.aload_n 0, 1) := by decide +kernel
theorem d_C_isAhead_10 : decode c_C_isAhead 10 = .ok (.getfield 25, 3) := by decide +kernel
theorem d_C_isAhead_13 : decode c_C_isAhead 13 = .ok (.iload_n 3, 1) := by decide +kernel
theorem d_C_isAhead_14 : decode c_C_isAhead 14 = .ok (.aaload, 1) := by decide +kernel
theorem d_C_isAhead_15 : decode c_C_isAhead 15 = .ok (.getfield 164, 3) := by decide +kernel
theorem d_C_isAhead_18 : decode c_C_isAhead 18 = .ok (.astore 4, 2) := by decide +kernel
theorem d_C_isAhead_20 : decode c_C_isAhead 20 = .ok (.aload 4, 2) := by decide +kernel
theorem d_C_isAhead_22 : decode c_C_isAhead 22 = .ok (.iload_n 1, 1) := by decide +kernel
theorem d_C_isAhead_23 : decode c_C_isAhead 23 = .ok (.aload 4, 2) := by decide +kernel
theorem d_C_isAhead_25 : decode c_C_isAhead 25 = .ok (.getfield 174, 3) := by decide +kernel
theorem d_C_isAhead_28 : decode c_C_isAhead 28 = .ok (.iload_n 2, 1) := by decide +kernel
theorem d_C_isAhead_29 : decode c_C_isAhead 29 = .ok (.laload, 1) := by decide +kernel
theorem d_C_isAhead_30 : decode c_C_isAhead 30 = .ok (.aload 4, 2) := by decide +kernel
theorem d_C_isAhead_32 : decode c_C_isAhead 32 = .ok (.getfield 168, 3) := by decide +kernel
theorem d_C_isAhead_35 : decode c_C_isAhead 35 = .ok (.iload_n 2, 1) := by decide +kernel
theorem d_C_isAhead_36 : decode c_C_isAhead 36 = .ok (.laload, 1) := by decide +kernel
theorem d_C_isAhead_37 : decode c_C_isAhead 37 = .ok (.invokevirtual 204, 3) := by decide +kernel
theorem d_C_isAhead_40 : decode c_C_isAhead 40 = .ok (.istore 5, 2) := by decide +kernel
theorem d_C_isAhead_42 : decode c_C_isAhead 42 = .ok (.iload 5, 2) := by decide +kernel
theorem d_C_isAhead_44 : decode c_C_isAhead 44 = .ok (.ifCond .eq 14, 3) := by decide +kernel
theorem d_C_isAhead_47 : decode c_C_isAhead 47 = .ok (.iload 5, 2) := by decide +kernel
theorem d_C_isAhead_49 : decode c_C_isAhead 49 = .ok (.ifCond .le 7, 3) := by decide +kernel
theorem d_C_isAhead_52 : decode c_C_isAhead 52 = .ok (.iconst 1, 1) := by decide +kernel
theorem d_C_isAhead_53 : decode c_C_isAhead 53 = .ok (.goto 4, 3) := by decide +kernel
theorem d_C_isAhead_56 : decode c_C_isAhead 56 = .ok (.iconst 0, 1) := by decide +kernel
theorem d_C_isAhead_57 : decode c_C_isAhead 57 = .ok (.ireturn, 1) := by decide +kernel
theorem d_C_isAhead_58 : decode c_C_isAhead 58 = .ok (.iinc 3 (-1), 3) := by decide +kernel
theorem d_C_isAhead_61 : decode c_C_isAhead 61 = .ok (.goto (-56), 3) := by decide +kernel
theorem d_C_isAhead_64 : decode c_C_isAhead 64 = .ok (.aload_n 0, 1) := by decide +kernel
theorem d_C_isAhead_65 : decode c_C_isAhead 65 = .ok (.getfield 12, 3) := by decide +kernel
theorem d_C_isAhead_68 : decode c_C_isAhead 68 = .ok (.getfield 54, 3) := by decide +kernel
theorem d_C_isAhead_71 : decode c_C_isAhead 71 = .ok (.iload_n 1, 1) := by decide +kernel
theorem d_C_isAhead_72 : decode c_C_isAhead 72 = .ok (.iaload, 1) := by decide +kernel
theorem d_C_isAhead_73 : decode c_C_isAhead 73 = .ok (.aload_n 0, 1) := by decide +kernel
theorem d_C_isAhead_74 : decode c_C_isAhead 74 = .ok (.getfield 12, 3) := by decide +kernel
theorem d_C_isAhead_77 : decode c_C_isAhead 77 = .ok (.getfield 54, 3) := by decide +kernel
theorem d_C_isAhead_80 : decode c_C_isAhead 80 = .ok (.iload_n 2, 1) := by decide +kernel
theorem d_C_isAhead_81 : decode c_C_isAhead 81 = .ok (.iaload, 1) := by decide +kernel
theorem d_C_isAhead_82 : decode c_C_isAhead 82 = .ok (.if_icmp .ge 7, 3) := by decide +kernel
theorem d_C_isAhead_85 : decode c_C_isAhead 85 = .ok (.iconst 1, 1) := by decide +kernel
theorem d_C_isAhead_86 : decode c_C_isAhead 86 = .ok (.goto 4, 3) := by decide +kernel
theorem d_C_isAhead_89 : decode c_C_isAhead 89 = .ok (.iconst 0, 1) := by decide +kernel
theorem d_C_isAhead_90 : decode c_C_isAhead 90 = .ok (.ireturn, 1) := by decide +kernel
theorem d_C_commonDivisor_0 : decode c_C_commonDivisor 0 = .ok (.lload_n 0, 1) := by decide +kernel
theorem d_C_commonDivisor_1 : decode c_C_commonDivisor 1 = .ok (.lstore 4, 2) := by decide +kernel
theorem d_C_commonDivisor_3 : decode c_C_commonDivisor 3 = .ok (.lload_n 2, 1) := by decide +kernel
theorem d_C_commonDivisor_4 : decode c_C_commonDivisor 4 = .ok (.lstore 6, 2) := by decide +kernel
theorem d_C_commonDivisor_6 : decode c_C_commonDivisor 6 = .ok (.iconst 0, 1) := by decide +kernel
theorem d_C_commonDivisor_7 : decode c_C_commonDivisor 7 = .ok (.istore 8, 2) := by decide +kernel
theorem d_C_commonDivisor_9 : decode c_C_commonDivisor 9 = .ok (.iload 8, 2) := by decide +kernel
theorem d_C_commonDivisor_11 : decode c_C_commonDivisor 11 = .ok (.bipush 100, 2) := by decide +kernel
theorem d_C_commonDivisor_13 : decode c_C_commonDivisor 13 = .ok (.if_icmp .ge 31, 3) := by decide +kernel
theorem d_C_commonDivisor_16 : decode c_C_commonDivisor 16 = .ok (.lload 6, 2) := by decide +kernel
theorem d_C_commonDivisor_18 : decode c_C_commonDivisor 18 = .ok (.lconst 0, 1) := by decide +kernel
theorem d_C_commonDivisor_19 : decode c_C_commonDivisor 19 = .ok (.lcmp, 1) := by decide +kernel
theorem d_C_commonDivisor_20 : decode c_C_commonDivisor 20 = .ok (.ifCond .eq 24, 3) := by decide +kernel
theorem d_C_commonDivisor_23 : decode c_C_commonDivisor 23 = .ok (.lload 4, 2) := by decide +kernel
theorem d_C_commonDivisor_25 : decode c_C_commonDivisor 25 = .ok (.lload 6, 2) := by decide +kernel
theorem d_C_commonDivisor_27 : decode c_C_commonDivisor 27 = .ok (.lrem, 1) := by decide +kernel
theorem d_C_commonDivisor_28 : decode c_C_commonDivisor 28 = .ok (.lstore 9, 2) := by decide +kernel
theorem d_C_commonDivisor_30 : decode c_C_commonDivisor 30 = .ok (.lload 6, 2) := by decide +kernel
theorem d_C_commonDivisor_32 : decode c_C_commonDivisor 32 = .ok (.lstore 4, 2) := by decide +kernel
theorem d_C_commonDivisor_34 : decode c_C_commonDivisor 34 = .ok (.lload 9, 2) := by decide +kernel
theorem d_C_commonDivisor_36 : decode c_C_commonDivisor 36 = .ok (.lstore 6, 2) := by decide +kernel
theorem d_C_commonDivisor_38 : decode c_C_commonDivisor 38 = .ok (.iinc 8 1, 3) := by decide +kernel
theorem d_C_commonDivisor_41 : decode c_C_commonDivisor 41 = .ok (.goto (-32), 3) := by decide +kernel
theorem d_C_commonDivisor_44 : decode c_C_commonDivisor 44 = .ok (.lload 4, 2) := by decide +kernel
theorem d_C_commonDivisor_46 : decode c_C_commonDivisor 46 = .ok (.lconst 0, 1) := by decide +kernel
theorem d_C_commonDivisor_47 : decode c_C_commonDivisor 47 = .ok (.lcmp, 1) := by decide +kernel
theorem d_C_commonDivisor_48 : decode c_C_commonDivisor 48 = .ok (.ifCond .ne 7, 3) := by decide +kernel
theorem d_C_commonDivisor_51 : decode c_C_commonDivisor 51 = .ok (.lconst 1, 1) := by decide +kernel
theorem d_C_commonDivisor_52 : decode c_C_commonDivisor 52 = .ok (.goto 5, 3) := by decide +kernel
theorem d_C_commonDivisor_55 : decode c_C_commonDivisor 55 = .ok (.lload 4, 2) := by decide +kernel
theorem d_C_commonDivisor_57 : decode c_C_commonDivisor 57 = .ok (.lreturn, 1) := by decide +kernel
theorem d_F_init_0 : decode c_F_init 0 = .ok (.aload_n 0, 1) := by decide +kernel
theorem d_F_init_1 : decode c_F_init 1 = .ok (.invokespecial 1, 3) := by decide +kernel
theorem d_F_init_4 : decode c_F_init 4 = .ok (.aload_n 0, 1) := by decide +kernel
theorem d_F_init_5 : decode c_F_init 5 = .ok (.iload_n 1, 1) := by decide +kernel
theorem d_F_init_6 : decode c_F_init 6 = .ok (.newarray .long, 2) := by decide +kernel
theorem d_F_init_8 : decode c_F_init 8 = .ok (.putfield 7, 3) := by decide +kernel
theorem d_F_init_11 : decode c_F_init 11 = .ok (.aload_n 0, 1) := by decide +kernel
theorem d_F_init_12 : decode c_F_init 12 = .ok (.iload_n 1, 1) := by decide +kernel
theorem d_F_init_13 : decode c_F_init 13 = .ok (.newarray .long, 2) := by decide +kernel
theorem d_F_init_15 : decode c_F_init 15 = .ok (.putfield 13, 3) := by decide +kernel
theorem d_F_init_18 : decode c_F_init 18 = .ok (.aload_n 0, 1) := by decide +kernel
theorem d_F_init_19 : decode c_F_init 19 = .ok (.getfield 13, 3) := by decide +kernel
theorem d_F_init_22 : decode c_F_init 22 = .ok (.lconst 1, 1) := by decide +kernel
theorem d_F_init_23 : decode c_F_init 23 = .ok (.invokestatic 16, 3) := by decide +kernel
theorem d_F_init_26 : decode c_F_init 26 = .ok (.return_, 1) := by decide +kernel
theorem d_F_clear_0 : decode c_F_clear 0 = .ok (.aload_n 0, 1) := by decide +kernel
theorem d_F_clear_1 : decode c_F_clear 1 = .ok (.getfield 7, 3) := by decide +kernel
theorem d_F_clear_4 : decode c_F_clear 4 = .ok (.lconst 0, 1) := by decide +kernel
theorem d_F_clear_5 : decode c_F_clear 5 = .ok (.invokestatic 16, 3) := by decide +kernel
theorem d_F_clear_8 : decode c_F_clear 8 = .ok (.aload_n 0, 1) := by decide +kernel
theorem d_F_clear_9 : decode c_F_clear 9 = .ok (.getfield 13, 3) := by decide +kernel
theorem d_F_clear_12 : decode c_F_clear 12 = .ok (.lconst 1, 1) := by decide +kernel
theorem d_F_clear_13 : decode c_F_clear 13 = .ok (.invokestatic 16, 3) := by decide +kernel
theorem d_F_clear_16 : decode c_F_clear 16 = .ok (.return_, 1) := by decide +kernel
theorem d_F_copy_0 : decode c_F_copy 0 = .ok (.aload_n 1, 1) := by decide +kernel
theorem d_F_copy_1 : decode c_F_copy 1 = .ok (.getfield 7, 3) := by decide +kernel
theorem d_F_copy_4 : decode c_F_copy 4 = .ok (.iconst 0, 1) := by decide +kernel
theorem d_F_copy_5 : decode c_F_copy 5 = .ok (.aload_n 0, 1) := by decide +kernel
theorem d_F_copy_6 : decode c_F_copy 6 = .ok (.getfield 7, 3) := by decide +kernel
theorem d_F_copy_9 : decode c_F_copy 9 = .ok (.iconst 0, 1) := by decide +kernel
theorem d_F_copy_10 : decode c_F_copy 10 = .ok (.aload_n 0, 1) := by decide +kernel
theorem d_F_copy_11 : decode c_F_copy 11 = .ok (.getfield 7, 3) := by decide +kernel
theorem d_F_copy_14 : decode c_F_copy 14 = .ok (.arraylength, 1) := by decide +kernel
theorem d_F_copy_15 : decode c_F_copy 15 = .ok (.invokestatic 22, 3) := by decide +kernel
theorem d_F_copy_18 : decode c_F_copy 18 = .ok (.aload_n 1, 1) := by decide +kernel
theorem d_F_copy_19 : decode c_F_copy 19 = .ok (.getfield 13, 3) := by decide +kernel
theorem d_F_copy_22 : decode c_F_copy 22 = .ok (.iconst 0, 1) := by decide +kernel
theorem d_F_copy_23 : decode c_F_copy 23 = .ok (.aload_n 0, 1) := by decide +kernel
theorem d_F_copy_24 : decode c_F_copy 24 = .ok (.getfield 13, 3) := by decide +kernel
theorem d_F_copy_27 : decode c_F_copy 27 = .ok (.iconst 0, 1) := by decide +kernel
theorem d_F_copy_28 : decode c_F_copy 28 = .ok (.aload_n 0, 1) := by decide +kernel
theorem d_F_copy_29 : decode c_F_copy 29 = .ok (.getfield 13, 3) := by decide +kernel
theorem d_F_copy_32 : decode c_F_copy 32 = .ok (.arraylength, 1) := by decide +kernel
theorem d_F_copy_33 : decode c_F_copy 33 = .ok (.invokestatic 22, 3) := by decide +kernel
theorem d_F_copy_36 : decode c_F_copy 36 = .ok (.return_, 1) := by decide +kernel
theorem d_F_put_0 : decode c_F_put 0 = .ok (.lload_n 2, 1) := by decide +kernel
theorem d_F_put_1 : decode c_F_put 1 = .ok (.lload 4, 2) := by decide +kernel
theorem d_F_put_3 : decode c_F_put 3 = .ok (.invokestatic 28, 3) := by decide +kernel
theorem d_F_put_6 : decode c_F_put 6 = .ok (.lstore 6, 2) := by decide +kernel
theorem d_F_put_8 : decode c_F_put 8 = .ok (.aload_n 0, 1) := by decide +kernel
theorem d_F_put_9 : decode c_F_put 9 = .ok (.getfield 7, 3) := by decide +kernel
theorem d_F_put_12 : decode c_F_put 12 = .ok (.iload_n 1, 1) := by decide +kernel
theorem d_F_put_13 : decode c_F_put 13 = .ok (.lload_n 2, 1) := by decide +kernel
theorem d_F_put_14 : decode c_F_put 14 = .ok (.lload 6, 2) := by decide +kernel
theorem d_F_put_16 : decode c_F_put 16 = .ok (.ldiv, 1) := by decide +kernel
theorem d_F_put_17 : decode c_F_put 17 = .ok (.lastore, 1) := by decide +kernel
theorem d_F_put_18 : decode c_F_put 18 = .ok (.aload_n 0, 1) := by decide +kernel
theorem d_F_put_19 : decode c_F_put 19 = .ok (.getfield 13, 3) := by decide +kernel
theorem d_F_put_22 : decode c_F_put 22 = .ok (.iload_n 1, 1) := by decide +kernel
theorem d_F_put_23 : decode c_F_put 23 = .ok (.lload 4, 2) := by decide +kernel
theorem d_F_put_25 : decode c_F_put 25 = .ok (.lload 6, 2) := by decide +kernel
theorem d_F_put_27 : decode c_F_put 27 = .ok (.ldiv, 1) := by decide +kernel
theorem d_F_put_28 : decode c_F_put 28 = .ok (.lastore, 1) := by decide +kernel
theorem d_F_put_29 : decode c_F_put 29 = .ok (.return_, 1) := by decide +kernel
theorem d_F_add_0 : decode c_F_add 0 = .ok (.aload_n 0, 1) := by decide +kernel
theorem d_F_add_1 : decode c_F_add 1 = .ok (.getfield 13, 3) := by decide +kernel
theorem d_F_add_4 : decode c_F_add 4 = .ok (.iload_n 1, 1) := by decide +kernel
theorem d_F_add_5 : decode c_F_add 5 = .ok (.laload, 1) := by decide +kernel
theorem d_F_add_6 : decode c_F_add 6 = .ok (.lload 4, 2) := by decide +kernel
theorem d_F_add_8 : decode c_F_add 8 = .ok (.invokestatic 28, 3) := by decide +kernel
theorem d_F_add_11 : decode c_F_add 11 = .ok (.lstore 6, 2) := by decide +kernel
theorem d_F_add_13 : decode c_F_add 13 = .ok (.aload_n 0, 1) := by decide +kernel
theorem d_F_add_14 : decode c_F_add 14 = .ok (.getfield 13, 3) := by decide +kernel
theorem d_F_add_17 : decode c_F_add 17 = .ok (.iload_n 1, 1) := by decide +kernel
theorem d_F_add_18 : decode c_F_add 18 = .ok (.laload, 1) := by decide +kernel
theorem d_F_add_19 : decode c_F_add 19 = .ok (.lload 6, 2) := by decide +kernel
theorem d_F_add_21 : decode c_F_add 21 = .ok (.ldiv, 1) := by decide +kernel
theorem d_F_add_22 : decode c_F_add 22 = .ok (.lstore 8, 2) := by decide +kernel
theorem d_F_add_24 : decode c_F_add 24 = .ok (.aload_n 0, 1) := by decide +kernel
theorem d_F_add_25 : decode c_F_add 25 = .ok (.iload_n 1, 1) := by decide +kernel
theorem d_F_add_26 : decode c_F_add 26 = .ok (.aload_n 0, 1) := by decide +kernel
theorem d_F_add_27 : decode c_F_add 27 = .ok (.getfield 7, 3) := by decide +kernel
theorem d_F_add_30 : decode c_F_add 30 = .ok (.iload_n 1, 1) := by decide +kernel
theorem d_F_add_31 : decode c_F_add 31 = .ok (.laload, 1) := by decide +kernel
theorem d_F_add_32 : decode c_F_add 32 = .ok (.lload 4, 2) := by decide +kernel
theorem d_F_add_34 : decode c_F_add 34 = .ok (.lload 6, 2) := by decide +kernel
theorem d_F_add_36 : decode c_F_add 36 = .ok (.ldiv, 1) := by decide +kernel
theorem d_F_add_37 : decode c_F_add 37 = .ok (.lmul, 1) := by decide +kernel
theorem d_F_add_38 : decode c_F_add 38 = .ok (.lload_n 2, 1) := by decide +kernel
theorem d_F_add_39 : decode c_F_add 39 = .ok (.lload 8, 2) := by decide +kernel
theorem d_F_add_41 : decode c_F_add 41 = .ok (.lmul, 1) := by decide +kernel
theorem d_F_add_42 : decode c_F_add 42 = .ok (.ladd, 1) := by decide +kernel
theorem d_F_add_43 : decode c_F_add 43 = .ok (.lload 4, 2) := by decide +kernel
theorem d_F_add_45 : decode c_F_add 45 = .ok (.lload 8, 2) := by decide +kernel
theorem d_F_add_47 : decode c_F_add 47 = .ok (.lmul, 1) := by decide +kernel
theorem d_F_add_48 : decode c_F_add 48 = .ok (.invokevirtual 34, 3) := by decide +kernel
theorem d_F_add_51 : decode c_F_add 51 = .ok (.return_, 1) := by decide +kernel
theorem d_F_multiply_0 : decode c_F_multiply 0 = .ok (.aload_n 0, 1) := by decide +kernel
theorem d_F_multiply_1 : decode c_F_multiply 1 = .ok (.iload_n 1, 1) := by decide +kernel
theorem d_F_multiply_2 : decode c_F_multiply 2 = .ok (.aload_n 0, 1) := by decide +kernel
theorem d_F_multiply_3 : decode c_F_multiply 3 = .ok (.getfield 7, 3) := by decide +kernel
theorem d_F_multiply_6 : decode c_F_multiply 6 = .ok (.iload_n 1, 1) := by decide +kernel
theorem d_F_multiply_7 : decode c_F_multiply 7 = .ok (.laload, 1) := by decide +kernel
theorem d_F_multiply_8 : decode c_F_multiply 8 = .ok (.lload_n 2, 1) := by decide +kernel
theorem d_F_multiply_9 : decode c_F_multiply 9 = .ok (.lmul, 1) := by decide +kernel
theorem d_F_multiply_10 : decode c_F_multiply 10 = .ok (.aload_n 0, 1) := by decide +kernel
theorem d_F_multiply_11 : decode c_F_multiply 11 = .ok (.getfield 13, 3) := by decide +kernel
theorem d_F_multiply_14 : decode c_F_multiply 14 = .ok (.iload_n 1, 1) := by decide +kernel
theorem d_F_multiply_15 : decode c_F_multiply 15 = .ok (.laload, 1) := by decide +kernel
theorem d_F_multiply_16 : decode c_F_multiply 16 = .ok (.lload 4, 2) := by decide +kernel
theorem d_F_multiply_18 : decode c_F_multiply 18 = .ok (.lmul, 1) := by decide +kernel
theorem d_F_multiply_19 : decode c_F_multiply 19 = .ok (.invokevirtual 34, 3) := by decide +kernel
theorem d_F_multiply_22 : decode c_F_multiply 22 = .ok (.return_, 1) := by decide +kernel
theorem d_F_compare_0 : decode c_F_compare 0 = .ok (.aload_n 0, 1) := by decide +kernel
theorem d_F_compare_1 : decode c_F_compare 1 = .ok (.getfield 13, 3) := by decide +kernel
theorem d_F_compare_4 : decode c_F_compare 4 = .ok (.iload_n 1, 1) := by decide +kernel
theorem d_F_compare_5 : decode c_F_compare 5 = .ok (.laload, 1) := by decide +kernel
theorem d_F_compare_6 : decode c_F_compare 6 = .ok (.lload 4, 2) := by decide +kernel
theorem d_F_compare_8 : decode c_F_compare 8 = .ok (.invokestatic 28, 3) := by decide +kernel
theorem d_F_compare_11 : decode c_F_compare 11 = .ok (.lstore 6, 2) := by decide +kernel
theorem d_F_compare_13 : decode c_F_compare 13 = .ok (.aload_n 0, 1) := by decide +kernel
theorem d_F_compare_14 : decode c_F_compare 14 = .ok (.getfield 7, 3) := by decide +kernel
theorem d_F_compare_17 : decode c_F_compare 17 = .ok (.iload_n 1, 1) := by decide +kernel
theorem d_F_compare_18 : decode c_F_compare 18 = .ok (.laload, 1) := by decide +kernel
theorem d_F_compare_19 : decode c_F_compare 19 = .ok (.lload 4, 2) := by decide +kernel
theorem d_F_compare_21 : decode c_F_compare 21 = .ok (.lload 6, 2) := by decide +kernel
theorem d_F_compare_23 : decode c_F_compare 23 = .ok (.ldiv, 1) := by decide +kernel
theorem d_F_compare_24 : decode c_F_compare 24 = .ok (.lmul, 1) := by decide +kernel
theorem d_F_compare_25 : decode c_F_compare 25 = .ok (.lload_n 2, 1) := by decide +kernel
theorem d_F_compare_26 : decode c_F_compare 26 = .ok (.aload_n 0, 1) := by decide +kernel
theorem d_F_compare_27 : decode c_F_compare 27 = .ok (.getfield 13, 3) := by decide +kernel
theorem d_F_compare_30 : decode c_F_compare 30 = .ok (.iload_n 1, 1) := by decide +kernel
theorem d_F_compare_31 : decode c_F_compare 31 = .ok (.laload, 1) := by decide +kernel
theorem d_F_compare_32 : decode c_F_compare 32 = .ok (.lload 6, 2) := by decide +kernel
theorem d_F_compare_34 : decode c_F_compare 34 = .ok (.ldiv, 1) := by decide +kernel
theorem d_F_compare_35 : decode c_F_compare 35 = .ok (.lmul, 1) := by decide +kernel
theorem d_F_compare_36 : decode c_F_compare 36 = .ok (.invokestatic 38, 3) := by decide +kernel
theorem d_F_compare_39 : decode c_F_compare 39 = .ok (.ireturn, 1) := by decide +kernel
theorem d_P_init_0 : decode c_P_init 0 = .ok (.aload_n 0, 1) := by decide +kernel
theorem d_P_init_1 : decode c_P_init 1 = .ok (.invokespecial 3, 3) := by decide +kernel
theorem d_P_init_4 : decode c_P_init 4 = .ok (.aload_n 0, 1) := by decide +kernel
theorem d_P_init_5 : decode c_P_init 5 = .ok (.bipush 50, 2) := by decide +kernel
theorem d_P_init_7 : decode c_P_init 7 = .ok (.newarray .long, 2) := by decide +kernel
theorem d_P_init_9 : decode c_P_init 9 = .ok (.putfield 9, 3) := by decide +kernel
theorem d_P_init_12 : decode c_P_init 12 = .ok (.aload_n 0, 1) := by decide +kernel
theorem d_P_init_13 : decode c_P_init 13 = .ok (.bipush 50, 2) := by decide +kernel
theorem d_P_init_15 : decode c_P_init 15 = .ok (.newarray .int, 2) := by decide +kernel
theorem d_P_init_17 : decode c_P_init 17 = .ok (.putfield 15, 3) := by decide +kernel
theorem d_P_init_20 : decode c_P_init 20 = .ok (.aload_n 0, 1) := by decide +kernel
theorem d_P_init_21 : decode c_P_init 21 = .ok (.bipush 50, 2) := by decide +kernel
theorem d_P_init_23 : decode c_P_init 23 = .ok (.newarray .int, 2) := by decide +kernel
theorem d_P_init_25 : decode c_P_init 25 = .ok (.putfield 19, 3) := by decide +kernel
theorem d_P_init_28 : decode c_P_init 28 = .ok (.aload_n 0, 1) := by decide +kernel
theorem d_P_init_29 : decode c_P_init 29 = .ok (.new 22, 3) := by decide +kernel
theorem d_P_init_32 : decode c_P_init 32 = .ok (.dup, 1) := by decide +kernel
theorem d_P_init_33 : decode c_P_init 33 = .ok (.bipush 50, 2) := by decide +kernel
theorem d_P_init_35 : decode c_P_init 35 = .ok (.invokespecial 24, 3) := by decide +kernel
theorem d_P_init_38 : decode c_P_init 38 = .ok (.putfield 27, 3) := by decide +kernel
theorem d_P_init_41 : decode c_P_init 41 = .ok (.return_, 1) := by decide +kernel
theorem d_P_clear_0 : decode c_P_clear 0 = .ok (.aload_n 0, 1) := by decide +kernel
theorem d_P_clear_1 : decode c_P_clear 1 = .ok (.iconst 0, 1) := by decide +kernel
theorem d_P_clear_2 : decode c_P_clear 2 = .ok (.putfield 31, 3) := by decide +kernel
theorem d_P_clear_5 : decode c_P_clear 5 = .ok (.aload_n 0, 1) := by decide +kernel
theorem d_P_clear_6 : decode c_P_clear 6 = .ok (.iconst 0, 1) := by decide +kernel
theorem d_P_clear_7 : decode c_P_clear 7 = .ok (.putfield 35, 3) := by decide +kernel
theorem d_P_clear_10 : decode c_P_clear 10 = .ok (.return_, 1) := by decide +kernel
theorem d_P_put_0 : decode c_P_put 0 = .ok (.aload_n 0, 1) := by decide +kernel
theorem d_P_put_1 : decode c_P_put 1 = .ok (.getfield 9, 3) := by decide +kernel
theorem d_P_put_4 : decode c_P_put 4 = .ok (.aload_n 0, 1) := by decide +kernel
theorem d_P_put_5 : decode c_P_put 5 = .ok (.getfield 31, 3) := by decide +kernel
theorem d_P_put_8 : decode c_P_put 8 = .ok (.lload_n 1, 1) := by decide +kernel
theorem d_P_put_9 : decode c_P_put 9 = .ok (.lastore, 1) := by decide +kernel
theorem d_P_put_10 : decode c_P_put 10 = .ok (.aload_n 0, 1) := by decide +kernel
theorem d_P_put_11 : decode c_P_put 11 = .ok (.getfield 15, 3) := by decide +kernel
theorem d_P_put_14 : decode c_P_put 14 = .ok (.aload_n 0, 1) := by decide +kernel
theorem d_P_put_15 : decode c_P_put 15 = .ok (.getfield 31, 3) := by decide +kernel
theorem d_P_put_18 : decode c_P_put 18 = .ok (.iload_n 3, 1) := by decide +kernel
theorem d_P_put_19 : decode c_P_put 19 = .ok (.iastore, 1) := by decide +kernel
theorem d_P_put_20 : decode c_P_put 20 = .ok (.aload_n 0, 1) := by decide +kernel
theorem d_P_put_21 : decode c_P_put 21 = .ok (.getfield 19, 3) := by decide +kernel
theorem d_P_put_24 : decode c_P_put 24 = .ok (.aload_n 0, 1) := by decide +kernel
theorem d_P_put_25 : decode c_P_put 25 = .ok (.getfield 31, 3) := by decide +kernel
theorem d_P_put_28 : decode c_P_put 28 = .ok (.iconst (-1), 1) := by decide +kernel
theorem d_P_put_29 : decode c_P_put 29 = .ok (.iastore, 1) := by decide +kernel
theorem d_P_put_30 : decode c_P_put 30 = .ok (.aload_n 0, 1) := by decide +kernel
theorem d_P_put_31 : decode c_P_put 31 = .ok (.getfield 27, 3) := by decide +kernel
theorem d_P_put_34 : decode c_P_put 34 = .ok (.aload_n 0, 1) := by decide +kernel
theorem d_P_put_35 : decode c_P_put 35 = .ok (.getfield 31, 3) := by decide +kernel
theorem d_P_put_38 : decode c_P_put 38 = .ok (.lconst 1, 1) := by decide +kernel
theorem d_P_put_39 : decode c_P_put 39 = .ok (.lconst 1, 1) := by decide +kernel
theorem d_P_put_40 : decode c_P_put 40 = .ok (.invokevirtual 38, 3) := by decide +kernel
theorem d_P_put_43 : decode c_P_put 43 = .ok (.aload_n 0, 1) := by decide +kernel
theorem d_P_put_44 : decode c_P_put 44 = .ok (.dup, 1) := by decide +kernel
theorem d_P_put_45 : decode c_P_put 45 = .ok (.getfield 31, 3) := by decide +kernel
theorem d_P_put_48 : decode c_P_put 48 = .ok (.iconst 1, 1) := by decide +kernel
theorem d_P_put_49 : decode c_P_put 49 = .ok (.iadd, 1) := by decide +kernel
theorem d_P_put_50 : decode c_P_put 50 = .ok (.putfield 31, 3) := by decide +kernel
theorem d_P_put_53 : decode c_P_put 53 = .ok (.aload_n 0, 1) := by decide +kernel
theorem d_P_put_54 : decode c_P_put 54 = .ok (.dup, 1) := by decide +kernel
theorem d_P_put_55 : decode c_P_put 55 = .ok (.getfield 35, 3) := by decide +kernel
theorem d_P_put_58 : decode c_P_put 58 = .ok (.iload_n 3, 1) := by decide +kernel
theorem d_P_put_59 : decode c_P_put 59 = .ok (.iadd, 1) := by decide +kernel
theorem d_P_put_60 : decode c_P_put 60 = .ok (.putfield 35, 3) := by decide +kernel
theorem d_P_put_63 : decode c_P_put 63 = .ok (.return_, 1) := by decide +kernel
theorem d_P_lyingWith_0 : decode c_P_lyingWith 0 = .ok (.iconst 0, 1) := by decide +kernel
theorem d_P_lyingWith_1 : decode c_P_lyingWith 1 = .ok (.istore_n 2, 1) := by decide +kernel
theorem d_P_lyingWith_2 : decode c_P_lyingWith 2 = .ok (.iconst 0, 1) := by decide +kernel
theorem d_P_lyingWith_3 : decode c_P_lyingWith 3 = .ok (.istore_n 3, 1) := by decide +kernel
theorem d_P_lyingWith_4 : decode c_P_lyingWith 4 = .ok (.iload_n 3, 1) := by decide +kernel
theorem d_P_lyingWith_5 : decode c_P_lyingWith 5 = .ok (.aload_n 0, 1) := by decide +kernel
theorem d_P_lyingWith_6 : decode c_P_lyingWith 6 = .ok (.getfield 31, 3) := by decide +kernel
theorem d_P_lyingWith_9 : decode c_P_lyingWith 9 = .ok (.if_icmp .ge 28, 3) := by decide +kernel
theorem d_P_lyingWith_12 : decode c_P_lyingWith 12 = .ok (.aload_n 0, 1) := by decide +kernel
theorem d_P_lyingWith_13 : decode c_P_lyingWith 13 = .ok (.getfield 19, 3) := by decide +kernel
theorem d_P_lyingWith_16 : decode c_P_lyingWith 16 = .ok (.iload_n 3, 1) := by decide +kernel
theorem d_P_lyingWith_17 : decode c_P_lyingWith 17 = .ok (.iaload, 1) := by decide +kernel
theorem d_P_lyingWith_18 : decode c_P_lyingWith 18 = .ok (.iload_n 1, 1) := by decide +kernel
theorem d_P_lyingWith_19 : decode c_P_lyingWith 19 = .ok (.if_icmp .ne 12, 3) := by decide +kernel
theorem d_P_lyingWith_22 : decode c_P_lyingWith 22 = .ok (.iload_n 2, 1) := by decide +kernel
theorem d_P_lyingWith_23 : decode c_P_lyingWith 23 = .ok (.aload_n 0, 1) := by decide +kernel
theorem d_P_lyingWith_24 : decode c_P_lyingWith 24 = .ok (.getfield 15, 3) := by decide +kernel
theorem d_P_lyingWith_27 : decode c_P_lyingWith 27 = .ok (.iload_n 3, 1) := by decide +kernel
theorem d_P_lyingWith_28 : decode c_P_lyingWith 28 = .ok (.iaload, 1) := by decide +kernel
theorem d_P_lyingWith_29 : decode c_P_lyingWith 29 = .ok (.iadd, 1) := by decide +kernel
theorem d_P_lyingWith_30 : decode c_P_lyingWith 30 = .ok (.istore_n 2, 1) := by decide +kernel
theorem d_P_lyingWith_31 : decode c_P_lyingWith 31 = .ok (.iinc 3 1, 3) := by decide +kernel
theorem d_P_lyingWith_34 : decode c_P_lyingWith 34 = .ok (.goto (-30), 3) := by decide +kernel
theorem d_P_lyingWith_37 : decode c_P_lyingWith 37 = .ok (.iload_n 2, 1) := by decide +kernel
theorem d_P_lyingWith_38 : decode c_P_lyingWith 38 = .ok (.ireturn, 1) := by decide +kernel
theorem d_R_init_0 : decode c_R_init 0 = .ok (.aload_n 0, 1) := by decide +kernel
theorem d_R_init_1 : decode c_R_init 1 = .ok (.invokespecial 3, 3) := by decide +kernel
theorem d_R_init_4 : decode c_R_init 4 = .ok (.aload_n 0, 1) := by decide +kernel
theorem d_R_init_5 : decode c_R_init 5 = .ok (.bipush 12, 2) := by decide +kernel
theorem d_R_init_7 : decode c_R_init 7 = .ok (.newarray .int, 2) := by decide +kernel
theorem d_R_init_9 : decode c_R_init 9 = .ok (.putfield 9, 3) := by decide +kernel
theorem d_R_init_12 : decode c_R_init 12 = .ok (.aload_n 0, 1) := by decide +kernel
theorem d_R_init_13 : decode c_R_init 13 = .ok (.bipush 12, 2) := by decide +kernel
theorem d_R_init_15 : decode c_R_init 15 = .ok (.newarray .int, 2) := by decide +kernel
theorem d_R_init_17 : decode c_R_init 17 = .ok (.putfield 15, 3) := by decide +kernel
theorem d_R_init_20 : decode c_R_init 20 = .ok (.return_, 1) := by decide +kernel
theorem d_R_clear_0 : decode c_R_clear 0 = .ok (.aload_n 0, 1) := by decide +kernel
theorem d_R_clear_1 : decode c_R_clear 1 = .ok (.iload_n 1, 1) := by decide +kernel
theorem d_R_clear_2 : decode c_R_clear 2 = .ok (.putfield 18, 3) := by decide +kernel
theorem d_R_clear_5 : decode c_R_clear 5 = .ok (.aload_n 0, 1) := by decide +kernel
theorem d_R_clear_6 : decode c_R_clear 6 = .ok (.iconst 0, 1) := by decide +kernel
theorem d_R_clear_7 : decode c_R_clear 7 = .ok (.putfield 22, 3) := by decide +kernel
theorem d_R_clear_10 : decode c_R_clear 10 = .ok (.aload_n 0, 1) := by decide +kernel
theorem d_R_clear_11 : decode c_R_clear 11 = .ok (.iconst 0, 1) := by decide +kernel
theorem d_R_clear_12 : decode c_R_clear 12 = .ok (.putfield 25, 3) := by decide +kernel
theorem d_R_clear_15 : decode c_R_clear 15 = .ok (.iconst 0, 1) := by decide +kernel
theorem d_R_clear_16 : decode c_R_clear 16 = .ok (.istore_n 2, 1) := by decide +kernel
theorem d_R_clear_17 : decode c_R_clear 17 = .ok (.iload_n 2, 1) := by decide +kernel
theorem d_R_clear_18 : decode c_R_clear 18 = .ok (.bipush 12, 2) := by decide +kernel
theorem d_R_clear_20 : decode c_R_clear 20 = .ok (.if_icmp .ge 23, 3) := by decide +kernel
theorem d_R_clear_23 : decode c_R_clear 23 = .ok (.aload_n 0, 1) := by decide +kernel
theorem d_R_clear_24 : decode c_R_clear 24 = .ok (.getfield 9, 3) := by decide +kernel
theorem d_R_clear_27 : decode c_R_clear 27 = .ok (.iload_n 2, 1) := by decide +kernel
theorem d_R_clear_28 : decode c_R_clear 28 = .ok (.iload_n 2, 1) := by decide +kernel
theorem d_R_clear_29 : decode c_R_clear 29 = .ok (.iastore, 1) := by decide +kernel
theorem d_R_clear_30 : decode c_R_clear 30 = .ok (.aload_n 0, 1) := by decide +kernel
theorem d_R_clear_31 : decode c_R_clear 31 = .ok (.getfield 15, 3) := by decide +kernel
theorem d_R_clear_34 : decode c_R_clear 34 = .ok (.iload_n 2, 1) := by decide +kernel
theorem d_R_clear_35 : decode c_R_clear 35 = .ok (.iconst 0, 1) := by decide +kernel
theorem d_R_clear_36 : decode c_R_clear 36 = .ok (.iastore, 1) := by decide +kernel
theorem d_R_clear_37 : decode c_R_clear 37 = .ok (.iinc 2 1, 3) := by decide +kernel
theorem d_R_clear_40 : decode c_R_clear 40 = .ok (.goto (-23), 3) := by decide +kernel
theorem d_R_clear_43 : decode c_R_clear 43 = .ok (.return_, 1) := by decide +kernel
theorem d_R_has_0 : decode c_R_has 0 = .ok (.iload_n 1, 1) := by decide +kernel
theorem d_R_has_1 : decode c_R_has 1 = .ok (.ifCond .lt 15, 3) := by decide +kernel
theorem d_R_has_4 : decode c_R_has 4 = .ok (.iload_n 1, 1) := by decide +kernel
theorem d_R_has_5 : decode c_R_has 5 = .ok (.aload_n 0, 1) := by decide +kernel
theorem d_R_has_6 : decode c_R_has 6 = .ok (.getfield 18, 3) := by decide +kernel
theorem d_R_has_9 : decode c_R_has 9 = .ok (.if_icmp .ge 7, 3) := by decide +kernel
theorem d_R_has_12 : decode c_R_has 12 = .ok (.iconst 1, 1) := by decide +kernel
theorem d_R_has_13 : decode c_R_has 13 = .ok (.goto 4, 3) := by decide +kernel
theorem d_R_has_16 : decode c_R_has 16 = .ok (.iconst 0, 1) := by decide +kernel
theorem d_R_has_17 : decode c_R_has 17 = .ok (.ireturn, 1) := by decide +kernel
theorem d_R_hasOrIsNobody_0 : decode c_R_hasOrIsNobody 0 = .ok (.iload_n 1, 1) := by decide +kernel
theorem d_R_hasOrIsNobody_1 : decode c_R_hasOrIsNobody 1 = .ok (.ifCond .lt 15, 3) := by decide +kernel
theorem d_R_hasOrIsNobody_4 : decode c_R_hasOrIsNobody 4 = .ok (.iload_n 1, 1) := by decide +kernel
theorem d_R_hasOrIsNobody_5 : decode c_R_hasOrIsNobody 5 = .ok (.aload_n 0, 1) := by decide +kernel
theorem d_R_hasOrIsNobody_6 : decode c_R_hasOrIsNobody 6 = .ok (.getfield 18, 3) := by decide +kernel
theorem d_R_hasOrIsNobody_9 : decode c_R_hasOrIsNobody 9 = .ok (.if_icmp .gt 7, 3) := by decide +kernel
theorem d_R_hasOrIsNobody_12 : decode c_R_hasOrIsNobody 12 = .ok (.iconst 1, 1) := by decide +kernel
theorem d_R_hasOrIsNobody_13 : decode c_R_hasOrIsNobody 13 = .ok (.goto 4, 3) := by decide +kernel
theorem d_R_hasOrIsNobody_16 : decode c_R_hasOrIsNobody 16 = .ok (.iconst 0, 1) := by decide +kernel
theorem d_R_hasOrIsNobody_17 : decode c_R_hasOrIsNobody 17 = .ok (.ireturn, 1) := by decide +kernel
theorem d_R_anotherHasDraw_0 : decode c_R_anotherHasDraw 0 = .ok (.iconst 0, 1) := by decide +kernel
theorem d_R_anotherHasDraw_1 : decode c_R_anotherHasDraw 1 = .ok (.istore_n 3, 1) := by decide +kernel
theorem d_R_anotherHasDraw_2 : decode c_R_anotherHasDraw 2 = .ok (.iload_n 3, 1) := by decide +kernel
theorem d_R_anotherHasDraw_3 : decode c_R_anotherHasDraw 3 = .ok (.aload_n 0, 1) := by decide +kernel
theorem d_R_anotherHasDraw_4 : decode c_R_anotherHasDraw 4 = .ok (.getfield 18, 3) := by decide +kernel
theorem d_R_anotherHasDraw_7 : decode c_R_anotherHasDraw 7 = .ok (.if_icmp .ge 26, 3) := by decide +kernel
theorem d_R_anotherHasDraw_10 : decode c_R_anotherHasDraw 10 = .ok (.iload_n 3, 1) := by decide +kernel
theorem d_R_anotherHasDraw_11 : decode c_R_anotherHasDraw 11 = .ok (.iload_n 1, 1) := by decide +kernel
theorem d_R_anotherHasDraw_12 : decode c_R_anotherHasDraw 12 = .ok (.if_icmp .eq 15, 3) := by decide +kernel
theorem d_R_anotherHasDraw_15 : decode c_R_anotherHasDraw 15 = .ok (.aload_n 0, 1) := by decide +kernel
theorem d_R_anotherHasDraw_16 : decode c_R_anotherHasDraw 16 = .ok (.getfield 9, 3) := by decide +kernel
theorem d_R_anotherHasDraw_19 : decode c_R_anotherHasDraw 19 = .ok (.iload_n 3, 1) := by decide +kernel
theorem d_R_anotherHasDraw_20 : decode c_R_anotherHasDraw 20 = .ok (.iaload, 1) := by decide +kernel
theorem d_R_anotherHasDraw_21 : decode c_R_anotherHasDraw 21 = .ok (.iload_n 2, 1) := by decide +kernel
theorem d_R_anotherHasDraw_22 : decode c_R_anotherHasDraw 22 = .ok (.if_icmp .ne 5, 3) := by decide +kernel
theorem d_R_anotherHasDraw_25 : decode c_R_anotherHasDraw 25 = .ok (.iconst 1, 1) := by decide +kernel
theorem d_R_anotherHasDraw_26 : decode c_R_anotherHasDraw 26 = .ok (.ireturn, 1) := by decide +kernel
theorem d_R_anotherHasDraw_27 : decode c_R_anotherHasDraw 27 = .ok (.iinc 3 1, 3) := by decide +kernel
theorem d_R_anotherHasDraw_30 : decode c_R_anotherHasDraw 30 = .ok (.goto (-28), 3) := by decide +kernel
theorem d_R_anotherHasDraw_33 : decode c_R_anotherHasDraw 33 = .ok (.iconst 0, 1) := by decide +kernel
theorem d_R_anotherHasDraw_34 : decode c_R_anotherHasDraw 34 = .ok (.ireturn, 1) := by decide +kernel
theorem d_R_isContinuing_0 : decode c_R_isContinuing 0 = .ok (.aload_n 0, 1) := by decide +kernel
theorem d_R_isContinuing_1 : decode c_R_isContinuing 1 = .ok (.getfield 15, 3) := by decide +kernel
theorem d_R_isContinuing_4 : decode c_R_isContinuing 4 = .ok (.iload_n 1, 1) := by decide +kernel
theorem d_R_isContinuing_5 : decode c_R_isContinuing 5 = .ok (.iaload, 1) := by decide +kernel
theorem d_R_isContinuing_6 : decode c_R_isContinuing 6 = .ok (.ifCond .ne 7, 3) := by decide +kernel
theorem d_R_isContinuing_9 : decode c_R_isContinuing 9 = .ok (.iconst 1, 1) := by decide +kernel
theorem d_R_isContinuing_10 : decode c_R_isContinuing 10 = .ok (.goto 4, 3) := by decide +kernel
theorem d_R_isContinuing_13 : decode c_R_isContinuing 13 = .ok (.iconst 0, 1) := by decide +kernel
theorem d_R_isContinuing_14 : decode c_R_isContinuing 14 = .ok (.ireturn, 1) := by decide +kernel
theorem d_R_isElected_0 : decode c_R_isElected 0 = .ok (.aload_n 0, 1) := by decide +kernel
theorem d_R_isElected_1 : decode c_R_isElected 1 = .ok (.getfield 15, 3) := by decide +kernel
theorem d_R_isElected_4 : decode c_R_isElected 4 = .ok (.iload_n 1, 1) := by decide +kernel
theorem d_R_isElected_5 : decode c_R_isElected 5 = .ok (.iaload, 1) := by decide +kernel
theorem d_R_isElected_6 : decode c_R_isElected 6 = .ok (.ifCond .le 7, 3) := by decide +kernel
theorem d_R_isElected_9 : decode c_R_isElected 9 = .ok (.iconst 1, 1) := by decide +kernel
theorem d_R_isElected_10 : decode c_R_isElected 10 = .ok (.goto 4, 3) := by decide +kernel
theorem d_R_isElected_13 : decode c_R_isElected 13 = .ok (.iconst 0, 1) := by decide +kernel
theorem d_R_isElected_14 : decode c_R_isElected 14 = .ok (.ireturn, 1) := by decide +kernel
theorem d_R_continuing_0 : decode c_R_continuing 0 = .ok (.aload_n 0, 1) := by decide +kernel
theorem d_R_continuing_1 : decode c_R_continuing 1 = .ok (.getfield 18, 3) := by decide +kernel
theorem d_R_continuing_4 : decode c_R_continuing 4 = .ok (.aload_n 0, 1) := by decide +kernel
theorem d_R_continuing_5 : decode c_R_continuing 5 = .ok (.getfield 22, 3) := by decide +kernel
theorem d_R_continuing_8 : decode c_R_continuing 8 = .ok (.isub, 1) := by decide +kernel
theorem d_R_continuing_9 : decode c_R_continuing 9 = .ok (.aload_n 0, 1) := by decide +kernel
theorem d_R_continuing_10 : decode c_R_continuing 10 = .ok (.getfield 25, 3) := by decide +kernel
theorem d_R_continuing_13 : decode c_R_continuing 13 = .ok (.isub, 1) := by decide +kernel
theorem d_R_continuing_14 : decode c_R_continuing 14 = .ok (.ireturn, 1) := by decide +kernel
theorem d_R_elect_0 : decode c_R_elect 0 = .ok (.aload_n 0, 1) := by decide +kernel
theorem d_R_elect_1 : decode c_R_elect 1 = .ok (.dup, 1) := by decide +kernel
theorem d_R_elect_2 : decode c_R_elect 2 = .ok (.getfield 22, 3) := by decide +kernel
theorem d_R_elect_5 : decode c_R_elect 5 = .ok (.iconst 1, 1) := by decide +kernel
theorem d_R_elect_6 : decode c_R_elect 6 = .ok (.iadd, 1) := by decide +kernel
theorem d_R_elect_7 : decode c_R_elect 7 = .ok (.putfield 22, 3) := by decide +kernel
theorem d_R_elect_10 : decode c_R_elect 10 = .ok (.aload_n 0, 1) := by decide +kernel
theorem d_R_elect_11 : decode c_R_elect 11 = .ok (.getfield 15, 3) := by decide +kernel
theorem d_R_elect_14 : decode c_R_elect 14 = .ok (.iload_n 1, 1) := by decide +kernel
theorem d_R_elect_15 : decode c_R_elect 15 = .ok (.aload_n 0, 1) := by decide +kernel
theorem d_R_elect_16 : decode c_R_elect 16 = .ok (.getfield 22, 3) := by decide +kernel
theorem d_R_elect_19 : decode c_R_elect 19 = .ok (.iastore, 1) := by decide +kernel
theorem d_R_elect_20 : decode c_R_elect 20 = .ok (.return_, 1) := by decide +kernel
theorem d_R_exclude_0 : decode c_R_exclude 0 = .ok (.aload_n 0, 1) := by decide +kernel
theorem d_R_exclude_1 : decode c_R_exclude 1 = .ok (.dup, 1) := by decide +kernel
theorem d_R_exclude_2 : decode c_R_exclude 2 = .ok (.getfield 25, 3) := by decide +kernel
theorem d_R_exclude_5 : decode c_R_exclude 5 = .ok (.iconst 1, 1) := by decide +kernel
theorem d_R_exclude_6 : decode c_R_exclude 6 = .ok (.iadd, 1) := by decide +kernel
theorem d_R_exclude_7 : decode c_R_exclude 7 = .ok (.putfield 25, 3) := by decide +kernel
theorem d_R_exclude_10 : decode c_R_exclude 10 = .ok (.aload_n 0, 1) := by decide +kernel
theorem d_R_exclude_11 : decode c_R_exclude 11 = .ok (.getfield 15, 3) := by decide +kernel
theorem d_R_exclude_14 : decode c_R_exclude 14 = .ok (.iload_n 1, 1) := by decide +kernel
theorem d_R_exclude_15 : decode c_R_exclude 15 = .ok (.aload_n 0, 1) := by decide +kernel
theorem d_R_exclude_16 : decode c_R_exclude 16 = .ok (.getfield 25, 3) := by decide +kernel
theorem d_R_exclude_19 : decode c_R_exclude 19 = .ok (.ineg, 1) := by decide +kernel
theorem d_R_exclude_20 : decode c_R_exclude 20 = .ok (.iastore, 1) := by decide +kernel
theorem d_R_exclude_21 : decode c_R_exclude 21 = .ok (.return_, 1) := by decide +kernel
theorem d_S_init_0 : decode c_S_init 0 = .ok (.aload_n 0, 1) := by decide +kernel
theorem d_S_init_1 : decode c_S_init 1 = .ok (.invokespecial 3, 3) := by decide +kernel
theorem d_S_init_4 : decode c_S_init 4 = .ok (.aload_n 0, 1) := by decide +kernel
theorem d_S_init_5 : decode c_S_init 5 = .ok (.new 9, 3) := by decide +kernel
theorem d_S_init_8 : decode c_S_init 8 = .ok (.dup, 1) := by decide +kernel
theorem d_S_init_9 : decode c_S_init 9 = .ok (.bipush 13, 2) := by decide +kernel
theorem d_S_init_11 : decode c_S_init 11 = .ok (.invokespecial 11, 3) := by decide +kernel
theorem d_S_init_14 : decode c_S_init 14 = .ok (.putfield 14, 3) := by decide +kernel
theorem d_S_init_17 : decode c_S_init 17 = .ok (.aload_n 0, 1) := by decide +kernel
theorem d_S_init_18 : decode c_S_init 18 = .ok (.bipush 13, 2) := by decide +kernel
theorem d_S_init_20 : decode c_S_init 20 = .ok (.newarray .int, 2) := by decide +kernel
theorem d_S_init_22 : decode c_S_init 22 = .ok (.putfield 20, 3) := by decide +kernel
theorem d_S_init_25 : decode c_S_init 25 = .ok (.return_, 1) := by decide +kernel
theorem d_S_clear_0 : decode c_S_clear 0 = .ok (.aload_n 0, 1) := by decide +kernel
theorem d_S_clear_1 : decode c_S_clear 1 = .ok (.getfield 14, 3) := by decide +kernel
theorem d_S_clear_4 : decode c_S_clear 4 = .ok (.invokevirtual 24, 3) := by decide +kernel
theorem d_S_clear_7 : decode c_S_clear 7 = .ok (.aload_n 0, 1) := by decide +kernel
theorem d_S_clear_8 : decode c_S_clear 8 = .ok (.getfield 20, 3) := by decide +kernel
theorem d_S_clear_11 : decode c_S_clear 11 = .ok (.iconst 0, 1) := by decide +kernel
theorem d_S_clear_12 : decode c_S_clear 12 = .ok (.invokestatic 27, 3) := by decide +kernel
theorem d_S_clear_15 : decode c_S_clear 15 = .ok (.return_, 1) := by decide +kernel
theorem d_S_followOn_0 : decode c_S_followOn 0 = .ok (.aload_n 0, 1) := by decide +kernel
theorem d_S_followOn_1 : decode c_S_followOn 1 = .ok (.getfield 14, 3) := by decide +kernel
theorem d_S_followOn_4 : decode c_S_followOn 4 = .ok (.aload_n 1, 1) := by decide +kernel
theorem d_S_followOn_5 : decode c_S_followOn 5 = .ok (.getfield 14, 3) := by decide +kernel
theorem d_S_followOn_8 : decode c_S_followOn 8 = .ok (.invokevirtual 33, 3) := by decide +kernel
theorem d_S_followOn_11 : decode c_S_followOn 11 = .ok (.aload_n 0, 1) := by decide +kernel
theorem d_S_followOn_12 : decode c_S_followOn 12 = .ok (.getfield 20, 3) := by decide +kernel
theorem d_S_followOn_15 : decode c_S_followOn 15 = .ok (.iconst 0, 1) := by decide +kernel
theorem d_S_followOn_16 : decode c_S_followOn 16 = .ok (.invokestatic 27, 3) := by decide +kernel
theorem d_S_followOn_19 : decode c_S_followOn 19 = .ok (.return_, 1) := by decide +kernel
theorem d_G_compare_0 : decode c_G_compare 0 = .ok (.lload_n 0, 1) := by decide +kernel
theorem d_G_compare_1 : decode c_G_compare 1 = .ok (.lload_n 2, 1) := by decide +kernel
theorem d_G_compare_2 : decode c_G_compare 2 = .ok (.lcmp, 1) := by decide +kernel
theorem d_G_compare_3 : decode c_G_compare 3 = .ok (.ifCond .ge 7, 3) := by decide +kernel
theorem d_G_compare_6 : decode c_G_compare 6 = .ok (.iconst (-1), 1) := by decide +kernel
theorem d_G_compare_7 : decode c_G_compare 7 = .ok (.goto 14, 3) := by decide +kernel
theorem d_G_compare_10 : decode c_G_compare 10 = .ok (.lload_n 0, 1) := by decide +kernel
theorem d_G_compare_11 : decode c_G_compare 11 = .ok (.lload_n 2, 1) := by decide +kernel
theorem d_G_compare_12 : decode c_G_compare 12 = .ok (.lcmp, 1) := by decide +kernel
theorem d_G_compare_13 : decode c_G_compare 13 = .ok (.ifCond .ne 7, 3) := by decide +kernel
theorem d_G_compare_16 : decode c_G_compare 16 = .ok (.iconst 0, 1) := by decide +kernel
theorem d_G_compare_17 : decode c_G_compare 17 = .ok (.goto 4, 3) := by decide +kernel
theorem d_G_compare_20 : decode c_G_compare 20 = .ok (.iconst 1, 1) := by decide +kernel
theorem d_G_compare_21 : decode c_G_compare 21 = .ok (.ireturn, 1) := by decide +kernel
theorem d_A_fillI_0 : decode c_A_fillI 0 = .ok (.iconst 0, 1) := by decide +kernel
theorem d_A_fillI_1 : decode c_A_fillI 1 = .ok (.istore_n 2, 1) := by decide +kernel
theorem d_A_fillI_2 : decode c_A_fillI 2 = .ok (.aload_n 0, 1) := by decide +kernel
theorem d_A_fillI_3 : decode c_A_fillI 3 = .ok (.arraylength, 1) := by decide +kernel
theorem d_A_fillI_4 : decode c_A_fillI 4 = .ok (.istore_n 3, 1) := by decide +kernel
theorem d_A_fillI_5 : decode c_A_fillI 5 = .ok (.iload_n 2, 1) := by decide +kernel
theorem d_A_fillI_6 : decode c_A_fillI 6 = .ok (.iload_n 3, 1) := by decide +kernel
theorem d_A_fillI_7 : decode c_A_fillI 7 = .ok (.if_icmp .ge 13, 3) := by decide +kernel
theorem d_A_fillI_10 : decode c_A_fillI 10 = .ok (.aload_n 0, 1) := by decide +kernel
theorem d_A_fillI_11 : decode c_A_fillI 11 = .ok (.iload_n 2, 1) := by decide +kernel
theorem d_A_fillI_12 : decode c_A_fillI 12 = .ok (.iload_n 1, 1) := by decide +kernel
theorem d_A_fillI_13 : decode c_A_fillI 13 = .ok (.iastore, 1) := by decide +kernel
theorem d_A_fillI_14 : decode c_A_fillI 14 = .ok (.iinc 2 1, 3) := by decide +kernel
theorem d_A_fillI_17 : decode c_A_fillI 17 = .ok (.goto (-12), 3) := by decide +kernel
theorem d_A_fillI_20 : decode c_A_fillI 20 = .ok (.return_, 1) := by decide +kernel
theorem d_A_fillJ_0 : decode c_A_fillJ 0 = .ok (.iconst 0, 1) := by decide +kernel
theorem d_A_fillJ_1 : decode c_A_fillJ 1 = .ok (.istore_n 3, 1) := by decide +kernel
theorem d_A_fillJ_2 : decode c_A_fillJ 2 = .ok (.aload_n 0, 1) := by decide +kernel
theorem d_A_fillJ_3 : decode c_A_fillJ 3 = .ok (.arraylength, 1) := by decide +kernel
theorem d_A_fillJ_4 : decode c_A_fillJ 4 = .ok (.istore 4, 2) := by decide +kernel
theorem d_A_fillJ_6 : decode c_A_fillJ 6 = .ok (.iload_n 3, 1) := by decide +kernel
theorem d_A_fillJ_7 : decode c_A_fillJ 7 = .ok (.iload 4, 2) := by decide +kernel
theorem d_A_fillJ_9 : decode c_A_fillJ 9 = .ok (.if_icmp .ge 13, 3) := by decide +kernel
theorem d_A_fillJ_12 : decode c_A_fillJ 12 = .ok (.aload_n 0, 1) := by decide +kernel
theorem d_A_fillJ_13 : decode c_A_fillJ 13 = .ok (.iload_n 3, 1) := by decide +kernel
theorem d_A_fillJ_14 : decode c_A_fillJ 14 = .ok (.lload_n 1, 1) := by decide +kernel
theorem d_A_fillJ_15 : decode c_A_fillJ 15 = .ok (.lastore, 1) := by decide +kernel
theorem d_A_fillJ_16 : decode c_A_fillJ 16 = .ok (.iinc 3 1, 3) := by decide +kernel
theorem d_A_fillJ_19 : decode c_A_fillJ 19 = .ok (.goto (-13), 3) := by decide +kernel
theorem d_A_fillJ_22 : decode c_A_fillJ 22 = .ok (.return_, 1) := by decide +kernel
end
section
theorem d_M_init_0 : decode c_M_init 0 = .ok (.aload_n 0, 1) := by decide +kernel
theorem d_M_init_1 : decode c_M_init 1 = .ok (.invokespecial 1, 3) := by decide +kernel
theorem d_M_init_4 : decode c_M_init 4 = .ok (.aload_n 0, 1) := by decide +kernel
theorem d_M_init_5 : decode c_M_init 5 = .ok (.iconst 2, 1) := by decide +kernel
theorem d_M_init_6 : decode c_M_init 6 = .ok (.putfield 7, 3) := by decide +kernel
theorem d_M_init_9 : decode c_M_init 9 = .ok (.aload_n 0, 1) := by decide +kernel
theorem d_M_init_10 : decode c_M_init 10 = .ok (.iconst 1, 1) := by decide +kernel
theorem d_M_init_11 : decode c_M_init 11 = .ok (.putfield 13, 3) := by decide +kernel
theorem d_M_init_14 : decode c_M_init 14 = .ok (.aload_n 0, 1) := by decide +kernel
theorem d_M_init_15 : decode c_M_init 15 = .ok (.bipush 12, 2) := by decide +kernel
theorem d_M_init_17 : decode c_M_init 17 = .ok (.newarray .int, 2) := by decide +kernel
theorem d_M_init_19 : decode c_M_init 19 = .ok (.putfield 16, 3) := by decide +kernel
theorem d_M_init_22 : decode c_M_init 22 = .ok (.aload_n 0, 1) := by decide +kernel
theorem d_M_init_23 : decode c_M_init 23 = .ok (.bipush 12, 2) := by decide +kernel
theorem d_M_init_25 : decode c_M_init 25 = .ok (.newarray .int, 2) := by decide +kernel
theorem d_M_init_27 : decode c_M_init 27 = .ok (.putfield 20, 3) := by decide +kernel
theorem d_M_init_30 : decode c_M_init 30 = .ok (.aload_n 0, 1) := by decide +kernel
theorem d_M_init_31 : decode c_M_init 31 = .ok (.sipush 350, 3) := by decide +kernel
theorem d_M_init_34 : decode c_M_init 34 = .ok (.newarray .int, 2) := by decide +kernel
theorem d_M_init_36 : decode c_M_init 36 = .ok (.putfield 23, 3) := by decide +kernel
theorem d_M_init_39 : decode c_M_init 39 = .ok (.aload_n 0, 1) := by decide +kernel
theorem d_M_init_40 : decode c_M_init 40 = .ok (.bipush 50, 2) := by decide +kernel
theorem d_M_init_42 : decode c_M_init 42 = .ok (.newarray .int, 2) := by decide +kernel
theorem d_M_init_44 : decode c_M_init 44 = .ok (.putfield 26, 3) := by decide +kernel
theorem d_M_init_47 : decode c_M_init 47 = .ok (.aload_n 0, 1) := by decide +kernel
theorem d_M_init_48 : decode c_M_init 48 = .ok (.bipush 50, 2) := by decide +kernel
theorem d_M_init_50 : decode c_M_init 50 = .ok (.newarray .int, 2) := by decide +kernel
theorem d_M_init_52 : decode c_M_init 52 = .ok (.putfield 29, 3) := by decide +kernel
theorem d_M_init_55 : decode c_M_init 55 = .ok (.aload_n 0, 1) := by decide +kernel
theorem d_M_init_56 : decode c_M_init 56 = .ok (.bipush 50, 2) := by decide +kernel
theorem d_M_init_58 : decode c_M_init 58 = .ok (.newarray .int, 2) := by decide +kernel
theorem d_M_init_60 : decode c_M_init 60 = .ok (.putfield 32, 3) := by decide +kernel
theorem d_M_init_63 : decode c_M_init 63 = .ok (.aload_n 0, 1) := by decide +kernel
theorem d_M_init_64 : decode c_M_init 64 = .ok (.bipush 50, 2) := by decide +kernel
theorem d_M_init_66 : decode c_M_init 66 = .ok (.newarray .long, 2) := by decide +kernel
theorem d_M_init_68 : decode c_M_init 68 = .ok (.putfield 35, 3) := by decide +kernel
theorem d_M_init_71 : decode c_M_init 71 = .ok (.aload_n 0, 1) := by decide +kernel
theorem d_M_init_72 : decode c_M_init 72 = .ok (.bipush 12, 2) := by decide +kernel
theorem d_M_init_74 : decode c_M_init 74 = .ok (.newarray .boolean, 2) := by decide +kernel
theorem d_M_init_76 : decode c_M_init 76 = .ok (.putfield 39, 3) := by decide +kernel
theorem d_M_init_79 : decode c_M_init 79 = .ok (.aload_n 0, 1) := by decide +kernel
theorem d_M_init_80 : decode c_M_init 80 = .ok (.lconst 1, 1) := by decide +kernel
theorem d_M_init_81 : decode c_M_init 81 = .ok (.putfield 43, 3) := by decide +kernel
theorem d_M_init_84 : decode c_M_init 84 = .ok (.aload_n 0, 1) := by decide +kernel
theorem d_M_init_85 : decode c_M_init 85 = .ok (.iconst (-1), 1) := by decide +kernel
theorem d_M_init_86 : decode c_M_init 86 = .ok (.putfield 47, 3) := by decide +kernel
theorem d_M_init_89 : decode c_M_init 89 = .ok (.aload_n 0, 1) := by decide +kernel
theorem d_M_init_90 : decode c_M_init 90 = .ok (.sipush 260, 3) := by decide +kernel
theorem d_M_init_93 : decode c_M_init 93 = .ok (.newarray .long, 2) := by decide +kernel
theorem d_M_init_95 : decode c_M_init 95 = .ok (.putfield 50, 3) := by decide +kernel
theorem d_M_init_98 : decode c_M_init 98 = .ok (.aload_n 0, 1) := by decide +kernel
theorem d_M_init_99 : decode c_M_init 99 = .ok (.bipush 20, 2) := by decide +kernel
theorem d_M_init_101 : decode c_M_init 101 = .ok (.newarray .long, 2) := by decide +kernel
theorem d_M_init_103 : decode c_M_init 103 = .ok (.putfield 53, 3) := by decide +kernel
theorem d_M_init_106 : decode c_M_init 106 = .ok (.aload_n 0, 1) := by decide +kernel
theorem d_M_init_107 : decode c_M_init 107 = .ok (.sipush 260, 3) := by decide +kernel
theorem d_M_init_110 : decode c_M_init 110 = .ok (.newarray .int, 2) := by decide +kernel
theorem d_M_init_112 : decode c_M_init 112 = .ok (.putfield 56, 3) := by decide +kernel
theorem d_M_init_115 : decode c_M_init 115 = .ok (.aload_n 0, 1) := by decide +kernel
theorem d_M_init_116 : decode c_M_init 116 = .ok (.iconst 2, 1) := by decide +kernel
theorem d_M_init_117 : decode c_M_init 117 = .ok (.iconst 1, 1) := by decide +kernel
theorem d_M_init_118 : decode c_M_init 118 = .ok (.invokevirtual 59, 3) := by decide +kernel
theorem d_M_init_121 : decode c_M_init 121 = .ok (.return_, 1) := by decide +kernel
theorem d_M_thrown_0 : decode c_M_thrown 0 = .ok (.aload_n 0, 1) := by decide +kernel
theorem d_M_thrown_1 : decode c_M_thrown 1 = .ok (.getfield 63, 3) := by decide +kernel
theorem d_M_thrown_4 : decode c_M_thrown 4 = .ok (.ireturn, 1) := by decide +kernel
theorem d_M_clear_0 : decode c_M_clear 0 = .ok (.aload_n 0, 1) := by decide +kernel
theorem d_M_clear_1 : decode c_M_clear 1 = .ok (.iload_n 1, 1) := by decide +kernel
theorem d_M_clear_2 : decode c_M_clear 2 = .ok (.putfield 7, 3) := by decide +kernel
theorem d_M_clear_5 : decode c_M_clear 5 = .ok (.aload_n 0, 1) := by decide +kernel
theorem d_M_clear_6 : decode c_M_clear 6 = .ok (.iload_n 2, 1) := by decide +kernel
theorem d_M_clear_7 : decode c_M_clear 7 = .ok (.putfield 13, 3) := by decide +kernel
theorem d_M_clear_10 : decode c_M_clear 10 = .ok (.iconst 0, 1) := by decide +kernel
theorem d_M_clear_11 : decode c_M_clear 11 = .ok (.istore_n 3, 1) := by decide +kernel
theorem d_M_clear_12 : decode c_M_clear 12 = .ok (.iload_n 3, 1) := by decide +kernel
theorem d_M_clear_13 : decode c_M_clear 13 = .ok (.bipush 12, 2) := by decide +kernel
theorem d_M_clear_15 : decode c_M_clear 15 = .ok (.if_icmp .ge 30, 3) := by decide +kernel
theorem d_M_clear_18 : decode c_M_clear 18 = .ok (.aload_n 0, 1) := by decide +kernel
theorem d_M_clear_19 : decode c_M_clear 19 = .ok (.getfield 16, 3) := by decide +kernel
theorem d_M_clear_22 : decode c_M_clear 22 = .ok (.iload_n 3, 1) := by decide +kernel
theorem d_M_clear_23 : decode c_M_clear 23 = .ok (.iload_n 3, 1) := by decide +kernel
theorem d_M_clear_24 : decode c_M_clear 24 = .ok (.iastore, 1) := by decide +kernel
theorem d_M_clear_25 : decode c_M_clear 25 = .ok (.aload_n 0, 1) := by decide +kernel
theorem d_M_clear_26 : decode c_M_clear 26 = .ok (.getfield 20, 3) := by decide +kernel
theorem d_M_clear_29 : decode c_M_clear 29 = .ok (.iload_n 3, 1) := by decide +kernel
theorem d_M_clear_30 : decode c_M_clear 30 = .ok (.iconst 0, 1) := by decide +kernel
theorem d_M_clear_31 : decode c_M_clear 31 = .ok (.iastore, 1) := by decide +kernel
theorem d_M_clear_32 : decode c_M_clear 32 = .ok (.aload_n 0, 1) := by decide +kernel
theorem d_M_clear_33 : decode c_M_clear 33 = .ok (.getfield 39, 3) := by decide +kernel
theorem d_M_clear_36 : decode c_M_clear 36 = .ok (.iload_n 3, 1) := by decide +kernel
theorem d_M_clear_37 : decode c_M_clear 37 = .ok (.iconst 0, 1) := by decide +kernel
theorem d_M_clear_38 : decode c_M_clear 38 = .ok (.bastore, 1) := by decide +kernel
theorem d_M_clear_39 : decode c_M_clear 39 = .ok (.iinc 3 1, 3) := by decide +kernel
theorem d_M_clear_42 : decode c_M_clear 42 = .ok (.goto (-30), 3) := by decide +kernel
theorem d_M_clear_45 : decode c_M_clear 45 = .ok (.aload_n 0, 1) := by decide +kernel
theorem d_M_clear_46 : decode c_M_clear 46 = .ok (.iconst 0, 1) := by decide +kernel
theorem d_M_clear_47 : decode c_M_clear 47 = .ok (.putfield 66, 3) := by decide +kernel
theorem d_M_clear_50 : decode c_M_clear 50 = .ok (.aload_n 0, 1) := by decide +kernel
theorem d_M_clear_51 : decode c_M_clear 51 = .ok (.iconst 0, 1) := by decide +kernel
theorem d_M_clear_52 : decode c_M_clear 52 = .ok (.putfield 69, 3) := by decide +kernel
theorem d_M_clear_55 : decode c_M_clear 55 = .ok (.aload_n 0, 1) := by decide +kernel
theorem d_M_clear_56 : decode c_M_clear 56 = .ok (.iconst 0, 1) := by decide +kernel
theorem d_M_clear_57 : decode c_M_clear 57 = .ok (.putfield 72, 3) := by decide +kernel
theorem d_M_clear_60 : decode c_M_clear 60 = .ok (.aload_n 0, 1) := by decide +kernel
theorem d_M_clear_61 : decode c_M_clear 61 = .ok (.iconst (-1), 1) := by decide +kernel
theorem d_M_clear_62 : decode c_M_clear 62 = .ok (.putfield 47, 3) := by decide +kernel
theorem d_M_clear_65 : decode c_M_clear 65 = .ok (.aload_n 0, 1) := by decide +kernel
theorem d_M_clear_66 : decode c_M_clear 66 = .ok (.iconst 0, 1) := by decide +kernel
theorem d_M_clear_67 : decode c_M_clear 67 = .ok (.putfield 75, 3) := by decide +kernel
theorem d_M_clear_70 : decode c_M_clear 70 = .ok (.return_, 1) := by decide +kernel
theorem d_M_says_0 : decode c_M_says 0 = .ok (.aload_n 0, 1) := by decide +kernel
theorem d_M_says_1 : decode c_M_says 1 = .ok (.iload_n 1, 1) := by decide +kernel
theorem d_M_says_2 : decode c_M_says 2 = .ok (.putfield 63, 3) := by decide +kernel
theorem d_M_says_5 : decode c_M_says 5 = .ok (.iload_n 1, 1) := by decide +kernel
theorem d_M_says_6 : decode c_M_says 6 = .ok (.ifCond .ne 7, 3) := by decide +kernel
theorem d_M_says_9 : decode c_M_says 9 = .ok (.iconst 1, 1) := by decide +kernel
theorem d_M_says_10 : decode c_M_says 10 = .ok (.goto 4, 3) := by decide +kernel
theorem d_M_says_13 : decode c_M_says 13 = .ok (.iconst 0, 1) := by decide +kernel
theorem d_M_says_14 : decode c_M_says 14 = .ok (.ireturn, 1) := by decide +kernel
theorem d_M_isCandidate_0 : decode c_M_isCandidate 0 = .ok (.iload_n 1, 1) := by decide +kernel
theorem d_M_isCandidate_1 : decode c_M_isCandidate 1 = .ok (.ifCond .lt 15, 3) := by decide +kernel
theorem d_M_isCandidate_4 : decode c_M_isCandidate 4 = .ok (.iload_n 1, 1) := by decide +kernel
theorem d_M_isCandidate_5 : decode c_M_isCandidate 5 = .ok (.aload_n 0, 1) := by decide +kernel
theorem d_M_isCandidate_6 : decode c_M_isCandidate 6 = .ok (.getfield 7, 3) := by decide +kernel
theorem d_M_isCandidate_9 : decode c_M_isCandidate 9 = .ok (.if_icmp .ge 7, 3) := by decide +kernel
theorem d_M_isCandidate_12 : decode c_M_isCandidate 12 = .ok (.iconst 1, 1) := by decide +kernel
theorem d_M_isCandidate_13 : decode c_M_isCandidate 13 = .ok (.goto 4, 3) := by decide +kernel
theorem d_M_isCandidate_16 : decode c_M_isCandidate 16 = .ok (.iconst 0, 1) := by decide +kernel
theorem d_M_isCandidate_17 : decode c_M_isCandidate 17 = .ok (.ireturn, 1) := by decide +kernel
theorem d_M_begin_0 : decode c_M_begin 0 = .ok (.aload_n 0, 1) := by decide +kernel
theorem d_M_begin_1 : decode c_M_begin 1 = .ok (.iload_n 1, 1) := by decide +kernel
theorem d_M_begin_2 : decode c_M_begin 2 = .ok (.iconst 2, 1) := by decide +kernel
theorem d_M_begin_3 : decode c_M_begin 3 = .ok (.if_icmp .lt 28, 3) := by decide +kernel
theorem d_M_begin_6 : decode c_M_begin 6 = .ok (.iload_n 1, 1) := by decide +kernel
theorem d_M_begin_7 : decode c_M_begin 7 = .ok (.bipush 12, 2) := by decide +kernel
theorem d_M_begin_9 : decode c_M_begin 9 = .ok (.if_icmp .gt 22, 3) := by decide +kernel
theorem d_M_begin_12 : decode c_M_begin 12 = .ok (.iload_n 2, 1) := by decide +kernel
theorem d_M_begin_13 : decode c_M_begin 13 = .ok (.iconst 1, 1) := by decide +kernel
theorem d_M_begin_14 : decode c_M_begin 14 = .ok (.if_icmp .lt 17, 3) := by decide +kernel
theorem d_M_begin_17 : decode c_M_begin 17 = .ok (.iload_n 2, 1) := by decide +kernel
theorem d_M_begin_18 : decode c_M_begin 18 = .ok (.iconst 4, 1) := by decide +kernel
theorem d_M_begin_19 : decode c_M_begin 19 = .ok (.if_icmp .gt 12, 3) := by decide +kernel
theorem d_M_begin_22 : decode c_M_begin 22 = .ok (.iload_n 2, 1) := by decide +kernel
theorem d_M_begin_23 : decode c_M_begin 23 = .ok (.iload_n 1, 1) := by decide +kernel
theorem d_M_begin_24 : decode c_M_begin 24 = .ok (.if_icmp .ge 7, 3) := by decide +kernel
theorem d_M_begin_27 : decode c_M_begin 27 = .ok (.iconst 0, 1) := by decide +kernel
theorem d_M_begin_28 : decode c_M_begin 28 = .ok (.goto 4, 3) := by decide +kernel
theorem d_M_begin_31 : decode c_M_begin 31 = .ok (.iconst 1, 1) := by decide +kernel
theorem d_M_begin_32 : decode c_M_begin 32 = .ok (.invokevirtual 79, 3) := by decide +kernel
theorem d_M_begin_35 : decode c_M_begin 35 = .ok (.ifCond .eq 9, 3) := by decide +kernel
theorem d_M_begin_38 : decode c_M_begin 38 = .ok (.aload_n 0, 1) := by decide +kernel
theorem d_M_begin_39 : decode c_M_begin 39 = .ok (.iload_n 1, 1) := by decide +kernel
theorem d_M_begin_40 : decode c_M_begin 40 = .ok (.iload_n 2, 1) := by decide +kernel
theorem d_M_begin_41 : decode c_M_begin 41 = .ok (.invokevirtual 59, 3) := by decide +kernel
theorem d_M_begin_44 : decode c_M_begin 44 = .ok (.return_, 1) := by decide +kernel
theorem d_M_draw_0 : decode c_M_draw 0 = .ok (.aload_n 0, 1) := by decide +kernel
theorem d_M_draw_1 : decode c_M_draw 1 = .ok (.iload_n 1, 1) := by decide +kernel
theorem d_M_draw_2 : decode c_M_draw 2 = .ok (.invokevirtual 83, 3) := by decide +kernel
theorem d_M_draw_5 : decode c_M_draw 5 = .ok (.ifCond .eq 18, 3) := by decide +kernel
theorem d_M_draw_8 : decode c_M_draw 8 = .ok (.iload_n 2, 1) := by decide +kernel
theorem d_M_draw_9 : decode c_M_draw 9 = .ok (.ifCond .lt 14, 3) := by decide +kernel
theorem d_M_draw_12 : decode c_M_draw 12 = .ok (.iload_n 2, 1) := by decide +kernel
theorem d_M_draw_13 : decode c_M_draw 13 = .ok (.sipush 999, 3) := by decide +kernel
theorem d_M_draw_16 : decode c_M_draw 16 = .ok (.if_icmp .gt 7, 3) := by decide +kernel
theorem d_M_draw_19 : decode c_M_draw 19 = .ok (.iconst 1, 1) := by decide +kernel
theorem d_M_draw_20 : decode c_M_draw 20 = .ok (.goto 4, 3) := by decide +kernel
theorem d_M_draw_23 : decode c_M_draw 23 = .ok (.iconst 0, 1) := by decide +kernel
theorem d_M_draw_24 : decode c_M_draw 24 = .ok (.istore_n 3, 1) := by decide +kernel
theorem d_M_draw_25 : decode c_M_draw 25 = .ok (.iconst 0, 1) := by decide +kernel
theorem d_M_draw_26 : decode c_M_draw 26 = .ok (.istore 4, 2) := by decide +kernel
theorem d_M_draw_28 : decode c_M_draw 28 = .ok (.iload 4, 2) := by decide +kernel
theorem d_M_draw_30 : decode c_M_draw 30 = .ok (.aload_n 0, 1) := by decide +kernel
theorem d_M_draw_31 : decode c_M_draw 31 = .ok (.getfield 7, 3) := by decide +kernel
theorem d_M_draw_34 : decode c_M_draw 34 = .ok (.if_icmp .ge 36, 3) := by decide +kernel
theorem d_M_draw_37 : decode c_M_draw 37 = .ok (.iload_n 3, 1) := by decide +kernel
theorem d_M_draw_38 : decode c_M_draw 38 = .ok (.ifCond .eq 24, 3) := by decide +kernel
theorem d_M_draw_41 : decode c_M_draw 41 = .ok (.iload 4, 2) := by decide +kernel
theorem d_M_draw_43 : decode c_M_draw 43 = .ok (.iload_n 1, 1) := by decide +kernel
theorem d_M_draw_44 : decode c_M_draw 44 = .ok (.if_icmp .eq 14, 3) := by decide +kernel
theorem d_M_draw_47 : decode c_M_draw 47 = .ok (.aload_n 0, 1) := by decide +kernel
theorem d_M_draw_48 : decode c_M_draw 48 = .ok (.getfield 16, 3) := by decide +kernel
theorem d_M_draw_51 : decode c_M_draw 51 = .ok (.iload 4, 2) := by decide +kernel
theorem d_M_draw_53 : decode c_M_draw 53 = .ok (.iaload, 1) := by decide +kernel
theorem d_M_draw_54 : decode c_M_draw 54 = .ok (.iload_n 2, 1) := by decide +kernel
theorem d_M_draw_55 : decode c_M_draw 55 = .ok (.if_icmp .eq 7, 3) := by decide +kernel
theorem d_M_draw_58 : decode c_M_draw 58 = .ok (.iconst 1, 1) := by decide +kernel
theorem d_M_draw_59 : decode c_M_draw 59 = .ok (.goto 4, 3) := by decide +kernel
theorem d_M_draw_62 : decode c_M_draw 62 = .ok (.iconst 0, 1) := by decide +kernel
theorem d_M_draw_63 : decode c_M_draw 63 = .ok (.istore_n 3, 1) := by decide +kernel
theorem d_M_draw_64 : decode c_M_draw 64 = .ok (.iinc 4 1, 3) := by decide +kernel
theorem d_M_draw_67 : decode c_M_draw 67 = .ok (.goto (-39), 3) := by decide +kernel
theorem d_M_draw_70 : decode c_M_draw 70 = .ok (.aload_n 0, 1) := by decide +kernel
theorem d_M_draw_71 : decode c_M_draw 71 = .ok (.aload_n 0, 1) := by decide +kernel
theorem d_M_draw_72 : decode c_M_draw 72 = .ok (.getfield 47, 3) := by decide +kernel
theorem d_M_draw_75 : decode c_M_draw 75 = .ok (.ifCond .lt 7, 3) := by decide +kernel
theorem d_M_draw_78 : decode c_M_draw 78 = .ok (.iconst 1, 1) := by decide +kernel
theorem d_M_draw_79 : decode c_M_draw 79 = .ok (.goto 12, 3) := by decide +kernel
theorem d_M_draw_82 : decode c_M_draw 82 = .ok (.iload_n 3, 1) := by decide +kernel
theorem d_M_draw_83 : decode c_M_draw 83 = .ok (.ifCond .eq 7, 3) := by decide +kernel
theorem d_M_draw_86 : decode c_M_draw 86 = .ok (.iconst 0, 1) := by decide +kernel
theorem d_M_draw_87 : decode c_M_draw 87 = .ok (.goto 4, 3) := by decide +kernel
theorem d_M_draw_90 : decode c_M_draw 90 = .ok (.iconst 2, 1) := by decide +kernel
theorem d_M_draw_91 : decode c_M_draw 91 = .ok (.invokevirtual 79, 3) := by decide +kernel
theorem d_M_draw_94 : decode c_M_draw 94 = .ok (.ifCond .eq 10, 3) := by decide +kernel
theorem d_M_draw_97 : decode c_M_draw 97 = .ok (.aload_n 0, 1) := by decide +kernel
theorem d_M_draw_98 : decode c_M_draw 98 = .ok (.getfield 16, 3) := by decide +kernel
theorem d_M_draw_101 : decode c_M_draw 101 = .ok (.iload_n 1, 1) := by decide +kernel
theorem d_M_draw_102 : decode c_M_draw 102 = .ok (.iload_n 2, 1) := by decide +kernel
theorem d_M_draw_103 : decode c_M_draw 103 = .ok (.iastore, 1) := by decide +kernel
theorem d_M_draw_104 : decode c_M_draw 104 = .ok (.return_, 1) := by decide +kernel
theorem d_M_continuing_0 : decode c_M_continuing 0 = .ok (.iconst 0, 1) := by decide +kernel
theorem d_M_continuing_1 : decode c_M_continuing 1 = .ok (.istore_n 1, 1) := by decide +kernel
theorem d_M_continuing_2 : decode c_M_continuing 2 = .ok (.iconst 0, 1) := by decide +kernel
theorem d_M_continuing_3 : decode c_M_continuing 3 = .ok (.istore_n 2, 1) := by decide +kernel
theorem d_M_continuing_4 : decode c_M_continuing 4 = .ok (.iload_n 2, 1) := by decide +kernel
theorem d_M_continuing_5 : decode c_M_continuing 5 = .ok (.aload_n 0, 1) := by decide +kernel
theorem d_M_continuing_6 : decode c_M_continuing 6 = .ok (.getfield 7, 3) := by decide +kernel
theorem d_M_continuing_9 : decode c_M_continuing 9 = .ok (.if_icmp .ge 26, 3) := by decide +kernel
theorem d_M_continuing_12 : decode c_M_continuing 12 = .ok (.iload_n 1, 1) := by decide +kernel
theorem d_M_continuing_13 : decode c_M_continuing 13 = .ok (.aload_n 0, 1) := by decide +kernel
theorem d_M_continuing_14 : decode c_M_continuing 14 = .ok (.getfield 20, 3) := by decide +kernel
theorem d_M_continuing_17 : decode c_M_continuing 17 = .ok (.iload_n 2, 1) := by decide +kernel
theorem d_M_continuing_18 : decode c_M_continuing 18 = .ok (.iaload, 1) := by decide +kernel
theorem d_M_continuing_19 : decode c_M_continuing 19 = .ok (.ifCond .ne 7, 3) := by decide +kernel
theorem d_M_continuing_22 : decode c_M_continuing 22 = .ok (.iconst 1, 1) := by decide +kernel
theorem d_M_continuing_23 : decode c_M_continuing 23 = .ok (.goto 4, 3) := by decide +kernel
theorem d_M_continuing_26 : decode c_M_continuing 26 = .ok (.iconst 0, 1) := by decide +kernel
theorem d_M_continuing_27 : decode c_M_continuing 27 = .ok (.iadd, 1) := by decide +kernel
theorem d_M_continuing_28 : decode c_M_continuing 28 = .ok (.istore_n 1, 1) := by decide +kernel
theorem d_M_continuing_29 : decode c_M_continuing 29 = .ok (.iinc 2 1, 3) := by decide +kernel
theorem d_M_continuing_32 : decode c_M_continuing 32 = .ok (.goto (-28), 3) := by decide +kernel
theorem d_M_continuing_35 : decode c_M_continuing 35 = .ok (.iload_n 1, 1) := by decide +kernel
theorem d_M_continuing_36 : decode c_M_continuing 36 = .ok (.ireturn, 1) := by decide +kernel
theorem d_M_withdraw_0 : decode c_M_withdraw 0 = .ok (.aload_n 0, 1) := by decide +kernel
theorem d_M_withdraw_1 : decode c_M_withdraw 1 = .ok (.iload_n 1, 1) := by decide +kernel
theorem d_M_withdraw_2 : decode c_M_withdraw 2 = .ok (.invokevirtual 83, 3) := by decide +kernel
theorem d_M_withdraw_5 : decode c_M_withdraw 5 = .ok (.ifCond .eq 41, 3) := by decide +kernel
theorem d_M_withdraw_8 : decode c_M_withdraw 8 = .ok (.aload_n 0, 1) := by decide +kernel
theorem d_M_withdraw_9 : decode c_M_withdraw 9 = .ok (.getfield 20, 3) := by decide +kernel
theorem d_M_withdraw_12 : decode c_M_withdraw 12 = .ok (.aload_n 0, 1) := by decide +kernel
theorem d_M_withdraw_13 : decode c_M_withdraw 13 = .ok (.iload_n 1, 1) := by decide +kernel
theorem d_M_withdraw_14 : decode c_M_withdraw 14 = .ok (.invokevirtual 83, 3) := by decide +kernel
theorem d_M_withdraw_17 : decode c_M_withdraw 17 = .ok (.ifCond .eq 7, 3) := by decide +kernel
theorem d_M_withdraw_20 : decode c_M_withdraw 20 = .ok (.iload_n 1, 1) := by decide +kernel
theorem d_M_withdraw_21 : decode c_M_withdraw 21 = .ok (.goto 4, 3) := by decide +kernel
theorem d_M_withdraw_24 : decode c_M_withdraw 24 = .ok (.iconst 0, 1) := by decide +kernel
theorem d_M_withdraw_25 : decode c_M_withdraw 25 = .ok (.iaload, 1) := by decide +kernel
theorem d_M_withdraw_26 : decode c_M_withdraw 26 = .ok (.ifCond .ne 20, 3) := by decide +kernel
theorem d_M_withdraw_29 : decode c_M_withdraw 29 = .ok (.aload_n 0, 1) := by decide +kernel
theorem d_M_withdraw_30 : decode c_M_withdraw 30 = .ok (.invokevirtual 86, 3) := by decide +kernel
theorem d_M_withdraw_33 : decode c_M_withdraw 33 = .ok (.aload_n 0, 1) := by decide +kernel
theorem d_M_withdraw_34 : decode c_M_withdraw 34 = .ok (.getfield 13, 3) := by decide +kernel
theorem d_M_withdraw_37 : decode c_M_withdraw 37 = .ok (.iconst 1, 1) := by decide +kernel
theorem d_M_withdraw_38 : decode c_M_withdraw 38 = .ok (.iadd, 1) := by decide +kernel
theorem d_M_withdraw_39 : decode c_M_withdraw 39 = .ok (.if_icmp .le 7, 3) := by decide +kernel
theorem d_M_withdraw_42 : decode c_M_withdraw 42 = .ok (.iconst 1, 1) := by decide +kernel
theorem d_M_withdraw_43 : decode c_M_withdraw 43 = .ok (.goto 4, 3) := by decide +kernel
theorem d_M_withdraw_46 : decode c_M_withdraw 46 = .ok (.iconst 0, 1) := by decide +kernel
theorem d_M_withdraw_47 : decode c_M_withdraw 47 = .ok (.istore_n 2, 1) := by decide +kernel
theorem d_M_withdraw_48 : decode c_M_withdraw 48 = .ok (.aload_n 0, 1) := by decide +kernel
theorem d_M_withdraw_49 : decode c_M_withdraw 49 = .ok (.aload_n 0, 1) := by decide +kernel
theorem d_M_withdraw_50 : decode c_M_withdraw 50 = .ok (.getfield 47, 3) := by decide +kernel
theorem d_M_withdraw_53 : decode c_M_withdraw 53 = .ok (.ifCond .lt 7, 3) := by decide +kernel
theorem d_M_withdraw_56 : decode c_M_withdraw 56 = .ok (.iconst 1, 1) := by decide +kernel
theorem d_M_withdraw_57 : decode c_M_withdraw 57 = .ok (.goto 12, 3) := by decide +kernel
theorem d_M_withdraw_60 : decode c_M_withdraw 60 = .ok (.iload_n 2, 1) := by decide +kernel
theorem d_M_withdraw_61 : decode c_M_withdraw 61 = .ok (.ifCond .eq 7, 3) := by decide +kernel
theorem d_M_withdraw_64 : decode c_M_withdraw 64 = .ok (.iconst 0, 1) := by decide +kernel
theorem d_M_withdraw_65 : decode c_M_withdraw 65 = .ok (.goto 4, 3) := by decide +kernel
theorem d_M_withdraw_68 : decode c_M_withdraw 68 = .ok (.iconst 2, 1) := by decide +kernel
theorem d_M_withdraw_69 : decode c_M_withdraw 69 = .ok (.invokevirtual 79, 3) := by decide +kernel
theorem d_M_withdraw_72 : decode c_M_withdraw 72 = .ok (.ifCond .eq 8, 3) := by decide +kernel
theorem d_M_withdraw_75 : decode c_M_withdraw 75 = .ok (.aload_n 0, 1) := by decide +kernel
theorem d_M_withdraw_76 : decode c_M_withdraw 76 = .ok (.iload_n 1, 1) := by decide +kernel
theorem d_M_withdraw_77 : decode c_M_withdraw 77 = .ok (.invokevirtual 90, 3) := by decide +kernel
theorem d_M_withdraw_80 : decode c_M_withdraw 80 = .ok (.return_, 1) := by decide +kernel
theorem d_M_exclude_0 : decode c_M_exclude 0 = .ok (.aload_n 0, 1) := by decide +kernel
theorem d_M_exclude_1 : decode c_M_exclude 1 = .ok (.dup, 1) := by decide +kernel
theorem d_M_exclude_2 : decode c_M_exclude 2 = .ok (.getfield 69, 3) := by decide +kernel
theorem d_M_exclude_5 : decode c_M_exclude 5 = .ok (.iconst 1, 1) := by decide +kernel
theorem d_M_exclude_6 : decode c_M_exclude 6 = .ok (.iadd, 1) := by decide +kernel
theorem d_M_exclude_7 : decode c_M_exclude 7 = .ok (.putfield 69, 3) := by decide +kernel
theorem d_M_exclude_10 : decode c_M_exclude 10 = .ok (.aload_n 0, 1) := by decide +kernel
theorem d_M_exclude_11 : decode c_M_exclude 11 = .ok (.getfield 20, 3) := by decide +kernel
theorem d_M_exclude_14 : decode c_M_exclude 14 = .ok (.iload_n 1, 1) := by decide +kernel
theorem d_M_exclude_15 : decode c_M_exclude 15 = .ok (.aload_n 0, 1) := by decide +kernel
theorem d_M_exclude_16 : decode c_M_exclude 16 = .ok (.getfield 69, 3) := by decide +kernel
theorem d_M_exclude_19 : decode c_M_exclude 19 = .ok (.ineg, 1) := by decide +kernel
theorem d_M_exclude_20 : decode c_M_exclude 20 = .ok (.iastore, 1) := by decide +kernel
theorem d_M_exclude_21 : decode c_M_exclude 21 = .ok (.return_, 1) := by decide +kernel
theorem d_M_rank_0 : decode c_M_rank 0 = .ok (.lload_n 0, 1) := by decide +kernel
theorem d_M_rank_1 : decode c_M_rank 1 = .ok (.iconst 4, 1) := by decide +kernel
theorem d_M_rank_2 : decode c_M_rank 2 = .ok (.iload_n 2, 1) := by decide +kernel
theorem d_M_rank_3 : decode c_M_rank 3 = .ok (.imul, 1) := by decide +kernel
theorem d_M_rank_4 : decode c_M_rank 4 = .ok (.lushr, 1) := by decide +kernel
theorem d_M_rank_5 : decode c_M_rank 5 = .ok (.ldc2_w 94, 3) := by decide +kernel
theorem d_M_rank_8 : decode c_M_rank 8 = .ok (.land, 1) := by decide +kernel
theorem d_M_rank_9 : decode c_M_rank 9 = .ok (.l2i, 1) := by decide +kernel
theorem d_M_rank_10 : decode c_M_rank 10 = .ok (.iconst 1, 1) := by decide +kernel
theorem d_M_rank_11 : decode c_M_rank 11 = .ok (.isub, 1) := by decide +kernel
theorem d_M_rank_12 : decode c_M_rank 12 = .ok (.ireturn, 1) := by decide +kernel
theorem d_M_lay_0 : decode c_M_lay 0 = .ok (.iconst 0, 1) := by decide +kernel
theorem d_M_lay_1 : decode c_M_lay 1 = .ok (.istore 4, 2) := by decide +kernel
theorem d_M_lay_3 : decode c_M_lay 3 = .ok (.iload_n 3, 1) := by decide +kernel
theorem d_M_lay_4 : decode c_M_lay 4 = .ok (.iconst 1, 1) := by decide +kernel
theorem d_M_lay_5 : decode c_M_lay 5 = .ok (.if_icmp .lt 22, 3) := by decide +kernel
theorem d_M_lay_8 : decode c_M_lay 8 = .ok (.aload_n 0, 1) := by decide +kernel
theorem d_M_lay_9 : decode c_M_lay 9 = .ok (.getfield 72, 3) := by decide +kernel
theorem d_M_lay_12 : decode c_M_lay 12 = .ok (.i2l, 1) := by decide +kernel
theorem d_M_lay_13 : decode c_M_lay 13 = .ok (.iload_n 3, 1) := by decide +kernel
theorem d_M_lay_14 : decode c_M_lay 14 = .ok (.i2l, 1) := by decide +kernel
theorem d_M_lay_15 : decode c_M_lay 15 = .ok (.ladd, 1) := by decide +kernel
theorem d_M_lay_16 : decode c_M_lay 16 = .ok (.ldc2_w 96, 3) := by decide +kernel
theorem d_M_lay_19 : decode c_M_lay 19 = .ok (.lcmp, 1) := by decide +kernel
theorem d_M_lay_20 : decode c_M_lay 20 = .ok (.ifCond .gt 7, 3) := by decide +kernel
theorem d_M_lay_23 : decode c_M_lay 23 = .ok (.iconst 1, 1) := by decide +kernel
theorem d_M_lay_24 : decode c_M_lay 24 = .ok (.goto 4, 3) := by decide +kernel
theorem d_M_lay_27 : decode c_M_lay 27 = .ok (.iconst 0, 1) := by decide +kernel
theorem d_M_lay_28 : decode c_M_lay 28 = .ok (.istore 5, 2) := by decide +kernel
theorem d_M_lay_30 : decode c_M_lay 30 = .ok (.iload 4, 2) := by decide +kernel
theorem d_M_lay_32 : decode c_M_lay 32 = .ok (.bipush 16, 2) := by decide +kernel
theorem d_M_lay_34 : decode c_M_lay 34 = .ok (.if_icmp .ge 93, 3) := by decide +kernel
theorem d_M_lay_37 : decode c_M_lay 37 = .ok (.lload_n 1, 1) := by decide +kernel
theorem d_M_lay_38 : decode c_M_lay 38 = .ok (.iload 4, 2) := by decide +kernel
theorem d_M_lay_40 : decode c_M_lay 40 = .ok (.invokestatic 98, 3) := by decide +kernel
theorem d_M_lay_43 : decode c_M_lay 43 = .ok (.ifCond .lt 84, 3) := by decide +kernel
theorem d_M_lay_46 : decode c_M_lay 46 = .ok (.iload 5, 2) := by decide +kernel
theorem d_M_lay_48 : decode c_M_lay 48 = .ok (.ifCond .eq 27, 3) := by decide +kernel
theorem d_M_lay_51 : decode c_M_lay 51 = .ok (.iload 4, 2) := by decide +kernel
theorem d_M_lay_53 : decode c_M_lay 53 = .ok (.bipush 7, 2) := by decide +kernel
theorem d_M_lay_55 : decode c_M_lay 55 = .ok (.if_icmp .ge 20, 3) := by decide +kernel
theorem d_M_lay_58 : decode c_M_lay 58 = .ok (.lload_n 1, 1) := by decide +kernel
theorem d_M_lay_59 : decode c_M_lay 59 = .ok (.iload 4, 2) := by decide +kernel
theorem d_M_lay_61 : decode c_M_lay 61 = .ok (.invokestatic 98, 3) := by decide +kernel
theorem d_M_lay_64 : decode c_M_lay 64 = .ok (.aload_n 0, 1) := by decide +kernel
theorem d_M_lay_65 : decode c_M_lay 65 = .ok (.getfield 7, 3) := by decide +kernel
theorem d_M_lay_68 : decode c_M_lay 68 = .ok (.if_icmp .ge 7, 3) := by decide +kernel
theorem d_M_lay_71 : decode c_M_lay 71 = .ok (.iconst 1, 1) := by decide +kernel
theorem d_M_lay_72 : decode c_M_lay 72 = .ok (.goto 4, 3) := by decide +kernel
theorem d_M_lay_75 : decode c_M_lay 75 = .ok (.iconst 0, 1) := by decide +kernel
theorem d_M_lay_76 : decode c_M_lay 76 = .ok (.istore 5, 2) := by decide +kernel
theorem d_M_lay_78 : decode c_M_lay 78 = .ok (.iconst 0, 1) := by decide +kernel
theorem d_M_lay_79 : decode c_M_lay 79 = .ok (.istore 6, 2) := by decide +kernel
theorem d_M_lay_81 : decode c_M_lay 81 = .ok (.iload 6, 2) := by decide +kernel
theorem d_M_lay_83 : decode c_M_lay 83 = .ok (.iload 4, 2) := by decide +kernel
theorem d_M_lay_85 : decode c_M_lay 85 = .ok (.if_icmp .ge 36, 3) := by decide +kernel
theorem d_M_lay_88 : decode c_M_lay 88 = .ok (.iload 5, 2) := by decide +kernel
theorem d_M_lay_90 : decode c_M_lay 90 = .ok (.ifCond .eq 22, 3) := by decide +kernel
theorem d_M_lay_93 : decode c_M_lay 93 = .ok (.lload_n 1, 1) := by decide +kernel
theorem d_M_lay_94 : decode c_M_lay 94 = .ok (.iload 6, 2) := by decide +kernel
theorem d_M_lay_96 : decode c_M_lay 96 = .ok (.invokestatic 98, 3) := by decide +kernel
theorem d_M_lay_99 : decode c_M_lay 99 = .ok (.lload_n 1, 1) := by decide +kernel
theorem d_M_lay_100 : decode c_M_lay 100 = .ok (.iload 4, 2) := by decide +kernel
theorem d_M_lay_102 : decode c_M_lay 102 = .ok (.invokestatic 98, 3) := by decide +kernel
theorem d_M_lay_105 : decode c_M_lay 105 = .ok (.if_icmp .eq 7, 3) := by decide +kernel
theorem d_M_lay_108 : decode c_M_lay 108 = .ok (.iconst 1, 1) := by decide +kernel
theorem d_M_lay_109 : decode c_M_lay 109 = .ok (.goto 4, 3) := by decide +kernel
theorem d_M_lay_112 : decode c_M_lay 112 = .ok (.iconst 0, 1) := by decide +kernel
theorem d_M_lay_113 : decode c_M_lay 113 = .ok (.istore 5, 2) := by decide +kernel
theorem d_M_lay_115 : decode c_M_lay 115 = .ok (.iinc 6 1, 3) := by decide +kernel
theorem d_M_lay_118 : decode c_M_lay 118 = .ok (.goto (-37), 3) := by decide +kernel
theorem d_M_lay_121 : decode c_M_lay 121 = .ok (.iinc 4 1, 3) := by decide +kernel
theorem d_M_lay_124 : decode c_M_lay 124 = .ok (.goto (-94), 3) := by decide +kernel
theorem d_M_lay_127 : decode c_M_lay 127 = .ok (.aload_n 0, 1) := by decide +kernel
theorem d_M_lay_128 : decode c_M_lay 128 = .ok (.aload_n 0, 1) := by decide +kernel
theorem d_M_lay_129 : decode c_M_lay 129 = .ok (.getfield 47, 3) := by decide +kernel
theorem d_M_lay_132 : decode c_M_lay 132 = .ok (.ifCond .lt 7, 3) := by decide +kernel
theorem d_M_lay_135 : decode c_M_lay 135 = .ok (.iconst 1, 1) := by decide +kernel
theorem d_M_lay_136 : decode c_M_lay 136 = .ok (.goto 18, 3) := by decide +kernel
theorem d_M_lay_139 : decode c_M_lay 139 = .ok (.iload 5, 2) := by decide +kernel
theorem d_M_lay_141 : decode c_M_lay 141 = .ok (.ifCond .eq 12, 3) := by decide +kernel
theorem d_M_lay_144 : decode c_M_lay 144 = .ok (.iload 4, 2) := by decide +kernel
theorem d_M_lay_146 : decode c_M_lay 146 = .ok (.ifCond .le 7, 3) := by decide +kernel
theorem d_M_lay_149 : decode c_M_lay 149 = .ok (.iconst 0, 1) := by decide +kernel
theorem d_M_lay_150 : decode c_M_lay 150 = .ok (.goto 4, 3) := by decide +kernel
theorem d_M_lay_153 : decode c_M_lay 153 = .ok (.iconst 2, 1) := by decide +kernel
theorem d_M_lay_154 : decode c_M_lay 154 = .ok (.invokevirtual 79, 3) := by decide +kernel
theorem d_M_lay_157 : decode c_M_lay 157 = .ok (.ifCond .ne 5, 3) := by decide +kernel
theorem d_M_lay_160 : decode c_M_lay 160 = .ok (.iconst 0, 1) := by decide +kernel
theorem d_M_lay_161 : decode c_M_lay 161 = .ok (.ireturn, 1) := by decide +kernel
theorem d_M_lay_162 : decode c_M_lay 162 = .ok (.aload_n 0, 1) := by decide +kernel
theorem d_M_lay_163 : decode c_M_lay 163 = .ok (.getfield 72, 3) := by decide +kernel
theorem d_M_lay_166 : decode c_M_lay 166 = .ok (.istore 6, 2) := by decide +kernel
theorem d_M_lay_168 : decode c_M_lay 168 = .ok (.iload 6, 2) := by decide +kernel
theorem d_M_lay_170 : decode c_M_lay 170 = .ok (.aload_n 0, 1) := by decide +kernel
theorem d_M_lay_171 : decode c_M_lay 171 = .ok (.getfield 72, 3) := by decide +kernel
theorem d_M_lay_174 : decode c_M_lay 174 = .ok (.iload_n 3, 1) := by decide +kernel
theorem d_M_lay_175 : decode c_M_lay 175 = .ok (.iadd, 1) := by decide +kernel
theorem d_M_lay_176 : decode c_M_lay 176 = .ok (.if_icmp .ge 53, 3) := by decide +kernel
theorem d_M_lay_179 : decode c_M_lay 179 = .ok (.aload_n 0, 1) := by decide +kernel
theorem d_M_lay_180 : decode c_M_lay 180 = .ok (.getfield 26, 3) := by decide +kernel
theorem d_M_lay_183 : decode c_M_lay 183 = .ok (.iload 6, 2) := by decide +kernel
theorem d_M_lay_185 : decode c_M_lay 185 = .ok (.iload 4, 2) := by decide +kernel
theorem d_M_lay_187 : decode c_M_lay 187 = .ok (.iastore, 1) := by decide +kernel
theorem d_M_lay_188 : decode c_M_lay 188 = .ok (.iconst 0, 1) := by decide +kernel
theorem d_M_lay_189 : decode c_M_lay 189 = .ok (.istore 7, 2) := by decide +kernel
theorem d_M_lay_191 : decode c_M_lay 191 = .ok (.iload 7, 2) := by decide +kernel
theorem d_M_lay_193 : decode c_M_lay 193 = .ok (.iload 4, 2) := by decide +kernel
theorem d_M_lay_195 : decode c_M_lay 195 = .ok (.if_icmp .ge 28, 3) := by decide +kernel
theorem d_M_lay_198 : decode c_M_lay 198 = .ok (.aload_n 0, 1) := by decide +kernel
theorem d_M_lay_199 : decode c_M_lay 199 = .ok (.getfield 23, 3) := by decide +kernel
theorem d_M_lay_202 : decode c_M_lay 202 = .ok (.bipush 7, 2) := by decide +kernel
theorem d_M_lay_204 : decode c_M_lay 204 = .ok (.iload 6, 2) := by decide +kernel
theorem d_M_lay_206 : decode c_M_lay 206 = .ok (.imul, 1) := by decide +kernel
theorem d_M_lay_207 : decode c_M_lay 207 = .ok (.iload 7, 2) := by decide +kernel
theorem d_M_lay_209 : decode c_M_lay 209 = .ok (.iadd, 1) := by decide +kernel
theorem d_M_lay_210 : decode c_M_lay 210 = .ok (.lload_n 1, 1) := by decide +kernel
theorem d_M_lay_211 : decode c_M_lay 211 = .ok (.iload 7, 2) := by decide +kernel
theorem d_M_lay_213 : decode c_M_lay 213 = .ok (.invokestatic 98, 3) := by decide +kernel
theorem d_M_lay_216 : decode c_M_lay 216 = .ok (.iastore, 1) := by decide +kernel
theorem d_M_lay_217 : decode c_M_lay 217 = .ok (.iinc 7 1, 3) := by decide +kernel
theorem d_M_lay_220 : decode c_M_lay 220 = .ok (.goto (-29), 3) := by decide +kernel
theorem d_M_lay_223 : decode c_M_lay 223 = .ok (.iinc 6 1, 3) := by decide +kernel
theorem d_M_lay_226 : decode c_M_lay 226 = .ok (.goto (-58), 3) := by decide +kernel
theorem d_M_lay_229 : decode c_M_lay 229 = .ok (.aload_n 0, 1) := by decide +kernel
theorem d_M_lay_230 : decode c_M_lay 230 = .ok (.dup, 1) := by decide +kernel
theorem d_M_lay_231 : decode c_M_lay 231 = .ok (.getfield 72, 3) := by decide +kernel
theorem d_M_lay_234 : decode c_M_lay 234 = .ok (.iload_n 3, 1) := by decide +kernel
theorem d_M_lay_235 : decode c_M_lay 235 = .ok (.iadd, 1) := by decide +kernel
theorem d_M_lay_236 : decode c_M_lay 236 = .ok (.putfield 72, 3) := by decide +kernel
theorem d_M_lay_239 : decode c_M_lay 239 = .ok (.aload_n 0, 1) := by decide +kernel
theorem d_M_lay_240 : decode c_M_lay 240 = .ok (.getfield 72, 3) := by decide +kernel
theorem d_M_lay_243 : decode c_M_lay 243 = .ok (.ireturn, 1) := by decide +kernel
theorem d_M_common_0 : decode c_M_common 0 = .ok (.lload_n 0, 1) := by decide +kernel
theorem d_M_common_1 : decode c_M_common 1 = .ok (.lstore 4, 2) := by decide +kernel
theorem d_M_common_3 : decode c_M_common 3 = .ok (.lload_n 2, 1) := by decide +kernel
theorem d_M_common_4 : decode c_M_common 4 = .ok (.lstore 6, 2) := by decide +kernel
theorem d_M_common_6 : decode c_M_common 6 = .ok (.lload 6, 2) := by decide +kernel
theorem d_M_common_8 : decode c_M_common 8 = .ok (.lconst 0, 1) := by decide +kernel
theorem d_M_common_9 : decode c_M_common 9 = .ok (.lcmp, 1) := by decide +kernel
theorem d_M_common_10 : decode c_M_common 10 = .ok (.ifCond .eq 21, 3) := by decide +kernel
theorem d_M_common_13 : decode c_M_common 13 = .ok (.lload 4, 2) := by decide +kernel
theorem d_M_common_15 : decode c_M_common 15 = .ok (.lload 6, 2) := by decide +kernel
theorem d_M_common_17 : decode c_M_common 17 = .ok (.lrem, 1) := by decide +kernel
theorem d_M_common_18 : decode c_M_common 18 = .ok (.lstore 8, 2) := by decide +kernel
theorem d_M_common_20 : decode c_M_common 20 = .ok (.lload 6, 2) := by decide +kernel
theorem d_M_common_22 : decode c_M_common 22 = .ok (.lstore 4, 2) := by decide +kernel
theorem d_M_common_24 : decode c_M_common 24 = .ok (.lload 8, 2) := by decide +kernel
theorem d_M_common_26 : decode c_M_common 26 = .ok (.lstore 6, 2) := by decide +kernel
theorem d_M_common_28 : decode c_M_common 28 = .ok (.goto (-22), 3) := by decide +kernel
theorem d_M_common_31 : decode c_M_common 31 = .ok (.lload 4, 2) := by decide +kernel
theorem d_M_common_33 : decode c_M_common 33 = .ok (.lreturn, 1) := by decide +kernel
theorem d_M_quota_0 : decode c_M_quota 0 = .ok (.aload_n 0, 1) := by decide +kernel
theorem d_M_quota_1 : decode c_M_quota 1 = .ok (.getfield 72, 3) := by decide +kernel
theorem d_M_quota_4 : decode c_M_quota 4 = .ok (.i2l, 1) := by decide +kernel
theorem d_M_quota_5 : decode c_M_quota 5 = .ok (.aload_n 0, 1) := by decide +kernel
theorem d_M_quota_6 : decode c_M_quota 6 = .ok (.getfield 43, 3) := by decide +kernel
theorem d_M_quota_9 : decode c_M_quota 9 = .ok (.aload_n 0, 1) := by decide +kernel
theorem d_M_quota_10 : decode c_M_quota 10 = .ok (.getfield 13, 3) := by decide +kernel
theorem d_M_quota_13 : decode c_M_quota 13 = .ok (.iconst 1, 1) := by decide +kernel
theorem d_M_quota_14 : decode c_M_quota 14 = .ok (.iadd, 1) := by decide +kernel
theorem d_M_quota_15 : decode c_M_quota 15 = .ok (.i2l, 1) := by decide +kernel
theorem d_M_quota_16 : decode c_M_quota 16 = .ok (.ldiv, 1) := by decide +kernel
theorem d_M_quota_17 : decode c_M_quota 17 = .ok (.lmul, 1) := by decide +kernel
theorem d_M_quota_18 : decode c_M_quota 18 = .ok (.lreturn, 1) := by decide +kernel
theorem d_M_lessen_0 : decode c_M_lessen 0 = .ok (.aload_n 0, 1) := by decide +kernel
theorem d_M_lessen_1 : decode c_M_lessen 1 = .ok (.getfield 43, 3) := by decide +kernel
theorem d_M_lessen_4 : decode c_M_lessen 4 = .ok (.aload_n 0, 1) := by decide +kernel
theorem d_M_lessen_5 : decode c_M_lessen 5 = .ok (.getfield 13, 3) := by decide +kernel
theorem d_M_lessen_8 : decode c_M_lessen 8 = .ok (.iconst 1, 1) := by decide +kernel
theorem d_M_lessen_9 : decode c_M_lessen 9 = .ok (.iadd, 1) := by decide +kernel
theorem d_M_lessen_10 : decode c_M_lessen 10 = .ok (.i2l, 1) := by decide +kernel
theorem d_M_lessen_11 : decode c_M_lessen 11 = .ok (.ldiv, 1) := by decide +kernel
theorem d_M_lessen_12 : decode c_M_lessen 12 = .ok (.lstore_n 1, 1) := by decide +kernel
theorem d_M_lessen_13 : decode c_M_lessen 13 = .ok (.iconst 0, 1) := by decide +kernel
theorem d_M_lessen_14 : decode c_M_lessen 14 = .ok (.istore_n 3, 1) := by decide +kernel
theorem d_M_lessen_15 : decode c_M_lessen 15 = .ok (.iload_n 3, 1) := by decide +kernel
theorem d_M_lessen_16 : decode c_M_lessen 16 = .ok (.aload_n 0, 1) := by decide +kernel
theorem d_M_lessen_17 : decode c_M_lessen 17 = .ok (.getfield 72, 3) := by decide +kernel
theorem d_M_lessen_20 : decode c_M_lessen 20 = .ok (.if_icmp .ge 20, 3) := by decide +kernel
theorem d_M_lessen_23 : decode c_M_lessen 23 = .ok (.lload_n 1, 1) := by decide +kernel
theorem d_M_lessen_24 : decode c_M_lessen 24 = .ok (.aload_n 0, 1) := by decide +kernel
theorem d_M_lessen_25 : decode c_M_lessen 25 = .ok (.getfield 35, 3) := by decide +kernel
theorem d_M_lessen_28 : decode c_M_lessen 28 = .ok (.iload_n 3, 1) := by decide +kernel
theorem d_M_lessen_29 : decode c_M_lessen 29 = .ok (.laload, 1) := by decide +kernel
theorem d_M_lessen_30 : decode c_M_lessen 30 = .ok (.invokestatic 102, 3) := by decide +kernel
theorem d_M_lessen_33 : decode c_M_lessen 33 = .ok (.lstore_n 1, 1) := by decide +kernel
theorem d_M_lessen_34 : decode c_M_lessen 34 = .ok (.iinc 3 1, 3) := by decide +kernel
theorem d_M_lessen_37 : decode c_M_lessen 37 = .ok (.goto (-22), 3) := by decide +kernel
theorem d_M_lessen_40 : decode c_M_lessen 40 = .ok (.aload_n 0, 1) := by decide +kernel
theorem d_M_lessen_41 : decode c_M_lessen 41 = .ok (.aload_n 0, 1) := by decide +kernel
theorem d_M_lessen_42 : decode c_M_lessen 42 = .ok (.getfield 43, 3) := by decide +kernel
theorem d_M_lessen_45 : decode c_M_lessen 45 = .ok (.lload_n 1, 1) := by decide +kernel
theorem d_M_lessen_46 : decode c_M_lessen 46 = .ok (.ldiv, 1) := by decide +kernel
theorem d_M_lessen_47 : decode c_M_lessen 47 = .ok (.putfield 43, 3) := by decide +kernel
theorem d_M_lessen_50 : decode c_M_lessen 50 = .ok (.iconst 0, 1) := by decide +kernel
theorem d_M_lessen_51 : decode c_M_lessen 51 = .ok (.istore_n 3, 1) := by decide +kernel
theorem d_M_lessen_52 : decode c_M_lessen 52 = .ok (.iload_n 3, 1) := by decide +kernel
theorem d_M_lessen_53 : decode c_M_lessen 53 = .ok (.aload_n 0, 1) := by decide +kernel
theorem d_M_lessen_54 : decode c_M_lessen 54 = .ok (.getfield 72, 3) := by decide +kernel
theorem d_M_lessen_57 : decode c_M_lessen 57 = .ok (.if_icmp .ge 23, 3) := by decide +kernel
theorem d_M_lessen_60 : decode c_M_lessen 60 = .ok (.aload_n 0, 1) := by decide +kernel
theorem d_M_lessen_61 : decode c_M_lessen 61 = .ok (.getfield 35, 3) := by decide +kernel
theorem d_M_lessen_64 : decode c_M_lessen 64 = .ok (.iload_n 3, 1) := by decide +kernel
theorem d_M_lessen_65 : decode c_M_lessen 65 = .ok (.aload_n 0, 1) := by decide +kernel
theorem d_M_lessen_66 : decode c_M_lessen 66 = .ok (.getfield 35, 3) := by decide +kernel
theorem d_M_lessen_69 : decode c_M_lessen 69 = .ok (.iload_n 3, 1) := by decide +kernel
theorem d_M_lessen_70 : decode c_M_lessen 70 = .ok (.laload, 1) := by decide +kernel
theorem d_M_lessen_71 : decode c_M_lessen 71 = .ok (.lload_n 1, 1) := by decide +kernel
theorem d_M_lessen_72 : decode c_M_lessen 72 = .ok (.ldiv, 1) := by decide +kernel
theorem d_M_lessen_73 : decode c_M_lessen 73 = .ok (.lastore, 1) := by decide +kernel
theorem d_M_lessen_74 : decode c_M_lessen 74 = .ok (.iinc 3 1, 3) := by decide +kernel
theorem d_M_lessen_77 : decode c_M_lessen 77 = .ok (.goto (-25), 3) := by decide +kernel
theorem d_M_lessen_80 : decode c_M_lessen 80 = .ok (.return_, 1) := by decide +kernel
theorem d_M_sumOf_0 : decode c_M_sumOf 0 = .ok (.iload_n 1, 1) := by decide +kernel
theorem d_M_sumOf_1 : decode c_M_sumOf 1 = .ok (.bipush 12, 2) := by decide +kernel
theorem d_M_sumOf_3 : decode c_M_sumOf 3 = .ok (.if_icmp .ge 19, 3) := by decide +kernel
theorem d_M_sumOf_6 : decode c_M_sumOf 6 = .ok (.aload_n 0, 1) := by decide +kernel
theorem d_M_sumOf_7 : decode c_M_sumOf 7 = .ok (.getfield 39, 3) := by decide +kernel
theorem d_M_sumOf_10 : decode c_M_sumOf 10 = .ok (.iload_n 1, 1) := by decide +kernel
theorem d_M_sumOf_11 : decode c_M_sumOf 11 = .ok (.baload, 1) := by decide +kernel
theorem d_M_sumOf_12 : decode c_M_sumOf 12 = .ok (.ifCond .eq 10, 3) := by decide +kernel
theorem d_M_sumOf_15 : decode c_M_sumOf 15 = .ok (.aload_n 0, 1) := by decide +kernel
theorem d_M_sumOf_16 : decode c_M_sumOf 16 = .ok (.invokevirtual 106, 3) := by decide +kernel
theorem d_M_sumOf_19 : decode c_M_sumOf 19 = .ok (.goto 4, 3) := by decide +kernel
theorem d_M_sumOf_22 : decode c_M_sumOf 22 = .ok (.lconst 0, 1) := by decide +kernel
theorem d_M_sumOf_23 : decode c_M_sumOf 23 = .ok (.lstore_n 2, 1) := by decide +kernel
theorem d_M_sumOf_24 : decode c_M_sumOf 24 = .ok (.iconst 0, 1) := by decide +kernel
theorem d_M_sumOf_25 : decode c_M_sumOf 25 = .ok (.istore 4, 2) := by decide +kernel
theorem d_M_sumOf_27 : decode c_M_sumOf 27 = .ok (.iload 4, 2) := by decide +kernel
theorem d_M_sumOf_29 : decode c_M_sumOf 29 = .ok (.aload_n 0, 1) := by decide +kernel
theorem d_M_sumOf_30 : decode c_M_sumOf 30 = .ok (.getfield 72, 3) := by decide +kernel
theorem d_M_sumOf_33 : decode c_M_sumOf 33 = .ok (.if_icmp .ge 34, 3) := by decide +kernel
theorem d_M_sumOf_36 : decode c_M_sumOf 36 = .ok (.lload_n 2, 1) := by decide +kernel
theorem d_M_sumOf_37 : decode c_M_sumOf 37 = .ok (.aload_n 0, 1) := by decide +kernel
theorem d_M_sumOf_38 : decode c_M_sumOf 38 = .ok (.getfield 32, 3) := by decide +kernel
theorem d_M_sumOf_41 : decode c_M_sumOf 41 = .ok (.iload 4, 2) := by decide +kernel
theorem d_M_sumOf_43 : decode c_M_sumOf 43 = .ok (.iaload, 1) := by decide +kernel
theorem d_M_sumOf_44 : decode c_M_sumOf 44 = .ok (.iload_n 1, 1) := by decide +kernel
theorem d_M_sumOf_45 : decode c_M_sumOf 45 = .ok (.if_icmp .ne 13, 3) := by decide +kernel
theorem d_M_sumOf_48 : decode c_M_sumOf 48 = .ok (.aload_n 0, 1) := by decide +kernel
theorem d_M_sumOf_49 : decode c_M_sumOf 49 = .ok (.getfield 35, 3) := by decide +kernel
theorem d_M_sumOf_52 : decode c_M_sumOf 52 = .ok (.iload 4, 2) := by decide +kernel
theorem d_M_sumOf_54 : decode c_M_sumOf 54 = .ok (.laload, 1) := by decide +kernel
theorem d_M_sumOf_55 : decode c_M_sumOf 55 = .ok (.goto 4, 3) := by decide +kernel
theorem d_M_sumOf_58 : decode c_M_sumOf 58 = .ok (.lconst 0, 1) := by decide +kernel
theorem d_M_sumOf_59 : decode c_M_sumOf 59 = .ok (.ladd, 1) := by decide +kernel
theorem d_M_sumOf_60 : decode c_M_sumOf 60 = .ok (.lstore_n 2, 1) := by decide +kernel
theorem d_M_sumOf_61 : decode c_M_sumOf 61 = .ok (.iinc 4 1, 3) := by decide +kernel
theorem d_M_sumOf_64 : decode c_M_sumOf 64 = .ok (.goto (-37), 3) := by decide +kernel
theorem d_M_sumOf_67 : decode c_M_sumOf 67 = .ok (.lload_n 2, 1) := by decide +kernel
theorem d_M_sumOf_68 : decode c_M_sumOf 68 = .ok (.lreturn, 1) := by decide +kernel
theorem d_M_goOn_0 : decode c_M_goOn 0 = .ok (.iload_n 2, 1) := by decide +kernel
theorem d_M_goOn_1 : decode c_M_goOn 1 = .ok (.istore_n 3, 1) := by decide +kernel
theorem d_M_goOn_2 : decode c_M_goOn 2 = .ok (.iload_n 3, 1) := by decide +kernel
theorem d_M_goOn_3 : decode c_M_goOn 3 = .ok (.aload_n 0, 1) := by decide +kernel
theorem d_M_goOn_4 : decode c_M_goOn 4 = .ok (.getfield 26, 3) := by decide +kernel
theorem d_M_goOn_7 : decode c_M_goOn 7 = .ok (.iload_n 1, 1) := by decide +kernel
theorem d_M_goOn_8 : decode c_M_goOn 8 = .ok (.iaload, 1) := by decide +kernel
theorem d_M_goOn_9 : decode c_M_goOn 9 = .ok (.if_icmp .ge 28, 3) := by decide +kernel
theorem d_M_goOn_12 : decode c_M_goOn 12 = .ok (.aload_n 0, 1) := by decide +kernel
theorem d_M_goOn_13 : decode c_M_goOn 13 = .ok (.getfield 20, 3) := by decide +kernel
theorem d_M_goOn_16 : decode c_M_goOn 16 = .ok (.aload_n 0, 1) := by decide +kernel
theorem d_M_goOn_17 : decode c_M_goOn 17 = .ok (.getfield 23, 3) := by decide +kernel
theorem d_M_goOn_20 : decode c_M_goOn 20 = .ok (.bipush 7, 2) := by decide +kernel
theorem d_M_goOn_22 : decode c_M_goOn 22 = .ok (.iload_n 1, 1) := by decide +kernel
theorem d_M_goOn_23 : decode c_M_goOn 23 = .ok (.imul, 1) := by decide +kernel
theorem d_M_goOn_24 : decode c_M_goOn 24 = .ok (.iload_n 3, 1) := by decide +kernel
theorem d_M_goOn_25 : decode c_M_goOn 25 = .ok (.iadd, 1) := by decide +kernel
theorem d_M_goOn_26 : decode c_M_goOn 26 = .ok (.iaload, 1) := by decide +kernel
theorem d_M_goOn_27 : decode c_M_goOn 27 = .ok (.iaload, 1) := by decide +kernel
theorem d_M_goOn_28 : decode c_M_goOn 28 = .ok (.ifCond .eq 9, 3) := by decide +kernel
theorem d_M_goOn_31 : decode c_M_goOn 31 = .ok (.iinc 3 1, 3) := by decide +kernel
theorem d_M_goOn_34 : decode c_M_goOn 34 = .ok (.goto (-32), 3) := by decide +kernel
theorem d_M_goOn_37 : decode c_M_goOn 37 = .ok (.aload_n 0, 1) := by decide +kernel
theorem d_M_goOn_38 : decode c_M_goOn 38 = .ok (.getfield 29, 3) := by decide +kernel
theorem d_M_goOn_41 : decode c_M_goOn 41 = .ok (.iload_n 1, 1) := by decide +kernel
theorem d_M_goOn_42 : decode c_M_goOn 42 = .ok (.iload_n 3, 1) := by decide +kernel
theorem d_M_goOn_43 : decode c_M_goOn 43 = .ok (.iastore, 1) := by decide +kernel
theorem d_M_goOn_44 : decode c_M_goOn 44 = .ok (.aload_n 0, 1) := by decide +kernel
theorem d_M_goOn_45 : decode c_M_goOn 45 = .ok (.getfield 32, 3) := by decide +kernel
theorem d_M_goOn_48 : decode c_M_goOn 48 = .ok (.iload_n 1, 1) := by decide +kernel
theorem d_M_goOn_49 : decode c_M_goOn 49 = .ok (.iload_n 3, 1) := by decide +kernel
theorem d_M_goOn_50 : decode c_M_goOn 50 = .ok (.aload_n 0, 1) := by decide +kernel
theorem d_M_goOn_51 : decode c_M_goOn 51 = .ok (.getfield 26, 3) := by decide +kernel
theorem d_M_goOn_54 : decode c_M_goOn 54 = .ok (.iload_n 1, 1) := by decide +kernel
theorem d_M_goOn_55 : decode c_M_goOn 55 = .ok (.iaload, 1) := by decide +kernel
theorem d_M_goOn_56 : decode c_M_goOn 56 = .ok (.if_icmp .ge 17, 3) := by decide +kernel
theorem d_M_goOn_59 : decode c_M_goOn 59 = .ok (.aload_n 0, 1) := by decide +kernel
theorem d_M_goOn_60 : decode c_M_goOn 60 = .ok (.getfield 23, 3) := by decide +kernel
theorem d_M_goOn_63 : decode c_M_goOn 63 = .ok (.bipush 7, 2) := by decide +kernel
theorem d_M_goOn_65 : decode c_M_goOn 65 = .ok (.iload_n 1, 1) := by decide +kernel
theorem d_M_goOn_66 : decode c_M_goOn 66 = .ok (.imul, 1) := by decide +kernel
theorem d_M_goOn_67 : decode c_M_goOn 67 = .ok (.iload_n 3, 1) := by decide +kernel
theorem d_M_goOn_68 : decode c_M_goOn 68 = .ok (.iadd, 1) := by decide +kernel
theorem d_M_goOn_69 : decode c_M_goOn 69 = .ok (.iaload, 1) := by decide +kernel
theorem d_M_goOn_70 : decode c_M_goOn 70 = .ok (.goto 5, 3) := by decide +kernel
theorem d_M_goOn_73 : decode c_M_goOn 73 = .ok (.bipush 12, 2) := by decide +kernel
theorem d_M_goOn_75 : decode c_M_goOn 75 = .ok (.iastore, 1) := by decide +kernel
theorem d_M_goOn_76 : decode c_M_goOn 76 = .ok (.aload_n 0, 1) := by decide +kernel
theorem d_M_goOn_77 : decode c_M_goOn 77 = .ok (.getfield 56, 3) := by decide +kernel
theorem d_M_goOn_80 : decode c_M_goOn 80 = .ok (.bipush 13, 2) := by decide +kernel
theorem d_M_goOn_82 : decode c_M_goOn 82 = .ok (.aload_n 0, 1) := by decide +kernel
theorem d_M_goOn_83 : decode c_M_goOn 83 = .ok (.getfield 47, 3) := by decide +kernel
theorem d_M_goOn_86 : decode c_M_goOn 86 = .ok (.imul, 1) := by decide +kernel
theorem d_M_goOn_87 : decode c_M_goOn 87 = .ok (.aload_n 0, 1) := by decide +kernel
theorem d_M_goOn_88 : decode c_M_goOn 88 = .ok (.getfield 32, 3) := by decide +kernel
theorem d_M_goOn_91 : decode c_M_goOn 91 = .ok (.iload_n 1, 1) := by decide +kernel
theorem d_M_goOn_92 : decode c_M_goOn 92 = .ok (.iaload, 1) := by decide +kernel
theorem d_M_goOn_93 : decode c_M_goOn 93 = .ok (.iadd, 1) := by decide +kernel
theorem d_M_goOn_94 : decode c_M_goOn 94 = .ok (.dup2, 1) := by decide +kernel
theorem d_M_goOn_95 : decode c_M_goOn 95 = .ok (.iaload, 1) := by decide +kernel
theorem d_M_goOn_96 : decode c_M_goOn 96 = .ok (.iconst 1, 1) := by decide +kernel
theorem d_M_goOn_97 : decode c_M_goOn 97 = .ok (.iadd, 1) := by decide +kernel
theorem d_M_goOn_98 : decode c_M_goOn 98 = .ok (.iastore, 1) := by decide +kernel
theorem d_M_goOn_99 : decode c_M_goOn 99 = .ok (.return_, 1) := by decide +kernel
theorem d_M_beginStage_0 : decode c_M_beginStage 0 = .ok (.aload_n 0, 1) := by decide +kernel
theorem d_M_beginStage_1 : decode c_M_beginStage 1 = .ok (.dup, 1) := by decide +kernel
theorem d_M_beginStage_2 : decode c_M_beginStage 2 = .ok (.getfield 47, 3) := by decide +kernel
theorem d_M_beginStage_5 : decode c_M_beginStage 5 = .ok (.iconst 1, 1) := by decide +kernel
theorem d_M_beginStage_6 : decode c_M_beginStage 6 = .ok (.iadd, 1) := by decide +kernel
theorem d_M_beginStage_7 : decode c_M_beginStage 7 = .ok (.putfield 47, 3) := by decide +kernel
theorem d_M_beginStage_10 : decode c_M_beginStage 10 = .ok (.iconst 0, 1) := by decide +kernel
theorem d_M_beginStage_11 : decode c_M_beginStage 11 = .ok (.istore_n 1, 1) := by decide +kernel
theorem d_M_beginStage_12 : decode c_M_beginStage 12 = .ok (.iload_n 1, 1) := by decide +kernel
theorem d_M_beginStage_13 : decode c_M_beginStage 13 = .ok (.bipush 13, 2) := by decide +kernel
theorem d_M_beginStage_15 : decode c_M_beginStage 15 = .ok (.if_icmp .ge 24, 3) := by decide +kernel
theorem d_M_beginStage_18 : decode c_M_beginStage 18 = .ok (.aload_n 0, 1) := by decide +kernel
theorem d_M_beginStage_19 : decode c_M_beginStage 19 = .ok (.getfield 56, 3) := by decide +kernel
theorem d_M_beginStage_22 : decode c_M_beginStage 22 = .ok (.bipush 13, 2) := by decide +kernel
theorem d_M_beginStage_24 : decode c_M_beginStage 24 = .ok (.aload_n 0, 1) := by decide +kernel
theorem d_M_beginStage_25 : decode c_M_beginStage 25 = .ok (.getfield 47, 3) := by decide +kernel
theorem d_M_beginStage_28 : decode c_M_beginStage 28 = .ok (.imul, 1) := by decide +kernel
theorem d_M_beginStage_29 : decode c_M_beginStage 29 = .ok (.iload_n 1, 1) := by decide +kernel
theorem d_M_beginStage_30 : decode c_M_beginStage 30 = .ok (.iadd, 1) := by decide +kernel
theorem d_M_beginStage_31 : decode c_M_beginStage 31 = .ok (.iconst 0, 1) := by decide +kernel
theorem d_M_beginStage_32 : decode c_M_beginStage 32 = .ok (.iastore, 1) := by decide +kernel
theorem d_M_beginStage_33 : decode c_M_beginStage 33 = .ok (.iinc 1 1, 3) := by decide +kernel
theorem d_M_beginStage_36 : decode c_M_beginStage 36 = .ok (.goto (-24), 3) := by decide +kernel
theorem d_M_beginStage_39 : decode c_M_beginStage 39 = .ok (.return_, 1) := by decide +kernel
theorem d_M_at_0 : decode c_M_at 0 = .ok (.aload_n 0, 1) := by decide +kernel
theorem d_M_at_1 : decode c_M_at 1 = .ok (.getfield 50, 3) := by decide +kernel
theorem d_M_at_4 : decode c_M_at 4 = .ok (.bipush 13, 2) := by decide +kernel
theorem d_M_at_6 : decode c_M_at 6 = .ok (.iload_n 1, 1) := by decide +kernel
theorem d_M_at_7 : decode c_M_at 7 = .ok (.imul, 1) := by decide +kernel
theorem d_M_at_8 : decode c_M_at 8 = .ok (.iload_n 2, 1) := by decide +kernel
theorem d_M_at_9 : decode c_M_at 9 = .ok (.iadd, 1) := by decide +kernel
theorem d_M_at_10 : decode c_M_at 10 = .ok (.laload, 1) := by decide +kernel
theorem d_M_at_11 : decode c_M_at 11 = .ok (.lreturn, 1) := by decide +kernel
theorem d_M_isAhead_0 : decode c_M_isAhead 0 = .ok (.aload_n 0, 1) := by decide +kernel
theorem d_M_isAhead_1 : decode c_M_isAhead 1 = .ok (.getfield 47, 3) := by decide +kernel
theorem d_M_isAhead_4 : decode c_M_isAhead 4 = .ok (.istore_n 3, 1) := by decide +kernel
theorem d_M_isAhead_5 : decode c_M_isAhead 5 = .ok (.iload_n 3, 1) := by decide +kernel
theorem d_M_isAhead_6 : decode c_M_isAhead 6 = .ok (.ifCond .lt 47, 3) := by decide +kernel
theorem d_M_isAhead_9 : decode c_M_isAhead 9 = .ok (.aload_n 0, 1) := by decide +kernel
theorem d_M_isAhead_10 : decode c_M_isAhead 10 = .ok (.iload_n 3, 1) := by decide +kernel
theorem d_M_isAhead_11 : decode c_M_isAhead 11 = .ok (.iload_n 1, 1) := by decide +kernel
theorem d_M_isAhead_12 : decode c_M_isAhead 12 = .ok (.invokevirtual 110, 3) := by decide +kernel
theorem d_M_isAhead_15 : decode c_M_isAhead 15 = .ok (.aload_n 0, 1) := by decide +kernel
theorem d_M_isAhead_16 : decode c_M_isAhead 16 = .ok (.iload_n 3, 1) := by decide +kernel
theorem d_M_isAhead_17 : decode c_M_isAhead 17 = .ok (.iload_n 2, 1) := by decide +kernel
theorem d_M_isAhead_18 : decode c_M_isAhead 18 = .ok (.invokevirtual 110, 3) := by decide +kernel
theorem d_M_isAhead_21 : decode c_M_isAhead 21 = .ok (.lcmp, 1) := by decide +kernel
theorem d_M_isAhead_22 : decode c_M_isAhead 22 = .ok (.ifCond .eq 25, 3) := by decide +kernel
theorem d_M_isAhead_25 : decode c_M_isAhead 25 = .ok (.aload_n 0, 1) := by decide +kernel
theorem d_M_isAhead_26 : decode c_M_isAhead 26 = .ok (.iload_n 3, 1) := by decide +kernel
theorem d_M_isAhead_27 : decode c_M_isAhead 27 = .ok (.iload_n 1, 1) := by decide +kernel
theorem d_M_isAhead_28 : decode c_M_isAhead 28 = .ok (.invokevirtual 110, 3) := by decide +kernel
theorem d_M_isAhead_31 : decode c_M_isAhead 31 = .ok (.aload_n 0, 1) := by decide +kernel
theorem d_M_isAhead_32 : decode c_M_isAhead 32 = .ok (.iload_n 3, 1) := by decide +kernel
theorem d_M_isAhead_33 : decode c_M_isAhead 33 = .ok (.iload_n 2, 1) := by decide +kernel
theorem d_M_isAhead_34 : decode c_M_isAhead 34 = .ok (.invokevirtual 110, 3) := by decide +kernel
theorem d_M_isAhead_37 : decode c_M_isAhead 37 = .ok (.lcmp, 1) := by decide +kernel
theorem d_M_isAhead_38 : decode c_M_isAhead 38 = .ok (.ifCond .le 7, 3) := by decide +kernel
theorem d_M_isAhead_41 : decode c_M_isAhead 41 = .ok (.iconst 1, 1) := by decide +kernel
theorem d_M_isAhead_42 : decode c_M_isAhead 42 = .ok (.goto 4, 3) := by decide +kernel
theorem d_M_isAhead_45 : decode c_M_isAhead 45 = .ok (.iconst 0, 1) := by decide +kernel
theorem d_M_isAhead_46 : decode c_M_isAhead 46 = .ok (.ireturn, 1) := by decide +kernel
theorem d_M_isAhead_47 : decode c_M_isAhead 47 = .ok (.iinc 3 (-1), 3) := by decide +kernel
theorem d_M_isAhead_50 : decode c_M_isAhead 50 = .ok (.goto (-45), 3) := by decide +kernel
theorem d_M_isAhead_53 : decode c_M_isAhead 53 = .ok (.aload_n 0, 1) := by decide +kernel
theorem d_M_isAhead_54 : decode c_M_isAhead 54 = .ok (.getfield 16, 3) := by decide +kernel
theorem d_M_isAhead_57 : decode c_M_isAhead 57 = .ok (.iload_n 1, 1) := by decide +kernel
theorem d_M_isAhead_58 : decode c_M_isAhead 58 = .ok (.iaload, 1) := by decide +kernel
theorem d_M_isAhead_59 : decode c_M_isAhead 59 = .ok (.aload_n 0, 1) := by decide +kernel
theorem d_M_isAhead_60 : decode c_M_isAhead 60 = .ok (.getfield 16, 3) := by decide +kernel
theorem d_M_isAhead_63 : decode c_M_isAhead 63 = .ok (.iload_n 2, 1) := by decide +kernel
theorem d_M_isAhead_64 : decode c_M_isAhead 64 = .ok (.iaload, 1) := by decide +kernel
theorem d_M_isAhead_65 : decode c_M_isAhead 65 = .ok (.if_icmp .ge 7, 3) := by decide +kernel
theorem d_M_isAhead_68 : decode c_M_isAhead 68 = .ok (.iconst 1, 1) := by decide +kernel
theorem d_M_isAhead_69 : decode c_M_isAhead 69 = .ok (.goto 4, 3) := by decide +kernel
theorem d_M_isAhead_72 : decode c_M_isAhead 72 = .ok (.iconst 0, 1) := by decide +kernel
theorem d_M_isAhead_73 : decode c_M_isAhead 73 = .ok (.ireturn, 1) := by decide +kernel
theorem d_M_first_0 : decode c_M_first 0 = .ok (.iconst (-1), 1) := by decide +kernel
theorem d_M_first_1 : decode c_M_first 1 = .ok (.istore_n 3, 1) := by decide +kernel
theorem d_M_first_2 : decode c_M_first 2 = .ok (.iconst 0, 1) := by decide +kernel
theorem d_M_first_3 : decode c_M_first 3 = .ok (.istore 4, 2) := by decide +kernel
theorem d_M_first_5 : decode c_M_first 5 = .ok (.iload 4, 2) := by decide +kernel
theorem d_M_first_7 : decode c_M_first 7 = .ok (.aload_n 0, 1) := by decide +kernel
theorem d_M_first_8 : decode c_M_first 8 = .ok (.getfield 7, 3) := by decide +kernel
theorem d_M_first_11 : decode c_M_first 11 = .ok (.if_icmp .ge 87, 3) := by decide +kernel
theorem d_M_first_14 : decode c_M_first 14 = .ok (.iload_n 1, 1) := by decide +kernel
theorem d_M_first_15 : decode c_M_first 15 = .ok (.ifCond .eq 16, 3) := by decide +kernel
theorem d_M_first_18 : decode c_M_first 18 = .ok (.aload_n 0, 1) := by decide +kernel
theorem d_M_first_19 : decode c_M_first 19 = .ok (.getfield 20, 3) := by decide +kernel
theorem d_M_first_22 : decode c_M_first 22 = .ok (.iload 4, 2) := by decide +kernel
theorem d_M_first_24 : decode c_M_first 24 = .ok (.iaload, 1) := by decide +kernel
theorem d_M_first_25 : decode c_M_first 25 = .ok (.ifCond .ne 42, 3) := by decide +kernel
theorem d_M_first_28 : decode c_M_first 28 = .ok (.goto 13, 3) := by decide +kernel
theorem d_M_first_31 : decode c_M_first 31 = .ok (.aload_n 0, 1) := by decide +kernel
theorem d_M_first_32 : decode c_M_first 32 = .ok (.getfield 20, 3) := by decide +kernel
theorem d_M_first_35 : decode c_M_first 35 = .ok (.iload 4, 2) := by decide +kernel
theorem d_M_first_37 : decode c_M_first 37 = .ok (.iaload, 1) := by decide +kernel
theorem d_M_first_38 : decode c_M_first 38 = .ok (.ifCond .le 29, 3) := by decide +kernel
theorem d_M_first_41 : decode c_M_first 41 = .ok (.iload_n 2, 1) := by decide +kernel
theorem d_M_first_42 : decode c_M_first 42 = .ok (.ifCond .eq 21, 3) := by decide +kernel
theorem d_M_first_45 : decode c_M_first 45 = .ok (.aload_n 0, 1) := by decide +kernel
theorem d_M_first_46 : decode c_M_first 46 = .ok (.aload_n 0, 1) := by decide +kernel
theorem d_M_first_47 : decode c_M_first 47 = .ok (.getfield 47, 3) := by decide +kernel
theorem d_M_first_50 : decode c_M_first 50 = .ok (.iload 4, 2) := by decide +kernel
theorem d_M_first_52 : decode c_M_first 52 = .ok (.invokevirtual 110, 3) := by decide +kernel
theorem d_M_first_55 : decode c_M_first 55 = .ok (.aload_n 0, 1) := by decide +kernel
theorem d_M_first_56 : decode c_M_first 56 = .ok (.invokevirtual 106, 3) := by decide +kernel
theorem d_M_first_59 : decode c_M_first 59 = .ok (.lcmp, 1) := by decide +kernel
theorem d_M_first_60 : decode c_M_first 60 = .ok (.ifCond .le 7, 3) := by decide +kernel
theorem d_M_first_63 : decode c_M_first 63 = .ok (.iconst 1, 1) := by decide +kernel
theorem d_M_first_64 : decode c_M_first 64 = .ok (.goto 4, 3) := by decide +kernel
theorem d_M_first_67 : decode c_M_first 67 = .ok (.iconst 0, 1) := by decide +kernel
theorem d_M_first_68 : decode c_M_first 68 = .ok (.istore 5, 2) := by decide +kernel
theorem d_M_first_70 : decode c_M_first 70 = .ok (.iload 5, 2) := by decide +kernel
theorem d_M_first_72 : decode c_M_first 72 = .ok (.ifCond .eq 20, 3) := by decide +kernel
theorem d_M_first_75 : decode c_M_first 75 = .ok (.iload_n 3, 1) := by decide +kernel
theorem d_M_first_76 : decode c_M_first 76 = .ok (.ifCond .lt 13, 3) := by decide +kernel
theorem d_M_first_79 : decode c_M_first 79 = .ok (.aload_n 0, 1) := by decide +kernel
theorem d_M_first_80 : decode c_M_first 80 = .ok (.iload 4, 2) := by decide +kernel
theorem d_M_first_82 : decode c_M_first 82 = .ok (.iload_n 3, 1) := by decide +kernel
theorem d_M_first_83 : decode c_M_first 83 = .ok (.invokevirtual 114, 3) := by decide +kernel
theorem d_M_first_86 : decode c_M_first 86 = .ok (.ifCond .eq 6, 3) := by decide +kernel
theorem d_M_first_89 : decode c_M_first 89 = .ok (.iload 4, 2) := by decide +kernel
theorem d_M_first_91 : decode c_M_first 91 = .ok (.istore_n 3, 1) := by decide +kernel
theorem d_M_first_92 : decode c_M_first 92 = .ok (.iinc 4 1, 3) := by decide +kernel
theorem d_M_first_95 : decode c_M_first 95 = .ok (.goto (-90), 3) := by decide +kernel
theorem d_M_first_98 : decode c_M_first 98 = .ok (.iload_n 3, 1) := by decide +kernel
theorem d_M_first_99 : decode c_M_first 99 = .ok (.ireturn, 1) := by decide +kernel
theorem d_M_last_0 : decode c_M_last 0 = .ok (.iconst (-1), 1) := by decide +kernel
theorem d_M_last_1 : decode c_M_last 1 = .ok (.istore_n 1, 1) := by decide +kernel
theorem d_M_last_2 : decode c_M_last 2 = .ok (.iconst 0, 1) := by decide +kernel
theorem d_M_last_3 : decode c_M_last 3 = .ok (.istore_n 2, 1) := by decide +kernel
theorem d_M_last_4 : decode c_M_last 4 = .ok (.iload_n 2, 1) := by decide +kernel
theorem d_M_last_5 : decode c_M_last 5 = .ok (.aload_n 0, 1) := by decide +kernel
theorem d_M_last_6 : decode c_M_last 6 = .ok (.getfield 7, 3) := by decide +kernel
theorem d_M_last_9 : decode c_M_last 9 = .ok (.if_icmp .ge 33, 3) := by decide +kernel
theorem d_M_last_12 : decode c_M_last 12 = .ok (.aload_n 0, 1) := by decide +kernel
theorem d_M_last_13 : decode c_M_last 13 = .ok (.getfield 20, 3) := by decide +kernel
theorem d_M_last_16 : decode c_M_last 16 = .ok (.iload_n 2, 1) := by decide +kernel
theorem d_M_last_17 : decode c_M_last 17 = .ok (.iaload, 1) := by decide +kernel
theorem d_M_last_18 : decode c_M_last 18 = .ok (.ifCond .ne 18, 3) := by decide +kernel
theorem d_M_last_21 : decode c_M_last 21 = .ok (.iload_n 1, 1) := by decide +kernel
theorem d_M_last_22 : decode c_M_last 22 = .ok (.ifCond .lt 12, 3) := by decide +kernel
theorem d_M_last_25 : decode c_M_last 25 = .ok (.aload_n 0, 1) := by decide +kernel
theorem d_M_last_26 : decode c_M_last 26 = .ok (.iload_n 1, 1) := by decide +kernel
theorem d_M_last_27 : decode c_M_last 27 = .ok (.iload_n 2, 1) := by decide +kernel
theorem d_M_last_28 : decode c_M_last 28 = .ok (.invokevirtual 114, 3) := by decide +kernel
theorem d_M_last_31 : decode c_M_last 31 = .ok (.ifCond .eq 5, 3) := by decide +kernel
theorem d_M_last_34 : decode c_M_last 34 = .ok (.iload_n 2, 1) := by decide +kernel
theorem d_M_last_35 : decode c_M_last 35 = .ok (.istore_n 1, 1) := by decide +kernel
theorem d_M_last_36 : decode c_M_last 36 = .ok (.iinc 2 1, 3) := by decide +kernel
theorem d_M_last_39 : decode c_M_last 39 = .ok (.goto (-35), 3) := by decide +kernel
theorem d_M_last_42 : decode c_M_last 42 = .ok (.iload_n 1, 1) := by decide +kernel
theorem d_M_last_43 : decode c_M_last 43 = .ok (.ireturn, 1) := by decide +kernel
theorem d_M_elect_0 : decode c_M_elect 0 = .ok (.aload_n 0, 1) := by decide +kernel
theorem d_M_elect_1 : decode c_M_elect 1 = .ok (.dup, 1) := by decide +kernel
theorem d_M_elect_2 : decode c_M_elect 2 = .ok (.getfield 66, 3) := by decide +kernel
theorem d_M_elect_5 : decode c_M_elect 5 = .ok (.iconst 1, 1) := by decide +kernel
theorem d_M_elect_6 : decode c_M_elect 6 = .ok (.iadd, 1) := by decide +kernel
theorem d_M_elect_7 : decode c_M_elect 7 = .ok (.putfield 66, 3) := by decide +kernel
theorem d_M_elect_10 : decode c_M_elect 10 = .ok (.aload_n 0, 1) := by decide +kernel
theorem d_M_elect_11 : decode c_M_elect 11 = .ok (.getfield 20, 3) := by decide +kernel
theorem d_M_elect_14 : decode c_M_elect 14 = .ok (.iload_n 1, 1) := by decide +kernel
theorem d_M_elect_15 : decode c_M_elect 15 = .ok (.aload_n 0, 1) := by decide +kernel
theorem d_M_elect_16 : decode c_M_elect 16 = .ok (.getfield 66, 3) := by decide +kernel
theorem d_M_elect_19 : decode c_M_elect 19 = .ok (.iastore, 1) := by decide +kernel
theorem d_M_elect_20 : decode c_M_elect 20 = .ok (.return_, 1) := by decide +kernel
theorem d_M_endStage_0 : decode c_M_endStage 0 = .ok (.aload_n 0, 1) := by decide +kernel
theorem d_M_endStage_1 : decode c_M_endStage 1 = .ok (.invokevirtual 118, 3) := by decide +kernel
theorem d_M_endStage_4 : decode c_M_endStage 4 = .ok (.aload_n 0, 1) := by decide +kernel
theorem d_M_endStage_5 : decode c_M_endStage 5 = .ok (.getfield 53, 3) := by decide +kernel
theorem d_M_endStage_8 : decode c_M_endStage 8 = .ok (.aload_n 0, 1) := by decide +kernel
theorem d_M_endStage_9 : decode c_M_endStage 9 = .ok (.getfield 47, 3) := by decide +kernel
theorem d_M_endStage_12 : decode c_M_endStage 12 = .ok (.aload_n 0, 1) := by decide +kernel
theorem d_M_endStage_13 : decode c_M_endStage 13 = .ok (.getfield 43, 3) := by decide +kernel
theorem d_M_endStage_16 : decode c_M_endStage 16 = .ok (.lastore, 1) := by decide +kernel
theorem d_M_endStage_17 : decode c_M_endStage 17 = .ok (.iconst 0, 1) := by decide +kernel
theorem d_M_endStage_18 : decode c_M_endStage 18 = .ok (.istore_n 1, 1) := by decide +kernel
theorem d_M_endStage_19 : decode c_M_endStage 19 = .ok (.iload_n 1, 1) := by decide +kernel
theorem d_M_endStage_20 : decode c_M_endStage 20 = .ok (.bipush 13, 2) := by decide +kernel
theorem d_M_endStage_22 : decode c_M_endStage 22 = .ok (.if_icmp .ge 46, 3) := by decide +kernel
theorem d_M_endStage_25 : decode c_M_endStage 25 = .ok (.aload_n 0, 1) := by decide +kernel
theorem d_M_endStage_26 : decode c_M_endStage 26 = .ok (.getfield 50, 3) := by decide +kernel
theorem d_M_endStage_29 : decode c_M_endStage 29 = .ok (.bipush 13, 2) := by decide +kernel
theorem d_M_endStage_31 : decode c_M_endStage 31 = .ok (.aload_n 0, 1) := by decide +kernel
theorem d_M_endStage_32 : decode c_M_endStage 32 = .ok (.getfield 47, 3) := by decide +kernel
theorem d_M_endStage_35 : decode c_M_endStage 35 = .ok (.imul, 1) := by decide +kernel
theorem d_M_endStage_36 : decode c_M_endStage 36 = .ok (.iload_n 1, 1) := by decide +kernel
theorem d_M_endStage_37 : decode c_M_endStage 37 = .ok (.iadd, 1) := by decide +kernel
theorem d_M_endStage_38 : decode c_M_endStage 38 = .ok (.iload_n 1, 1) := by decide +kernel
theorem d_M_endStage_39 : decode c_M_endStage 39 = .ok (.aload_n 0, 1) := by decide +kernel
theorem d_M_endStage_40 : decode c_M_endStage 40 = .ok (.getfield 7, 3) := by decide +kernel
theorem d_M_endStage_43 : decode c_M_endStage 43 = .ok (.if_icmp .lt 9, 3) := by decide +kernel
theorem d_M_endStage_46 : decode c_M_endStage 46 = .ok (.iload_n 1, 1) := by decide +kernel
theorem d_M_endStage_47 : decode c_M_endStage 47 = .ok (.bipush 12, 2) := by decide +kernel
theorem d_M_endStage_49 : decode c_M_endStage 49 = .ok (.if_icmp .ne 11, 3) := by decide +kernel
theorem d_M_endStage_52 : decode c_M_endStage 52 = .ok (.aload_n 0, 1) := by decide +kernel
theorem d_M_endStage_53 : decode c_M_endStage 53 = .ok (.iload_n 1, 1) := by decide +kernel
theorem d_M_endStage_54 : decode c_M_endStage 54 = .ok (.invokevirtual 121, 3) := by decide +kernel
theorem d_M_endStage_57 : decode c_M_endStage 57 = .ok (.goto 4, 3) := by decide +kernel
theorem d_M_endStage_60 : decode c_M_endStage 60 = .ok (.lconst 0, 1) := by decide +kernel
theorem d_M_endStage_61 : decode c_M_endStage 61 = .ok (.lastore, 1) := by decide +kernel
theorem d_M_endStage_62 : decode c_M_endStage 62 = .ok (.iinc 1 1, 3) := by decide +kernel
theorem d_M_endStage_65 : decode c_M_endStage 65 = .ok (.goto (-46), 3) := by decide +kernel
theorem d_M_endStage_68 : decode c_M_endStage 68 = .ok (.aload_n 0, 1) := by decide +kernel
theorem d_M_endStage_69 : decode c_M_endStage 69 = .ok (.iconst 1, 1) := by decide +kernel
theorem d_M_endStage_70 : decode c_M_endStage 70 = .ok (.iconst 1, 1) := by decide +kernel
theorem d_M_endStage_71 : decode c_M_endStage 71 = .ok (.invokevirtual 125, 3) := by decide +kernel
theorem d_M_endStage_74 : decode c_M_endStage 74 = .ok (.istore_n 1, 1) := by decide +kernel
theorem d_M_endStage_75 : decode c_M_endStage 75 = .ok (.iload_n 1, 1) := by decide +kernel
theorem d_M_endStage_76 : decode c_M_endStage 76 = .ok (.ifCond .lt 18, 3) := by decide +kernel
theorem d_M_endStage_79 : decode c_M_endStage 79 = .ok (.aload_n 0, 1) := by decide +kernel
theorem d_M_endStage_80 : decode c_M_endStage 80 = .ok (.iload_n 1, 1) := by decide +kernel
theorem d_M_endStage_81 : decode c_M_endStage 81 = .ok (.invokevirtual 129, 3) := by decide +kernel
theorem d_M_endStage_84 : decode c_M_endStage 84 = .ok (.aload_n 0, 1) := by decide +kernel
theorem d_M_endStage_85 : decode c_M_endStage 85 = .ok (.iconst 1, 1) := by decide +kernel
theorem d_M_endStage_86 : decode c_M_endStage 86 = .ok (.iconst 1, 1) := by decide +kernel
theorem d_M_endStage_87 : decode c_M_endStage 87 = .ok (.invokevirtual 125, 3) := by decide +kernel
theorem d_M_endStage_90 : decode c_M_endStage 90 = .ok (.istore_n 1, 1) := by decide +kernel
theorem d_M_endStage_91 : decode c_M_endStage 91 = .ok (.goto (-16), 3) := by decide +kernel
theorem d_M_endStage_94 : decode c_M_endStage 94 = .ok (.aload_n 0, 1) := by decide +kernel
theorem d_M_endStage_95 : decode c_M_endStage 95 = .ok (.getfield 66, 3) := by decide +kernel
theorem d_M_endStage_98 : decode c_M_endStage 98 = .ok (.aload_n 0, 1) := by decide +kernel
theorem d_M_endStage_99 : decode c_M_endStage 99 = .ok (.getfield 13, 3) := by decide +kernel
theorem d_M_endStage_102 : decode c_M_endStage 102 = .ok (.if_icmp .ge 45, 3) := by decide +kernel
theorem d_M_endStage_105 : decode c_M_endStage 105 = .ok (.aload_n 0, 1) := by decide +kernel
theorem d_M_endStage_106 : decode c_M_endStage 106 = .ok (.getfield 66, 3) := by decide +kernel
theorem d_M_endStage_109 : decode c_M_endStage 109 = .ok (.aload_n 0, 1) := by decide +kernel
theorem d_M_endStage_110 : decode c_M_endStage 110 = .ok (.invokevirtual 86, 3) := by decide +kernel
theorem d_M_endStage_113 : decode c_M_endStage 113 = .ok (.iadd, 1) := by decide +kernel
theorem d_M_endStage_114 : decode c_M_endStage 114 = .ok (.aload_n 0, 1) := by decide +kernel
theorem d_M_endStage_115 : decode c_M_endStage 115 = .ok (.getfield 13, 3) := by decide +kernel
theorem d_M_endStage_118 : decode c_M_endStage 118 = .ok (.if_icmp .gt 29, 3) := by decide +kernel
theorem d_M_endStage_121 : decode c_M_endStage 121 = .ok (.aload_n 0, 1) := by decide +kernel
theorem d_M_endStage_122 : decode c_M_endStage 122 = .ok (.iconst 1, 1) := by decide +kernel
theorem d_M_endStage_123 : decode c_M_endStage 123 = .ok (.iconst 0, 1) := by decide +kernel
theorem d_M_endStage_124 : decode c_M_endStage 124 = .ok (.invokevirtual 125, 3) := by decide +kernel
theorem d_M_endStage_127 : decode c_M_endStage 127 = .ok (.istore_n 1, 1) := by decide +kernel
theorem d_M_endStage_128 : decode c_M_endStage 128 = .ok (.iload_n 1, 1) := by decide +kernel
theorem d_M_endStage_129 : decode c_M_endStage 129 = .ok (.ifCond .lt 18, 3) := by decide +kernel
theorem d_M_endStage_132 : decode c_M_endStage 132 = .ok (.aload_n 0, 1) := by decide +kernel
theorem d_M_endStage_133 : decode c_M_endStage 133 = .ok (.iload_n 1, 1) := by decide +kernel
theorem d_M_endStage_134 : decode c_M_endStage 134 = .ok (.invokevirtual 129, 3) := by decide +kernel
theorem d_M_endStage_137 : decode c_M_endStage 137 = .ok (.aload_n 0, 1) := by decide +kernel
theorem d_M_endStage_138 : decode c_M_endStage 138 = .ok (.iconst 1, 1) := by decide +kernel
theorem d_M_endStage_139 : decode c_M_endStage 139 = .ok (.iconst 0, 1) := by decide +kernel
theorem d_M_endStage_140 : decode c_M_endStage 140 = .ok (.invokevirtual 125, 3) := by decide +kernel
theorem d_M_endStage_143 : decode c_M_endStage 143 = .ok (.istore_n 1, 1) := by decide +kernel
theorem d_M_endStage_144 : decode c_M_endStage 144 = .ok (.goto (-16), 3) := by decide +kernel
theorem d_M_endStage_147 : decode c_M_endStage 147 = .ok (.aload_n 0, 1) := by decide +kernel
theorem d_M_endStage_148 : decode c_M_endStage 148 = .ok (.aload_n 0, 1) := by decide +kernel
theorem d_M_endStage_149 : decode c_M_endStage 149 = .ok (.getfield 66, 3) := by decide +kernel
theorem d_M_endStage_152 : decode c_M_endStage 152 = .ok (.aload_n 0, 1) := by decide +kernel
theorem d_M_endStage_153 : decode c_M_endStage 153 = .ok (.getfield 13, 3) := by decide +kernel
theorem d_M_endStage_156 : decode c_M_endStage 156 = .ok (.if_icmp .ge 10, 3) := by decide +kernel
theorem d_M_endStage_159 : decode c_M_endStage 159 = .ok (.aload_n 0, 1) := by decide +kernel
theorem d_M_endStage_160 : decode c_M_endStage 160 = .ok (.invokevirtual 86, 3) := by decide +kernel
theorem d_M_endStage_163 : decode c_M_endStage 163 = .ok (.ifCond .ne 7, 3) := by decide +kernel
theorem d_M_endStage_166 : decode c_M_endStage 166 = .ok (.iconst 1, 1) := by decide +kernel
theorem d_M_endStage_167 : decode c_M_endStage 167 = .ok (.goto 4, 3) := by decide +kernel
theorem d_M_endStage_170 : decode c_M_endStage 170 = .ok (.iconst 0, 1) := by decide +kernel
theorem d_M_endStage_171 : decode c_M_endStage 171 = .ok (.putfield 75, 3) := by decide +kernel
theorem d_M_endStage_174 : decode c_M_endStage 174 = .ok (.return_, 1) := by decide +kernel
theorem d_M_open_0 : decode c_M_open 0 = .ok (.aload_n 0, 1) := by decide +kernel
theorem d_M_open_1 : decode c_M_open 1 = .ok (.aload_n 0, 1) := by decide +kernel
theorem d_M_open_2 : decode c_M_open 2 = .ok (.getfield 47, 3) := by decide +kernel
theorem d_M_open_5 : decode c_M_open 5 = .ok (.ifCond .ge 10, 3) := by decide +kernel
theorem d_M_open_8 : decode c_M_open 8 = .ok (.aload_n 0, 1) := by decide +kernel
theorem d_M_open_9 : decode c_M_open 9 = .ok (.getfield 72, 3) := by decide +kernel
theorem d_M_open_12 : decode c_M_open 12 = .ok (.ifCond .ne 7, 3) := by decide +kernel
theorem d_M_open_15 : decode c_M_open 15 = .ok (.iconst 1, 1) := by decide +kernel
theorem d_M_open_16 : decode c_M_open 16 = .ok (.goto 4, 3) := by decide +kernel
theorem d_M_open_19 : decode c_M_open 19 = .ok (.iconst 0, 1) := by decide +kernel
theorem d_M_open_20 : decode c_M_open 20 = .ok (.invokevirtual 79, 3) := by decide +kernel
theorem d_M_open_23 : decode c_M_open 23 = .ok (.ifCond .ne 5, 3) := by decide +kernel
theorem d_M_open_26 : decode c_M_open 26 = .ok (.iconst 0, 1) := by decide +kernel
theorem d_M_open_27 : decode c_M_open 27 = .ok (.ireturn, 1) := by decide +kernel
theorem d_M_open_28 : decode c_M_open 28 = .ok (.aload_n 0, 1) := by decide +kernel
theorem d_M_open_29 : decode c_M_open 29 = .ok (.invokevirtual 132, 3) := by decide +kernel
theorem d_M_open_32 : decode c_M_open 32 = .ok (.aload_n 0, 1) := by decide +kernel
theorem d_M_open_33 : decode c_M_open 33 = .ok (.aload_n 0, 1) := by decide +kernel
theorem d_M_open_34 : decode c_M_open 34 = .ok (.getfield 13, 3) := by decide +kernel
theorem d_M_open_37 : decode c_M_open 37 = .ok (.iconst 1, 1) := by decide +kernel
theorem d_M_open_38 : decode c_M_open 38 = .ok (.iadd, 1) := by decide +kernel
theorem d_M_open_39 : decode c_M_open 39 = .ok (.i2l, 1) := by decide +kernel
theorem d_M_open_40 : decode c_M_open 40 = .ok (.putfield 43, 3) := by decide +kernel
theorem d_M_open_43 : decode c_M_open 43 = .ok (.iconst 0, 1) := by decide +kernel
theorem d_M_open_44 : decode c_M_open 44 = .ok (.istore_n 1, 1) := by decide +kernel
theorem d_M_open_45 : decode c_M_open 45 = .ok (.iload_n 1, 1) := by decide +kernel
theorem d_M_open_46 : decode c_M_open 46 = .ok (.aload_n 0, 1) := by decide +kernel
theorem d_M_open_47 : decode c_M_open 47 = .ok (.getfield 72, 3) := by decide +kernel
theorem d_M_open_50 : decode c_M_open 50 = .ok (.if_icmp .ge 25, 3) := by decide +kernel
theorem d_M_open_53 : decode c_M_open 53 = .ok (.aload_n 0, 1) := by decide +kernel
theorem d_M_open_54 : decode c_M_open 54 = .ok (.getfield 35, 3) := by decide +kernel
theorem d_M_open_57 : decode c_M_open 57 = .ok (.iload_n 1, 1) := by decide +kernel
theorem d_M_open_58 : decode c_M_open 58 = .ok (.aload_n 0, 1) := by decide +kernel
theorem d_M_open_59 : decode c_M_open 59 = .ok (.getfield 43, 3) := by decide +kernel
theorem d_M_open_62 : decode c_M_open 62 = .ok (.lastore, 1) := by decide +kernel
theorem d_M_open_63 : decode c_M_open 63 = .ok (.aload_n 0, 1) := by decide +kernel
theorem d_M_open_64 : decode c_M_open 64 = .ok (.iload_n 1, 1) := by decide +kernel
theorem d_M_open_65 : decode c_M_open 65 = .ok (.iconst 0, 1) := by decide +kernel
theorem d_M_open_66 : decode c_M_open 66 = .ok (.invokevirtual 135, 3) := by decide +kernel
theorem d_M_open_69 : decode c_M_open 69 = .ok (.iinc 1 1, 3) := by decide +kernel
theorem d_M_open_72 : decode c_M_open 72 = .ok (.goto (-27), 3) := by decide +kernel
theorem d_M_open_75 : decode c_M_open 75 = .ok (.aload_n 0, 1) := by decide +kernel
theorem d_M_open_76 : decode c_M_open 76 = .ok (.invokevirtual 138, 3) := by decide +kernel
theorem d_M_open_79 : decode c_M_open 79 = .ok (.aload_n 0, 1) := by decide +kernel
theorem d_M_open_80 : decode c_M_open 80 = .ok (.getfield 72, 3) := by decide +kernel
theorem d_M_open_83 : decode c_M_open 83 = .ok (.aload_n 0, 1) := by decide +kernel
theorem d_M_open_84 : decode c_M_open 84 = .ok (.getfield 72, 3) := by decide +kernel
theorem d_M_open_87 : decode c_M_open 87 = .ok (.i2l, 1) := by decide +kernel
theorem d_M_open_88 : decode c_M_open 88 = .ok (.aload_n 0, 1) := by decide +kernel
theorem d_M_open_89 : decode c_M_open 89 = .ok (.getfield 13, 3) := by decide +kernel
theorem d_M_open_92 : decode c_M_open 92 = .ok (.iconst 1, 1) := by decide +kernel
theorem d_M_open_93 : decode c_M_open 93 = .ok (.iadd, 1) := by decide +kernel
theorem d_M_open_94 : decode c_M_open 94 = .ok (.i2l, 1) := by decide +kernel
theorem d_M_open_95 : decode c_M_open 95 = .ok (.invokestatic 102, 3) := by decide +kernel
theorem d_M_open_98 : decode c_M_open 98 = .ok (.l2i, 1) := by decide +kernel
theorem d_M_open_99 : decode c_M_open 99 = .ok (.idiv, 1) := by decide +kernel
theorem d_M_open_100 : decode c_M_open 100 = .ok (.ireturn, 1) := by decide +kernel
theorem d_M_step_0 : decode c_M_step 0 = .ok (.aload_n 0, 1) := by decide +kernel
theorem d_M_step_1 : decode c_M_step 1 = .ok (.aload_n 0, 1) := by decide +kernel
theorem d_M_step_2 : decode c_M_step 2 = .ok (.getfield 47, 3) := by decide +kernel
theorem d_M_step_5 : decode c_M_step 5 = .ok (.ifCond .lt 10, 3) := by decide +kernel
theorem d_M_step_8 : decode c_M_step 8 = .ok (.aload_n 0, 1) := by decide +kernel
theorem d_M_step_9 : decode c_M_step 9 = .ok (.getfield 75, 3) := by decide +kernel
theorem d_M_step_12 : decode c_M_step 12 = .ok (.ifCond .eq 7, 3) := by decide +kernel
theorem d_M_step_15 : decode c_M_step 15 = .ok (.iconst 1, 1) := by decide +kernel
theorem d_M_step_16 : decode c_M_step 16 = .ok (.goto 4, 3) := by decide +kernel
theorem d_M_step_19 : decode c_M_step 19 = .ok (.iconst 0, 1) := by decide +kernel
theorem d_M_step_20 : decode c_M_step 20 = .ok (.invokevirtual 79, 3) := by decide +kernel
theorem d_M_step_23 : decode c_M_step 23 = .ok (.ifCond .ne 5, 3) := by decide +kernel
theorem d_M_step_26 : decode c_M_step 26 = .ok (.iconst 0, 1) := by decide +kernel
theorem d_M_step_27 : decode c_M_step 27 = .ok (.ireturn, 1) := by decide +kernel
theorem d_M_step_28 : decode c_M_step 28 = .ok (.aload_n 0, 1) := by decide +kernel
theorem d_M_step_29 : decode c_M_step 29 = .ok (.iconst 0, 1) := by decide +kernel
theorem d_M_step_30 : decode c_M_step 30 = .ok (.iconst 1, 1) := by decide +kernel
theorem d_M_step_31 : decode c_M_step 31 = .ok (.invokevirtual 125, 3) := by decide +kernel
theorem d_M_step_34 : decode c_M_step 34 = .ok (.istore_n 1, 1) := by decide +kernel
theorem d_M_step_35 : decode c_M_step 35 = .ok (.iload_n 1, 1) := by decide +kernel
theorem d_M_step_36 : decode c_M_step 36 = .ok (.ifCond .lt 7, 3) := by decide +kernel
theorem d_M_step_39 : decode c_M_step 39 = .ok (.iconst 1, 1) := by decide +kernel
theorem d_M_step_40 : decode c_M_step 40 = .ok (.goto 4, 3) := by decide +kernel
theorem d_M_step_43 : decode c_M_step 43 = .ok (.iconst 0, 1) := by decide +kernel
theorem d_M_step_44 : decode c_M_step 44 = .ok (.istore_n 2, 1) := by decide +kernel
theorem d_M_step_45 : decode c_M_step 45 = .ok (.iload_n 2, 1) := by decide +kernel
theorem d_M_step_46 : decode c_M_step 46 = .ok (.ifCond .eq 11, 3) := by decide +kernel
theorem d_M_step_49 : decode c_M_step 49 = .ok (.aload_n 0, 1) := by decide +kernel
theorem d_M_step_50 : decode c_M_step 50 = .ok (.iload_n 1, 1) := by decide +kernel
theorem d_M_step_51 : decode c_M_step 51 = .ok (.invokevirtual 141, 3) := by decide +kernel
theorem d_M_step_54 : decode c_M_step 54 = .ok (.goto 8, 3) := by decide +kernel
theorem d_M_step_57 : decode c_M_step 57 = .ok (.aload_n 0, 1) := by decide +kernel
theorem d_M_step_58 : decode c_M_step 58 = .ok (.invokevirtual 144, 3) := by decide +kernel
theorem d_M_step_61 : decode c_M_step 61 = .ok (.istore_n 1, 1) := by decide +kernel
theorem d_M_step_62 : decode c_M_step 62 = .ok (.aload_n 0, 1) := by decide +kernel
theorem d_M_step_63 : decode c_M_step 63 = .ok (.invokevirtual 132, 3) := by decide +kernel
theorem d_M_step_66 : decode c_M_step 66 = .ok (.iload_n 2, 1) := by decide +kernel
theorem d_M_step_67 : decode c_M_step 67 = .ok (.ifCond .ne 8, 3) := by decide +kernel
theorem d_M_step_70 : decode c_M_step 70 = .ok (.aload_n 0, 1) := by decide +kernel
theorem d_M_step_71 : decode c_M_step 71 = .ok (.iload_n 1, 1) := by decide +kernel
theorem d_M_step_72 : decode c_M_step 72 = .ok (.invokevirtual 90, 3) := by decide +kernel
theorem d_M_step_75 : decode c_M_step 75 = .ok (.iconst 0, 1) := by decide +kernel
theorem d_M_step_76 : decode c_M_step 76 = .ok (.istore_n 3, 1) := by decide +kernel
theorem d_M_step_77 : decode c_M_step 77 = .ok (.iload_n 3, 1) := by decide +kernel
theorem d_M_step_78 : decode c_M_step 78 = .ok (.aload_n 0, 1) := by decide +kernel
theorem d_M_step_79 : decode c_M_step 79 = .ok (.getfield 72, 3) := by decide +kernel
theorem d_M_step_82 : decode c_M_step 82 = .ok (.if_icmp .ge 32, 3) := by decide +kernel
theorem d_M_step_85 : decode c_M_step 85 = .ok (.aload_n 0, 1) := by decide +kernel
theorem d_M_step_86 : decode c_M_step 86 = .ok (.getfield 32, 3) := by decide +kernel
theorem d_M_step_89 : decode c_M_step 89 = .ok (.iload_n 3, 1) := by decide +kernel
theorem d_M_step_90 : decode c_M_step 90 = .ok (.iaload, 1) := by decide +kernel
theorem d_M_step_91 : decode c_M_step 91 = .ok (.iload_n 1, 1) := by decide +kernel
theorem d_M_step_92 : decode c_M_step 92 = .ok (.if_icmp .ne 16, 3) := by decide +kernel
theorem d_M_step_95 : decode c_M_step 95 = .ok (.aload_n 0, 1) := by decide +kernel
theorem d_M_step_96 : decode c_M_step 96 = .ok (.iload_n 3, 1) := by decide +kernel
theorem d_M_step_97 : decode c_M_step 97 = .ok (.aload_n 0, 1) := by decide +kernel
theorem d_M_step_98 : decode c_M_step 98 = .ok (.getfield 29, 3) := by decide +kernel
theorem d_M_step_101 : decode c_M_step 101 = .ok (.iload_n 3, 1) := by decide +kernel
theorem d_M_step_102 : decode c_M_step 102 = .ok (.iaload, 1) := by decide +kernel
theorem d_M_step_103 : decode c_M_step 103 = .ok (.iconst 1, 1) := by decide +kernel
theorem d_M_step_104 : decode c_M_step 104 = .ok (.iadd, 1) := by decide +kernel
theorem d_M_step_105 : decode c_M_step 105 = .ok (.invokevirtual 135, 3) := by decide +kernel
theorem d_M_step_108 : decode c_M_step 108 = .ok (.iinc 3 1, 3) := by decide +kernel
theorem d_M_step_111 : decode c_M_step 111 = .ok (.goto (-34), 3) := by decide +kernel
theorem d_M_step_114 : decode c_M_step 114 = .ok (.aload_n 0, 1) := by decide +kernel
theorem d_M_step_115 : decode c_M_step 115 = .ok (.invokevirtual 138, 3) := by decide +kernel
theorem d_M_step_118 : decode c_M_step 118 = .ok (.iload_n 2, 1) := by decide +kernel
theorem d_M_step_119 : decode c_M_step 119 = .ok (.ifCond .eq 7, 3) := by decide +kernel
theorem d_M_step_122 : decode c_M_step 122 = .ok (.iload_n 1, 1) := by decide +kernel
theorem d_M_step_123 : decode c_M_step 123 = .ok (.goto 7, 3) := by decide +kernel
theorem d_M_step_126 : decode c_M_step 126 = .ok (.iload_n 1, 1) := by decide +kernel
theorem d_M_step_127 : decode c_M_step 127 = .ok (.bipush 16, 2) := by decide +kernel
theorem d_M_step_129 : decode c_M_step 129 = .ok (.iadd, 1) := by decide +kernel
theorem d_M_step_130 : decode c_M_step 130 = .ok (.ireturn, 1) := by decide +kernel
theorem d_M_pass_0 : decode c_M_pass 0 = .ok (.aload_n 0, 1) := by decide +kernel
theorem d_M_pass_1 : decode c_M_pass 1 = .ok (.aload_n 0, 1) := by decide +kernel
theorem d_M_pass_2 : decode c_M_pass 2 = .ok (.getfield 47, 3) := by decide +kernel
theorem d_M_pass_5 : decode c_M_pass 5 = .ok (.iload_n 1, 1) := by decide +kernel
theorem d_M_pass_6 : decode c_M_pass 6 = .ok (.invokevirtual 110, 3) := by decide +kernel
theorem d_M_pass_9 : decode c_M_pass 9 = .ok (.lstore_n 2, 1) := by decide +kernel
theorem d_M_pass_10 : decode c_M_pass 10 = .ok (.lload_n 2, 1) := by decide +kernel
theorem d_M_pass_11 : decode c_M_pass 11 = .ok (.aload_n 0, 1) := by decide +kernel
theorem d_M_pass_12 : decode c_M_pass 12 = .ok (.invokevirtual 106, 3) := by decide +kernel
theorem d_M_pass_15 : decode c_M_pass 15 = .ok (.lsub, 1) := by decide +kernel
theorem d_M_pass_16 : decode c_M_pass 16 = .ok (.lstore 4, 2) := by decide +kernel
theorem d_M_pass_18 : decode c_M_pass 18 = .ok (.lload_n 2, 1) := by decide +kernel
theorem d_M_pass_19 : decode c_M_pass 19 = .ok (.lload 4, 2) := by decide +kernel
theorem d_M_pass_21 : decode c_M_pass 21 = .ok (.invokestatic 102, 3) := by decide +kernel
theorem d_M_pass_24 : decode c_M_pass 24 = .ok (.lstore 6, 2) := by decide +kernel
theorem d_M_pass_26 : decode c_M_pass 26 = .ok (.lload_n 2, 1) := by decide +kernel
theorem d_M_pass_27 : decode c_M_pass 27 = .ok (.lload 6, 2) := by decide +kernel
theorem d_M_pass_29 : decode c_M_pass 29 = .ok (.ldiv, 1) := by decide +kernel
theorem d_M_pass_30 : decode c_M_pass 30 = .ok (.lstore 8, 2) := by decide +kernel
theorem d_M_pass_32 : decode c_M_pass 32 = .ok (.iconst 0, 1) := by decide +kernel
theorem d_M_pass_33 : decode c_M_pass 33 = .ok (.istore 10, 2) := by decide +kernel
theorem d_M_pass_35 : decode c_M_pass 35 = .ok (.iload 10, 2) := by decide +kernel
theorem d_M_pass_37 : decode c_M_pass 37 = .ok (.aload_n 0, 1) := by decide +kernel
theorem d_M_pass_38 : decode c_M_pass 38 = .ok (.getfield 72, 3) := by decide +kernel
theorem d_M_pass_41 : decode c_M_pass 41 = .ok (.if_icmp .ge 40, 3) := by decide +kernel
theorem d_M_pass_44 : decode c_M_pass 44 = .ok (.aload_n 0, 1) := by decide +kernel
theorem d_M_pass_45 : decode c_M_pass 45 = .ok (.getfield 35, 3) := by decide +kernel
theorem d_M_pass_48 : decode c_M_pass 48 = .ok (.iload 10, 2) := by decide +kernel
theorem d_M_pass_50 : decode c_M_pass 50 = .ok (.dup2, 1) := by decide +kernel
theorem d_M_pass_51 : decode c_M_pass 51 = .ok (.laload, 1) := by decide +kernel
theorem d_M_pass_52 : decode c_M_pass 52 = .ok (.aload_n 0, 1) := by decide +kernel
theorem d_M_pass_53 : decode c_M_pass 53 = .ok (.getfield 32, 3) := by decide +kernel
theorem d_M_pass_56 : decode c_M_pass 56 = .ok (.iload 10, 2) := by decide +kernel
theorem d_M_pass_58 : decode c_M_pass 58 = .ok (.iaload, 1) := by decide +kernel
theorem d_M_pass_59 : decode c_M_pass 59 = .ok (.iload_n 1, 1) := by decide +kernel
theorem d_M_pass_60 : decode c_M_pass 60 = .ok (.if_icmp .ne 11, 3) := by decide +kernel
theorem d_M_pass_63 : decode c_M_pass 63 = .ok (.lload 4, 2) := by decide +kernel
theorem d_M_pass_65 : decode c_M_pass 65 = .ok (.lload 6, 2) := by decide +kernel
theorem d_M_pass_67 : decode c_M_pass 67 = .ok (.ldiv, 1) := by decide +kernel
theorem d_M_pass_68 : decode c_M_pass 68 = .ok (.goto 5, 3) := by decide +kernel
theorem d_M_pass_71 : decode c_M_pass 71 = .ok (.lload 8, 2) := by decide +kernel
theorem d_M_pass_73 : decode c_M_pass 73 = .ok (.lmul, 1) := by decide +kernel
theorem d_M_pass_74 : decode c_M_pass 74 = .ok (.lastore, 1) := by decide +kernel
theorem d_M_pass_75 : decode c_M_pass 75 = .ok (.iinc 10 1, 3) := by decide +kernel
theorem d_M_pass_78 : decode c_M_pass 78 = .ok (.goto (-43), 3) := by decide +kernel
theorem d_M_pass_81 : decode c_M_pass 81 = .ok (.aload_n 0, 1) := by decide +kernel
theorem d_M_pass_82 : decode c_M_pass 82 = .ok (.dup, 1) := by decide +kernel
theorem d_M_pass_83 : decode c_M_pass 83 = .ok (.getfield 43, 3) := by decide +kernel
theorem d_M_pass_86 : decode c_M_pass 86 = .ok (.lload 8, 2) := by decide +kernel
theorem d_M_pass_88 : decode c_M_pass 88 = .ok (.lmul, 1) := by decide +kernel
theorem d_M_pass_89 : decode c_M_pass 89 = .ok (.putfield 43, 3) := by decide +kernel
theorem d_M_pass_92 : decode c_M_pass 92 = .ok (.aload_n 0, 1) := by decide +kernel
theorem d_M_pass_93 : decode c_M_pass 93 = .ok (.getfield 39, 3) := by decide +kernel
theorem d_M_pass_96 : decode c_M_pass 96 = .ok (.iload_n 1, 1) := by decide +kernel
theorem d_M_pass_97 : decode c_M_pass 97 = .ok (.iconst 1, 1) := by decide +kernel
theorem d_M_pass_98 : decode c_M_pass 98 = .ok (.bastore, 1) := by decide +kernel
theorem d_M_pass_99 : decode c_M_pass 99 = .ok (.return_, 1) := by decide +kernel
theorem d_M_over_0 : decode c_M_over 0 = .ok (.aload_n 0, 1) := by decide +kernel
theorem d_M_over_1 : decode c_M_over 1 = .ok (.iconst 0, 1) := by decide +kernel
theorem d_M_over_2 : decode c_M_over 2 = .ok (.putfield 63, 3) := by decide +kernel
theorem d_M_over_5 : decode c_M_over 5 = .ok (.aload_n 0, 1) := by decide +kernel
theorem d_M_over_6 : decode c_M_over 6 = .ok (.getfield 75, 3) := by decide +kernel
theorem d_M_over_9 : decode c_M_over 9 = .ok (.ireturn, 1) := by decide +kernel
theorem d_M_state_0 : decode c_M_state 0 = .ok (.aload_n 0, 1) := by decide +kernel
theorem d_M_state_1 : decode c_M_state 1 = .ok (.iconst 0, 1) := by decide +kernel
theorem d_M_state_2 : decode c_M_state 2 = .ok (.putfield 63, 3) := by decide +kernel
theorem d_M_state_5 : decode c_M_state 5 = .ok (.iload_n 1, 1) := by decide +kernel
theorem d_M_state_6 : decode c_M_state 6 = .ok (.tableswitch 116 0 7 #[46, 51, 56, 61, 96, 101, 106, 111], 46) := by decide +kernel
theorem d_M_state_52 : decode c_M_state 52 = .ok (.aload_n 0, 1) := by decide +kernel
theorem d_M_state_53 : decode c_M_state 53 = .ok (.getfield 7, 3) := by decide +kernel
theorem d_M_state_56 : decode c_M_state 56 = .ok (.ireturn, 1) := by decide +kernel
theorem d_M_state_57 : decode c_M_state 57 = .ok (.aload_n 0, 1) := by decide +kernel
theorem d_M_state_58 : decode c_M_state 58 = .ok (.getfield 13, 3) := by decide +kernel
theorem d_M_state_61 : decode c_M_state 61 = .ok (.ireturn, 1) := by decide +kernel
theorem d_M_state_62 : decode c_M_state 62 = .ok (.aload_n 0, 1) := by decide +kernel
theorem d_M_state_63 : decode c_M_state 63 = .ok (.getfield 72, 3) := by decide +kernel
theorem d_M_state_66 : decode c_M_state 66 = .ok (.ireturn, 1) := by decide +kernel
theorem d_M_state_67 : decode c_M_state 67 = .ok (.aload_n 0, 1) := by decide +kernel
theorem d_M_state_68 : decode c_M_state 68 = .ok (.getfield 47, 3) := by decide +kernel
theorem d_M_state_71 : decode c_M_state 71 = .ok (.ifCond .ge 7, 3) := by decide +kernel
theorem d_M_state_74 : decode c_M_state 74 = .ok (.iconst 0, 1) := by decide +kernel
theorem d_M_state_75 : decode c_M_state 75 = .ok (.goto 26, 3) := by decide +kernel
theorem d_M_state_78 : decode c_M_state 78 = .ok (.aload_n 0, 1) := by decide +kernel
theorem d_M_state_79 : decode c_M_state 79 = .ok (.getfield 13, 3) := by decide +kernel
theorem d_M_state_82 : decode c_M_state 82 = .ok (.iconst 1, 1) := by decide +kernel
theorem d_M_state_83 : decode c_M_state 83 = .ok (.iadd, 1) := by decide +kernel
theorem d_M_state_84 : decode c_M_state 84 = .ok (.aload_n 0, 1) := by decide +kernel
theorem d_M_state_85 : decode c_M_state 85 = .ok (.getfield 72, 3) := by decide +kernel
theorem d_M_state_88 : decode c_M_state 88 = .ok (.i2l, 1) := by decide +kernel
theorem d_M_state_89 : decode c_M_state 89 = .ok (.aload_n 0, 1) := by decide +kernel
theorem d_M_state_90 : decode c_M_state 90 = .ok (.getfield 13, 3) := by decide +kernel
theorem d_M_state_93 : decode c_M_state 93 = .ok (.iconst 1, 1) := by decide +kernel
theorem d_M_state_94 : decode c_M_state 94 = .ok (.iadd, 1) := by decide +kernel
theorem d_M_state_95 : decode c_M_state 95 = .ok (.i2l, 1) := by decide +kernel
theorem d_M_state_96 : decode c_M_state 96 = .ok (.invokestatic 102, 3) := by decide +kernel
theorem d_M_state_99 : decode c_M_state 99 = .ok (.l2i, 1) := by decide +kernel
theorem d_M_state_100 : decode c_M_state 100 = .ok (.idiv, 1) := by decide +kernel
theorem d_M_state_101 : decode c_M_state 101 = .ok (.ireturn, 1) := by decide +kernel
theorem d_M_state_102 : decode c_M_state 102 = .ok (.aload_n 0, 1) := by decide +kernel
theorem d_M_state_103 : decode c_M_state 103 = .ok (.getfield 47, 3) := by decide +kernel
theorem d_M_state_106 : decode c_M_state 106 = .ok (.ireturn, 1) := by decide +kernel
theorem d_M_state_107 : decode c_M_state 107 = .ok (.aload_n 0, 1) := by decide +kernel
theorem d_M_state_108 : decode c_M_state 108 = .ok (.getfield 66, 3) := by decide +kernel
theorem d_M_state_111 : decode c_M_state 111 = .ok (.ireturn, 1) := by decide +kernel
theorem d_M_state_112 : decode c_M_state 112 = .ok (.aload_n 0, 1) := by decide +kernel
theorem d_M_state_113 : decode c_M_state 113 = .ok (.getfield 69, 3) := by decide +kernel
theorem d_M_state_116 : decode c_M_state 116 = .ok (.ireturn, 1) := by decide +kernel
theorem d_M_state_117 : decode c_M_state 117 = .ok (.aload_n 0, 1) := by decide +kernel
theorem d_M_state_118 : decode c_M_state 118 = .ok (.invokevirtual 86, 3) := by decide +kernel
theorem d_M_state_121 : decode c_M_state 121 = .ok (.ireturn, 1) := by decide +kernel
theorem d_M_state_122 : decode c_M_state 122 = .ok (.iconst (-1), 1) := by decide +kernel
theorem d_M_state_123 : decode c_M_state 123 = .ok (.ireturn, 1) := by decide +kernel
theorem d_M_status_0 : decode c_M_status 0 = .ok (.aload_n 0, 1) := by decide +kernel
theorem d_M_status_1 : decode c_M_status 1 = .ok (.aload_n 0, 1) := by decide +kernel
theorem d_M_status_2 : decode c_M_status 2 = .ok (.iload_n 1, 1) := by decide +kernel
theorem d_M_status_3 : decode c_M_status 3 = .ok (.invokevirtual 83, 3) := by decide +kernel
theorem d_M_status_6 : decode c_M_status 6 = .ok (.ifCond .eq 7, 3) := by decide +kernel
theorem d_M_status_9 : decode c_M_status 9 = .ok (.iconst 0, 1) := by decide +kernel
theorem d_M_status_10 : decode c_M_status 10 = .ok (.goto 4, 3) := by decide +kernel
theorem d_M_status_13 : decode c_M_status 13 = .ok (.iconst 1, 1) := by decide +kernel
theorem d_M_status_14 : decode c_M_status 14 = .ok (.invokevirtual 79, 3) := by decide +kernel
theorem d_M_status_17 : decode c_M_status 17 = .ok (.ifCond .eq 12, 3) := by decide +kernel
theorem d_M_status_20 : decode c_M_status 20 = .ok (.aload_n 0, 1) := by decide +kernel
theorem d_M_status_21 : decode c_M_status 21 = .ok (.getfield 20, 3) := by decide +kernel
theorem d_M_status_24 : decode c_M_status 24 = .ok (.iload_n 1, 1) := by decide +kernel
theorem d_M_status_25 : decode c_M_status 25 = .ok (.iaload, 1) := by decide +kernel
theorem d_M_status_26 : decode c_M_status 26 = .ok (.goto 4, 3) := by decide +kernel
theorem d_M_status_29 : decode c_M_status 29 = .ok (.iconst 0, 1) := by decide +kernel
theorem d_M_status_30 : decode c_M_status 30 = .ok (.ireturn, 1) := by decide +kernel
theorem d_M_columnOf_0 : decode c_M_columnOf 0 = .ok (.iload_n 1, 1) := by decide +kernel
theorem d_M_columnOf_1 : decode c_M_columnOf 1 = .ok (.aload_n 0, 1) := by decide +kernel
theorem d_M_columnOf_2 : decode c_M_columnOf 2 = .ok (.getfield 7, 3) := by decide +kernel
theorem d_M_columnOf_5 : decode c_M_columnOf 5 = .ok (.if_icmp .ne 8, 3) := by decide +kernel
theorem d_M_columnOf_8 : decode c_M_columnOf 8 = .ok (.bipush 12, 2) := by decide +kernel
theorem d_M_columnOf_10 : decode c_M_columnOf 10 = .ok (.goto 16, 3) := by decide +kernel
theorem d_M_columnOf_13 : decode c_M_columnOf 13 = .ok (.aload_n 0, 1) := by decide +kernel
theorem d_M_columnOf_14 : decode c_M_columnOf 14 = .ok (.iload_n 1, 1) := by decide +kernel
theorem d_M_columnOf_15 : decode c_M_columnOf 15 = .ok (.invokevirtual 83, 3) := by decide +kernel
theorem d_M_columnOf_18 : decode c_M_columnOf 18 = .ok (.ifCond .eq 7, 3) := by decide +kernel
theorem d_M_columnOf_21 : decode c_M_columnOf 21 = .ok (.iload_n 1, 1) := by decide +kernel
theorem d_M_columnOf_22 : decode c_M_columnOf 22 = .ok (.goto 4, 3) := by decide +kernel
theorem d_M_columnOf_25 : decode c_M_columnOf 25 = .ok (.iconst (-1), 1) := by decide +kernel
theorem d_M_columnOf_26 : decode c_M_columnOf 26 = .ok (.ireturn, 1) := by decide +kernel
theorem d_M_total_0 : decode c_M_total 0 = .ok (.aload_n 0, 1) := by decide +kernel
theorem d_M_total_1 : decode c_M_total 1 = .ok (.iload_n 1, 1) := by decide +kernel
theorem d_M_total_2 : decode c_M_total 2 = .ok (.ifCond .lt 23, 3) := by decide +kernel
theorem d_M_total_5 : decode c_M_total 5 = .ok (.iload_n 1, 1) := by decide +kernel
theorem d_M_total_6 : decode c_M_total 6 = .ok (.aload_n 0, 1) := by decide +kernel
theorem d_M_total_7 : decode c_M_total 7 = .ok (.getfield 47, 3) := by decide +kernel
theorem d_M_total_10 : decode c_M_total 10 = .ok (.if_icmp .gt 15, 3) := by decide +kernel
theorem d_M_total_13 : decode c_M_total 13 = .ok (.aload_n 0, 1) := by decide +kernel
theorem d_M_total_14 : decode c_M_total 14 = .ok (.iload_n 2, 1) := by decide +kernel
theorem d_M_total_15 : decode c_M_total 15 = .ok (.invokevirtual 147, 3) := by decide +kernel
theorem d_M_total_18 : decode c_M_total 18 = .ok (.ifCond .lt 7, 3) := by decide +kernel
theorem d_M_total_21 : decode c_M_total 21 = .ok (.iconst 0, 1) := by decide +kernel
theorem d_M_total_22 : decode c_M_total 22 = .ok (.goto 4, 3) := by decide +kernel
theorem d_M_total_25 : decode c_M_total 25 = .ok (.iconst 1, 1) := by decide +kernel
theorem d_M_total_26 : decode c_M_total 26 = .ok (.invokevirtual 79, 3) := by decide +kernel
theorem d_M_total_29 : decode c_M_total 29 = .ok (.ifCond .ne 5, 3) := by decide +kernel
theorem d_M_total_32 : decode c_M_total 32 = .ok (.lconst 0, 1) := by decide +kernel
theorem d_M_total_33 : decode c_M_total 33 = .ok (.lreturn, 1) := by decide +kernel
theorem d_M_total_34 : decode c_M_total 34 = .ok (.aload_n 0, 1) := by decide +kernel
theorem d_M_total_35 : decode c_M_total 35 = .ok (.iload_n 1, 1) := by decide +kernel
theorem d_M_total_36 : decode c_M_total 36 = .ok (.aload_n 0, 1) := by decide +kernel
theorem d_M_total_37 : decode c_M_total 37 = .ok (.iload_n 2, 1) := by decide +kernel
theorem d_M_total_38 : decode c_M_total 38 = .ok (.invokevirtual 147, 3) := by decide +kernel
theorem d_M_total_41 : decode c_M_total 41 = .ok (.invokevirtual 110, 3) := by decide +kernel
theorem d_M_total_44 : decode c_M_total 44 = .ok (.lstore 4, 2) := by decide +kernel
theorem d_M_total_46 : decode c_M_total 46 = .ok (.aload_n 0, 1) := by decide +kernel
theorem d_M_total_47 : decode c_M_total 47 = .ok (.getfield 53, 3) := by decide +kernel
theorem d_M_total_50 : decode c_M_total 50 = .ok (.iload_n 1, 1) := by decide +kernel
theorem d_M_total_51 : decode c_M_total 51 = .ok (.laload, 1) := by decide +kernel
theorem d_M_total_52 : decode c_M_total 52 = .ok (.lload 4, 2) := by decide +kernel
theorem d_M_total_54 : decode c_M_total 54 = .ok (.invokestatic 102, 3) := by decide +kernel
theorem d_M_total_57 : decode c_M_total 57 = .ok (.lstore 6, 2) := by decide +kernel
theorem d_M_total_59 : decode c_M_total 59 = .ok (.iload_n 3, 1) := by decide +kernel
theorem d_M_total_60 : decode c_M_total 60 = .ok (.ifCond .eq 12, 3) := by decide +kernel
theorem d_M_total_63 : decode c_M_total 63 = .ok (.aload_n 0, 1) := by decide +kernel
theorem d_M_total_64 : decode c_M_total 64 = .ok (.getfield 53, 3) := by decide +kernel
theorem d_M_total_67 : decode c_M_total 67 = .ok (.iload_n 1, 1) := by decide +kernel
theorem d_M_total_68 : decode c_M_total 68 = .ok (.laload, 1) := by decide +kernel
theorem d_M_total_69 : decode c_M_total 69 = .ok (.goto 5, 3) := by decide +kernel
theorem d_M_total_72 : decode c_M_total 72 = .ok (.lload 4, 2) := by decide +kernel
theorem d_M_total_74 : decode c_M_total 74 = .ok (.lload 6, 2) := by decide +kernel
theorem d_M_total_76 : decode c_M_total 76 = .ok (.ldiv, 1) := by decide +kernel
theorem d_M_total_77 : decode c_M_total 77 = .ok (.lreturn, 1) := by decide +kernel
theorem d_M_papers_0 : decode c_M_papers 0 = .ok (.aload_n 0, 1) := by decide +kernel
theorem d_M_papers_1 : decode c_M_papers 1 = .ok (.aload_n 0, 1) := by decide +kernel
theorem d_M_papers_2 : decode c_M_papers 2 = .ok (.iload_n 1, 1) := by decide +kernel
theorem d_M_papers_3 : decode c_M_papers 3 = .ok (.invokevirtual 147, 3) := by decide +kernel
theorem d_M_papers_6 : decode c_M_papers 6 = .ok (.ifCond .lt 7, 3) := by decide +kernel
theorem d_M_papers_9 : decode c_M_papers 9 = .ok (.iconst 0, 1) := by decide +kernel
theorem d_M_papers_10 : decode c_M_papers 10 = .ok (.goto 4, 3) := by decide +kernel
theorem d_M_papers_13 : decode c_M_papers 13 = .ok (.iconst 1, 1) := by decide +kernel
theorem d_M_papers_14 : decode c_M_papers 14 = .ok (.invokevirtual 79, 3) := by decide +kernel
theorem d_M_papers_17 : decode c_M_papers 17 = .ok (.ifCond .eq 10, 3) := by decide +kernel
theorem d_M_papers_20 : decode c_M_papers 20 = .ok (.aload_n 0, 1) := by decide +kernel
theorem d_M_papers_21 : decode c_M_papers 21 = .ok (.getfield 47, 3) := by decide +kernel
theorem d_M_papers_24 : decode c_M_papers 24 = .ok (.ifCond .ge 5, 3) := by decide +kernel
theorem d_M_papers_27 : decode c_M_papers 27 = .ok (.iconst 0, 1) := by decide +kernel
theorem d_M_papers_28 : decode c_M_papers 28 = .ok (.ireturn, 1) := by decide +kernel
theorem d_M_papers_29 : decode c_M_papers 29 = .ok (.iconst 0, 1) := by decide +kernel
theorem d_M_papers_30 : decode c_M_papers 30 = .ok (.istore_n 2, 1) := by decide +kernel
theorem d_M_papers_31 : decode c_M_papers 31 = .ok (.iconst 0, 1) := by decide +kernel
theorem d_M_papers_32 : decode c_M_papers 32 = .ok (.istore_n 3, 1) := by decide +kernel
theorem d_M_papers_33 : decode c_M_papers 33 = .ok (.iload_n 3, 1) := by decide +kernel
theorem d_M_papers_34 : decode c_M_papers 34 = .ok (.aload_n 0, 1) := by decide +kernel
theorem d_M_papers_35 : decode c_M_papers 35 = .ok (.getfield 72, 3) := by decide +kernel
theorem d_M_papers_38 : decode c_M_papers 38 = .ok (.if_icmp .ge 31, 3) := by decide +kernel
theorem d_M_papers_41 : decode c_M_papers 41 = .ok (.iload_n 2, 1) := by decide +kernel
theorem d_M_papers_42 : decode c_M_papers 42 = .ok (.aload_n 0, 1) := by decide +kernel
theorem d_M_papers_43 : decode c_M_papers 43 = .ok (.getfield 32, 3) := by decide +kernel
theorem d_M_papers_46 : decode c_M_papers 46 = .ok (.iload_n 3, 1) := by decide +kernel
theorem d_M_papers_47 : decode c_M_papers 47 = .ok (.iaload, 1) := by decide +kernel
theorem d_M_papers_48 : decode c_M_papers 48 = .ok (.aload_n 0, 1) := by decide +kernel
theorem d_M_papers_49 : decode c_M_papers 49 = .ok (.iload_n 1, 1) := by decide +kernel
theorem d_M_papers_50 : decode c_M_papers 50 = .ok (.invokevirtual 147, 3) := by decide +kernel
theorem d_M_papers_53 : decode c_M_papers 53 = .ok (.if_icmp .ne 7, 3) := by decide +kernel
theorem d_M_papers_56 : decode c_M_papers 56 = .ok (.iconst 1, 1) := by decide +kernel
theorem d_M_papers_57 : decode c_M_papers 57 = .ok (.goto 4, 3) := by decide +kernel
theorem d_M_papers_60 : decode c_M_papers 60 = .ok (.iconst 0, 1) := by decide +kernel
theorem d_M_papers_61 : decode c_M_papers 61 = .ok (.iadd, 1) := by decide +kernel
theorem d_M_papers_62 : decode c_M_papers 62 = .ok (.istore_n 2, 1) := by decide +kernel
theorem d_M_papers_63 : decode c_M_papers 63 = .ok (.iinc 3 1, 3) := by decide +kernel
theorem d_M_papers_66 : decode c_M_papers 66 = .ok (.goto (-33), 3) := by decide +kernel
theorem d_M_papers_69 : decode c_M_papers 69 = .ok (.iload_n 2, 1) := by decide +kernel
theorem d_M_papers_70 : decode c_M_papers 70 = .ok (.ireturn, 1) := by decide +kernel
theorem d_M_moved_0 : decode c_M_moved 0 = .ok (.aload_n 0, 1) := by decide +kernel
theorem d_M_moved_1 : decode c_M_moved 1 = .ok (.iload_n 1, 1) := by decide +kernel
theorem d_M_moved_2 : decode c_M_moved 2 = .ok (.ifCond .lt 23, 3) := by decide +kernel
theorem d_M_moved_5 : decode c_M_moved 5 = .ok (.iload_n 1, 1) := by decide +kernel
theorem d_M_moved_6 : decode c_M_moved 6 = .ok (.aload_n 0, 1) := by decide +kernel
theorem d_M_moved_7 : decode c_M_moved 7 = .ok (.getfield 47, 3) := by decide +kernel
theorem d_M_moved_10 : decode c_M_moved 10 = .ok (.if_icmp .gt 15, 3) := by decide +kernel
theorem d_M_moved_13 : decode c_M_moved 13 = .ok (.aload_n 0, 1) := by decide +kernel
theorem d_M_moved_14 : decode c_M_moved 14 = .ok (.iload_n 2, 1) := by decide +kernel
theorem d_M_moved_15 : decode c_M_moved 15 = .ok (.invokevirtual 147, 3) := by decide +kernel
theorem d_M_moved_18 : decode c_M_moved 18 = .ok (.ifCond .lt 7, 3) := by decide +kernel
theorem d_M_moved_21 : decode c_M_moved 21 = .ok (.iconst 0, 1) := by decide +kernel
theorem d_M_moved_22 : decode c_M_moved 22 = .ok (.goto 4, 3) := by decide +kernel
theorem d_M_moved_25 : decode c_M_moved 25 = .ok (.iconst 1, 1) := by decide +kernel
theorem d_M_moved_26 : decode c_M_moved 26 = .ok (.invokevirtual 79, 3) := by decide +kernel
theorem d_M_moved_29 : decode c_M_moved 29 = .ok (.ifCond .ne 5, 3) := by decide +kernel
theorem d_M_moved_32 : decode c_M_moved 32 = .ok (.iconst 0, 1) := by decide +kernel
theorem d_M_moved_33 : decode c_M_moved 33 = .ok (.ireturn, 1) := by decide +kernel
theorem d_M_moved_34 : decode c_M_moved 34 = .ok (.aload_n 0, 1) := by decide +kernel
theorem d_M_moved_35 : decode c_M_moved 35 = .ok (.getfield 56, 3) := by decide +kernel
theorem d_M_moved_38 : decode c_M_moved 38 = .ok (.bipush 13, 2) := by decide +kernel
theorem d_M_moved_40 : decode c_M_moved 40 = .ok (.iload_n 1, 1) := by decide +kernel
theorem d_M_moved_41 : decode c_M_moved 41 = .ok (.imul, 1) := by decide +kernel
theorem d_M_moved_42 : decode c_M_moved 42 = .ok (.aload_n 0, 1) := by decide +kernel
theorem d_M_moved_43 : decode c_M_moved 43 = .ok (.iload_n 2, 1) := by decide +kernel
theorem d_M_moved_44 : decode c_M_moved 44 = .ok (.invokevirtual 147, 3) := by decide +kernel
theorem d_M_moved_47 : decode c_M_moved 47 = .ok (.iadd, 1) := by decide +kernel
theorem d_M_moved_48 : decode c_M_moved 48 = .ok (.iaload, 1) := by decide +kernel
theorem d_M_moved_49 : decode c_M_moved 49 = .ok (.ireturn, 1) := by decide +kernel
end
section
/-! The memory of a side: ints and longs by object number and place; the world that holds it. -/
abbrev Mem : Type := (Nat → Nat → Int32) × (Nat → Nat → Int64)
def mI (σ : Mem) (k j : Nat) (v : Int32) : Mem := (va_up σ.1 k (upd (σ.1 k) j v), σ.2)
def mL (σ : Mem) (k j : Nat) (v : Int64) : Mem := (σ.1, va_up σ.2 k (vp_updL (σ.2 k) j v))
abbrev WF : Type := Nat → (Nat → Int32) → (Nat → Int64) → va_E
def wW (n : Nat) (f : WF) (ad : Nat → Nat) (σ : Mem) : va_W := (List.range n).map (fun k => (ad k, f k (σ.1 k) (σ.2 k)))
theorem wW_at {n : Nat} {f : WF} {ad : Nat → Nat} {σ : Mem} {wr : va_W} {k : Nat} {e : va_E} (hk : k < n) (he : f k (σ.1 k) (σ.2 k) = e) : (wW n f ad σ ++ wr)[k]? = some (ad k, e) := by
  subst he
  rw [List.getElem?_append_left (by simpa [wW] using hk)]
  simp [wW, hk]
theorem wW_set {n : Nat} {f : WF} {ad : Nat → Nat} {σ σ' : Mem} {wr : va_W} {k : Nat} {e : va_E} (hk : k < n) (he : f k (σ'.1 k) (σ'.2 k) = e) (ho : ∀ j, j ≠ k → σ'.1 j = σ.1 j ∧ σ'.2 j = σ.2 j) : (wW n f ad σ ++ wr).set k (ad k, e) = wW n f ad σ' ++ wr := by
  rw [List.set_append_left _ _ (by simpa [wW] using hk)]
  congr 1
  apply List.ext_getElem?
  intro j
  by_cases hj : j = k
  · subst hj
    subst he
    simp [wW, hk]
  · rw [List.getElem?_set_ne (fun h => hj h.symm)]
    by_cases hn : j < n
    · simp [wW, hn, ho j hj]
    · simp [wW, hn]
theorem mI_row {σ : Mem} {k j : Nat} {v : Int32} : (mI σ k j v).1 k = upd (σ.1 k) j v := va_up_self _ _ _
theorem mI_rowL {σ : Mem} {k j : Nat} {v : Int32} : (mI σ k j v).2 = σ.2 := rfl
theorem mL_row {σ : Mem} {k j : Nat} {v : Int64} : (mL σ k j v).2 k = vp_updL (σ.2 k) j v := va_up_self _ _ _
theorem mI_ne {σ : Mem} {k i : Nat} {v : Int32} : ∀ j, j ≠ k → (mI σ k i v).1 j = σ.1 j ∧ (mI σ k i v).2 j = σ.2 j := fun _ h => ⟨va_up_ne _ _ h, rfl⟩
theorem mL_ne {σ : Mem} {k i : Nat} {v : Int64} : ∀ j, j ≠ k → (mL σ k i v).1 j = σ.1 j ∧ (mL σ k i v).2 j = σ.2 j := fun _ h => ⟨rfl, va_up_ne _ _ h⟩
theorem wW_setI {n : Nat} {f : WF} {ad : Nat → Nat} {σ : Mem} {wr : va_W} {k j : Nat} {v : Int32} {e : va_E} (hk : k < n) (he : f k (upd (σ.1 k) j v) (σ.2 k) = e) : (wW n f ad σ ++ wr).set k (ad k, e) = wW n f ad (mI σ k j v) ++ wr :=
  wW_set hk (by rw [mI_row]; exact he) mI_ne
theorem wW_setL {n : Nat} {f : WF} {ad : Nat → Nat} {σ : Mem} {wr : va_W} {k j : Nat} {v : Int64} {e : va_E} (hk : k < n) (he : f k (σ.1 k) (vp_updL (σ.2 k) j v) = e) : (wW n f ad σ ++ wr).set k (ad k, e) = wW n f ad (mL σ k j v) ++ wr :=
  wW_set hk (by rw [mL_row]; exact he) mL_ne
theorem mI_at {σ : Mem} {k j a b : Nat} {v : Int32} : (mI σ k j v).1 a b = if a = k ∧ b = j then v else σ.1 a b := by
  unfold mI
  by_cases h : a = k
  · subst h
    rw [show (va_up σ.1 a (upd (σ.1 a) j v), σ.2).1 a = upd (σ.1 a) j v from va_up_self _ _ _]
    simp [upd]
  · rw [show (va_up σ.1 k (upd (σ.1 k) j v), σ.2).1 a = σ.1 a from va_up_ne _ _ h]
    simp [h]
theorem mL_at {σ : Mem} {k j a b : Nat} {v : Int64} : (mL σ k j v).2 a b = if a = k ∧ b = j then v else σ.2 a b := by
  unfold mL
  by_cases h : a = k
  · subst h
    rw [show (σ.1, va_up σ.2 a (vp_updL (σ.2 a) j v)).2 a = vp_updL (σ.2 a) j v from va_up_self _ _ _]
    simp [vp_updL]
  · rw [show (σ.1, va_up σ.2 k (vp_updL (σ.2 k) j v)).2 a = σ.2 a from va_up_ne _ _ h]
    simp [h]
theorem mI_at2 {σ : Mem} {k j : Nat} {v : Int32} : (mI σ k j v).2 = σ.2 := rfl
theorem mL_at1 {σ : Mem} {k j : Nat} {v : Int64} : (mL σ k j v).1 = σ.1 := rfl
/-- what a start gives besides the cells: links between nest mates (and, for throws, the constants) -/
def NX (A : Nat → Prop) (U : State) (H : Heap) : Prop := va_Nw (.methodLinkNest "PreferenceCount$Fractions" 28 y_C_commonDivisor "PreferenceCount") U
theorem NX.to {A B : Nat → Prop} {s U : State} {H0 H : Heap} (h : NX A s H0) (hW : s.WarmedH U.vm) (hk : ∀ a : Nat, a < H0.size → ¬ A a → H[a]? = H0[a]?) (hAB : ∀ q, B q → A q) : NX B U H := va_Nw.warmM hW h
theorem NX.blind {A : Nat → Prop} {U V : State} {H : Heap} (hv : V.vm = U.vm) (h : NX A U H) : NX A V H := va_Nw.same rfl hv.symm h
/-- a side's world behind a call, and in a walk -/
abbrev wB (D : va_G) (cl : List vw_C) (tys : List (ClassId × FieldType)) (n : Nat) (f : WF) (ad : Nat → Nat) (wr : va_W) (A : Nat → Prop) (σ : Mem) (t : State) : Prop := va_P D cl (wW n f ad σ ++ wr) t.heap ∧ va_K D cl tys t ∧ va_D A (wW n f ad σ ++ wr)
abbrev wPc (D : va_G) (cl : List vw_C) (tys : List (ClassId × FieldType)) (n : Nat) (f : WF) (ad : Nat → Nat) (wr : va_W) (sz : Nat) (σ : Mem) (av : List Value) : Array Value → State → Prop := va_Pc av (fun U => U.heap.size = sz ∧ va_P D cl (wW n f ad σ ++ wr) U.heap ∧ va_K D cl tys U ∧ va_D (fun _ => True) (wW n f ad σ ++ wr) ∧ NX (va_A (wW n f ad σ ++ wr) sz) U U.heap)
abbrev wA (n : Nat) (f : WF) (ad : Nat → Nat) (wr : va_W) (sz : Nat) (σ : Mem) : Nat → Prop := va_A (wW n f ad σ ++ wr) sz
/-- what a walk of a method's body holds all the way -/
def wC (wsm : List Cond) (own : String) (cc : ByteArray) (nL : Nat) (ret : Option FieldType) (D : va_G) (cl : List vw_C) (tys : List (ClassId × FieldType)) (A : Nat → Prop) (p : Program) (s : State) (m : MethodId) (args : Array Value) (meth : Method) (c : Code) : Prop :=
  p.tables.exec = Jvm.exec ∧ c.code = cc ∧ meth.sig.returnType = ret ∧ meth.locks = false ∧ (∀ w ∈ wsm, w.before args s = true) ∧ s.vm.findClass own = some m.cls ∧ c.maxLocals = nL ∧ va_K D cl tys s ∧ NX A s s.heap ∧ ∀ q : Nat, s.heap.size ≤ q → A q
section BASE
variable {p : Program} {l : Launch} {e : Env} {R : Room} {s : State} {m : MethodId} {args : Array Value} {below : List Frame} {meth : Method} {c : Code} {H : Heap} {locs : List Loc} {cells slots : Nat} {Q : State → Prop}
variable {wsm : List Cond} {own : String} {cc : ByteArray} {nL : Nat} {ret : Option FieldType} {D : va_G} {cl : List vw_C} {tys : List (ClassId × FieldType)} {A : Nat → Prop} {n : Nat} {f : WF} {ad : Nat → Nat} {wr : va_W} {σ : Mem}
theorem r_iret {Qp : Int32 → Mem → Prop} {v : Int32} {pc : Nat} {ls : Array Slot} (C : wC wsm own cc nL (some .int) D cl tys A p s m args meth c) (hP : va_P D cl (wW n f ad σ ++ wr) H) (hD : va_D A (wW n f ad σ ++ wr)) (hS : va_S A s.heap H locs) (hdg : decode cc pc = .ok (.ireturn, 1)) (h : Qp v σ) :
    W p l e R s m args below meth c H locs cells slots (MQ below (va_Qi Qp (wB D cl tys n f ad wr A) A) args s cells slots A) (F0 m pc ls [.int v]) :=
  W.iret (v := v) C.1 C.2.1 C.2.2.1 (fun t ht hW => ⟨⟨v, σ, rfl, h, by rw [ht]; exact hP, va_K.moved hW.alike C.2.2.2.2.2.2.2.1, hD⟩, hS.F ht⟩) hS.2.2 hdg C.2.2.2.1
theorem r_zret {Qp : Int32 → Mem → Prop} {v : Int32} {pc : Nat} {ls : Array Slot} (C : wC wsm own cc nL (some .boolean) D cl tys A p s m args meth c) (hv : v = 0 ∨ v = 1) (hP : va_P D cl (wW n f ad σ ++ wr) H) (hD : va_D A (wW n f ad σ ++ wr)) (hS : va_S A s.heap H locs) (hdg : decode cc pc = .ok (.ireturn, 1)) (h : Qp v σ) :
    W p l e R s m args below meth c H locs cells slots (MQ below (va_Qi Qp (wB D cl tys n f ad wr A) A) args s cells slots A) (F0 m pc ls [.int v]) :=
  W.zret (v := v) (ty := .boolean) C.1 C.2.1 C.2.2.1 (by rcases hv with rfl | rfl <;> decide) (fun t ht hW => ⟨⟨v, σ, rfl, h, by rw [ht]; exact hP, va_K.moved hW.alike C.2.2.2.2.2.2.2.1, hD⟩, hS.F ht⟩) hS.2.2 hdg C.2.2.2.1
theorem r_vret {Qp : Mem → Prop} {pc : Nat} {ls : Array Slot} (C : wC wsm own cc nL none D cl tys A p s m args meth c) (hP : va_P D cl (wW n f ad σ ++ wr) H) (hD : va_D A (wW n f ad σ ++ wr)) (hS : va_S A s.heap H locs) (hdg : decode cc pc = .ok (.return_, 1)) (h : Qp σ) :
    W p l e R s m args below meth c H locs cells slots (MQ below (va_Qv Qp (wB D cl tys n f ad wr A) A) args s cells slots A) (F0 m pc ls []) :=
  W.vret C.1 C.2.1 C.2.2.1 (fun t ht hW => ⟨⟨σ, rfl, h, by rw [ht]; exact hP, va_K.moved hW.alike C.2.2.2.2.2.2.2.1, hD⟩, hS.F ht⟩) hS.2.2 hdg C.2.2.2.1
theorem r_lret {Qp : Int64 → Mem → Prop} {v : Int64} {pc : Nat} {ls : Array Slot} (C : wC wsm own cc nL (some .long) D cl tys A p s m args meth c) (hP : va_P D cl (wW n f ad σ ++ wr) H) (hD : va_D A (wW n f ad σ ++ wr)) (hS : va_S A s.heap H locs) (hdg : decode cc pc = .ok (.lreturn, 1)) (h : Qp v σ) :
    W p l e R s m args below meth c H locs cells slots (MQ below (va_Ql Qp (wB D cl tys n f ad wr A) A) args s cells slots A) (F0 m pc ls [.long v]) :=
  W.lret (v := v) C.1 C.2.1 C.2.2.1 (fun t ht hW => ⟨⟨v, σ, rfl, h, by rw [ht]; exact hP, va_K.moved hW.alike C.2.2.2.2.2.2.2.1, hD⟩, hS.F ht⟩) hS.2.2 hdg C.2.2.2.1
/-- what a call may change is the caller's too -/
theorem r_sub (C : wC wsm own cc nL ret D cl tys A p s m args meth c) (hD : va_D A (wW n f ad σ ++ wr)) (hS : va_S A s.heap H locs) : ∀ q, wA n f ad wr H.size σ q → A q := fun q h => by
  rcases h with ⟨k, e0, hk⟩ | h
  · exact hD.2 k _ hk
  · exact C.2.2.2.2.2.2.2.2.2 q (Nat.le_trans hS.1 h)
theorem r_blind {sz : Nat} {av : List Value} : FrameBlind (wPc D cl tys n f ad wr sz σ av) := fun a U g mk q => by
  obtain ⟨q0, q1, qP, qK, qD, qN⟩ := q
  exact ⟨q0, q1, qP, va_K.moved (u := U) (U := U.calling g mk a) (Vm.Alike.refl U.vm) qK, qD, NX.blind (V := U.calling g mk a) rfl qN⟩
theorem r_preS (C : wC wsm own cc nL ret D cl tys A p s m args meth c) (hP : va_P D cl (wW n f ad σ ++ wr) H) (hD : va_D A (wW n f ad σ ++ wr)) (hS : va_S A s.heap H locs) {av : List Value} : PreS s H (wPc D cl tys n f ad wr H.size σ av) av :=
  ⟨r_blind, fun U hU hW => ⟨rfl, by rw [hU], by rw [hU]; exact hP, va_K.moved hW.alike C.2.2.2.2.2.2.2.1, hD.weaken (fun _ _ _ _ => trivial), by rw [hU]; exact C.2.2.2.2.2.2.2.2.1.to hW hS.2.1 (r_sub C hD hS)⟩⟩
theorem r_preV (C : wC wsm own cc nL ret D cl tys A p s m args meth c) (hP : va_P D cl (wW n f ad σ ++ wr) H) (hD : va_D A (wW n f ad σ ++ wr)) (hS : va_S A s.heap H locs) {o ci : Nat} {q : vw_C} {fs : List Value} (ho : o < n) (he : f o (σ.1 o) (σ.2 o) = .inr (ci, fs)) (hc : cl[ci]? = some q) {av : List Value} : PreV s H q.1 (ad o) (wPc D cl tys n f ad wr H.size σ (.ref (ad o) :: av)) av :=
  ⟨r_blind, va_recv C.2.2.2.2.2.2.2.1 hP hc (wW_at ho he), fun U hU hW => ⟨rfl, by rw [hU], by rw [hU]; exact hP, va_K.moved hW.alike C.2.2.2.2.2.2.2.1, hD.weaken (fun _ _ _ _ => trivial), by rw [hU]; exact C.2.2.2.2.2.2.2.2.1.to hW hS.2.1 (r_sub C hD hS)⟩⟩
theorem r_calli {Qp : Int32 → Mem → Prop} {pc : Nat} {ls : Array Slot} {rest st0 : List Value} {a : Array Value} {mc ms : Nat} (C : wC wsm own cc nL ret D cl tys A p s m args meth c) (hD : va_D A (wW n f ad σ ++ wr)) (hS : va_S A s.heap H locs)
    (hr : va_Run p l e R s m args below meth c H locs cells slots mc ms (F0 m pc ls st0) rest (va_Qi Qp (wB D cl tys n f ad wr (wA n f ad wr H.size σ)) (wA n f ad wr H.size σ) a) (wA n f ad wr H.size σ))
    (kk : ∀ (r : Int32) (σ1 : Mem) (H1 : Heap) (locs1 : List Loc), Qp r σ1 → va_P D cl (wW n f ad σ1 ++ wr) H1 → va_D A (wW n f ad σ1 ++ wr) → va_S A s.heap H1 locs1 → W p l e R s m args below meth c H1 locs1 (cells + mc) (slots + ms) Q (F0 m (pc + 3) ls (.int r :: rest))) : W p l e R s m args below meth c H locs cells slots Q (F0 m pc ls st0) :=
  va_calli hr hS (fun q _ h => r_sub C hD hS q h) (r_sub C hD hS) (fun r σ1 t H1 locs1 ht hvm hq hB hz hk hS1 => kk r σ1 H1 locs1 hq (by rw [← ht]; exact hB.1) (hB.2.2.weaken (fun _ _ _ h => r_sub C hD hS _ h)) hS1)
theorem r_calll {Qp : Int64 → Mem → Prop} {pc : Nat} {ls : Array Slot} {rest st0 : List Value} {a : Array Value} {mc ms : Nat} (C : wC wsm own cc nL ret D cl tys A p s m args meth c) (hD : va_D A (wW n f ad σ ++ wr)) (hS : va_S A s.heap H locs)
    (hr : va_Run p l e R s m args below meth c H locs cells slots mc ms (F0 m pc ls st0) rest (va_Ql Qp (wB D cl tys n f ad wr (wA n f ad wr H.size σ)) (wA n f ad wr H.size σ) a) (wA n f ad wr H.size σ))
    (kk : ∀ (r : Int64) (σ1 : Mem) (H1 : Heap) (locs1 : List Loc), Qp r σ1 → va_P D cl (wW n f ad σ1 ++ wr) H1 → va_D A (wW n f ad σ1 ++ wr) → va_S A s.heap H1 locs1 → W p l e R s m args below meth c H1 locs1 (cells + mc) (slots + ms) Q (F0 m (pc + 3) ls (.long r :: rest))) : W p l e R s m args below meth c H locs cells slots Q (F0 m pc ls st0) :=
  va_calll hr hS (fun q _ h => r_sub C hD hS q h) (r_sub C hD hS) (fun r σ1 t H1 locs1 ht hvm hq hB hz hk hS1 => kk r σ1 H1 locs1 hq (by rw [← ht]; exact hB.1) (hB.2.2.weaken (fun _ _ _ h => r_sub C hD hS _ h)) hS1)
theorem r_callv {Qp : Mem → Prop} {pc : Nat} {ls : Array Slot} {rest st0 : List Value} {a : Array Value} {mc ms : Nat} (C : wC wsm own cc nL ret D cl tys A p s m args meth c) (hD : va_D A (wW n f ad σ ++ wr)) (hS : va_S A s.heap H locs)
    (hr : va_Run p l e R s m args below meth c H locs cells slots mc ms (F0 m pc ls st0) rest (va_Qv Qp (wB D cl tys n f ad wr (wA n f ad wr H.size σ)) (wA n f ad wr H.size σ) a) (wA n f ad wr H.size σ))
    (kk : ∀ (σ1 : Mem) (H1 : Heap) (locs1 : List Loc), Qp σ1 → va_P D cl (wW n f ad σ1 ++ wr) H1 → va_D A (wW n f ad σ1 ++ wr) → va_S A s.heap H1 locs1 → W p l e R s m args below meth c H1 locs1 (cells + mc) (slots + ms) Q (F0 m (pc + 3) ls rest)) : W p l e R s m args below meth c H locs cells slots Q (F0 m pc ls st0) :=
  va_callv hr hS (fun q _ h => r_sub C hD hS q h) (r_sub C hD hS) (fun σ1 t H1 locs1 ht hvm hq hB hz hk hS1 => kk σ1 H1 locs1 hq (by rw [← ht]; exact hB.1) (hB.2.2.weaken (fun _ _ _ h => r_sub C hD hS _ h)) hS1)
variable {pc : Nat} {ls : Array Slot} {rest : List Value}
theorem r_get {C' : String} {T : u_T} {N ci index : Nat} (C : wC wsm own cc nL ret D cl tys A p s m args meth c) (hin : ∀ w ∈ u_ws C' T N, w ∈ wsm) (hP : va_P D cl (wW n f ad σ ++ wr) H) {o : Nat} (ho : o < n) {fs : List Value} (he : f o (σ.1 o) (σ.2 o) = .inr (ci, fs)) (hc : cl[ci]? = some (C', T, N)) (k : Nat) (hk : k < N) (hlink : Cond.fieldLink own index (T k).1 (T k).2.1 (T k).2.2.1 ∈ wsm) {v : Value} (hv : fs[k]? = some v) (hdg : decode cc pc = .ok (.getfield index, 3))
    (kk : W p l e R s m args below meth c H locs cells slots Q (F0 m (pc + 3) ls (v :: rest))) : W p l e R s m args below meth c H locs cells slots Q (F0 m pc ls (.ref (ad o) :: rest)) :=
  va_get C.1 C.2.1 C.2.2.2.2.1 hin C.2.2.2.2.2.1 C.2.2.2.2.2.2.2.1 hP o (wW_at ho he) hc k hk (C.2.2.2.2.1 _ hlink) (fun _ h => h) hv hdg kk
theorem r_putI {C' : String} {T : u_T} {N ci index : Nat} (C : wC wsm own cc nL ret D cl tys A p s m args meth c) (hin : ∀ w ∈ u_ws C' T N, w ∈ wsm) (ty0 : Nat → FieldType) (hty : ∀ k, k < N → parseFieldDescriptor (T k).2.2.1 = some (ty0 k)) (hnm : ∀ a, a < N → ∀ b, b < N → a ≠ b → (T a).2.1 ≠ (T b).2.1) (hP : va_P D cl (wW n f ad σ ++ wr) H) (hD : va_D A (wW n f ad σ ++ wr)) (hS : va_S A s.heap H locs) {o : Nat} (ho : o < n) {fs : List Value} (he : f o (σ.1 o) (σ.2 o) = .inr (ci, fs)) (hc : cl[ci]? = some (C', T, N)) (k : Nat) (hk : k < N) (hlink : Cond.fieldLink own index (T k).1 (T k).2.1 (T k).2.2.1 ∈ wsm) (hfin : (T k).2.2.2 = false) {ty : FieldType} {x : Int32} (hd : parseFieldDescriptor (T k).2.2.1 = some ty) (hn : narrow ty (.int x) = .int x) (hfit : fits ty (.int x) = true) (hl : k < fs.length) (hdg : decode cc pc = .ok (.putfield index, 3)) (he' : f o (upd (σ.1 o) k x) (σ.2 o) = .inr (ci, fs.set k (.int x)))
    (kk : ∀ σ1 : Mem, σ1 = mI σ o k x → ∀ (H1 : Heap) (locs1 : List Loc), va_P D cl (wW n f ad σ1 ++ wr) H1 → va_D A (wW n f ad σ1 ++ wr) → va_S A s.heap H1 locs1 → W p l e R s m args below meth c H1 locs1 cells slots Q (F0 m (pc + 3) ls rest)) : W p l e R s m args below meth c H locs cells slots Q (F0 m pc ls (.int x :: .ref (ad o) :: rest)) :=
  va_put C.1 C.2.1 C.2.2.2.2.1 hin ty0 hty hnm C.2.2.2.2.2.1 C.2.2.2.2.2.2.2.1 hP hD hS o (wW_at ho he) hc k hk (C.2.2.2.2.1 _ hlink) (fun _ h => h) hfin hd hn hfit hl hdg (fun H1 l1 hP1 hD1 hS1 => kk _ rfl H1 l1 (by rw [← wW_setI ho he']; exact hP1) (by rw [← wW_setI ho he']; exact hD1) hS1)
theorem r_putL {C' : String} {T : u_T} {N ci index : Nat} (C : wC wsm own cc nL ret D cl tys A p s m args meth c) (hin : ∀ w ∈ u_ws C' T N, w ∈ wsm) (ty0 : Nat → FieldType) (hty : ∀ k, k < N → parseFieldDescriptor (T k).2.2.1 = some (ty0 k)) (hnm : ∀ a, a < N → ∀ b, b < N → a ≠ b → (T a).2.1 ≠ (T b).2.1) (hP : va_P D cl (wW n f ad σ ++ wr) H) (hD : va_D A (wW n f ad σ ++ wr)) (hS : va_S A s.heap H locs) {o : Nat} (ho : o < n) {fs : List Value} (he : f o (σ.1 o) (σ.2 o) = .inr (ci, fs)) (hc : cl[ci]? = some (C', T, N)) (k : Nat) (hk : k < N) (hlink : Cond.fieldLink own index (T k).1 (T k).2.1 (T k).2.2.1 ∈ wsm) (hfin : (T k).2.2.2 = false) {x : Int64} (hd : parseFieldDescriptor (T k).2.2.1 = some .long) (hl : k < fs.length) (hdg : decode cc pc = .ok (.putfield index, 3)) (he' : f o (σ.1 o) (vp_updL (σ.2 o) k x) = .inr (ci, fs.set k (.long x)))
    (kk : ∀ σ1 : Mem, σ1 = mL σ o k x → ∀ (H1 : Heap) (locs1 : List Loc), va_P D cl (wW n f ad σ1 ++ wr) H1 → va_D A (wW n f ad σ1 ++ wr) → va_S A s.heap H1 locs1 → W p l e R s m args below meth c H1 locs1 cells slots Q (F0 m (pc + 3) ls rest)) : W p l e R s m args below meth c H locs cells slots Q (F0 m pc ls (.long x :: .ref (ad o) :: rest)) :=
  va_put C.1 C.2.1 C.2.2.2.2.1 hin ty0 hty hnm C.2.2.2.2.2.1 C.2.2.2.2.2.2.2.1 hP hD hS o (wW_at ho he) hc k hk (C.2.2.2.2.1 _ hlink) (fun _ h => h) hfin hd rfl rfl hl hdg (fun H1 l1 hP1 hD1 hS1 => kk _ rfl H1 l1 (by rw [← wW_setL ho he']; exact hP1) (by rw [← wW_setL ho he']; exact hD1) hS1)
theorem r_iald (C : wC wsm own cc nL ret D cl tys A p s m args meth c) (hP : va_P D cl (wW n f ad σ ++ wr) H) {o : Nat} (ho : o < n) {cA : ClassId} {k : Nat} (he : f o (σ.1 o) (σ.2 o) = .inl (cA, k, .inl (σ.1 o))) (ht : tys[0]? = some (cA, .int)) {i : Int32} (hin : vp_in i k) (hdg : decode cc pc = .ok (.iaload, 1))
    (kk : W p l e R s m args below meth c H locs cells slots Q (F0 m (pc + 1) ls (.int (σ.1 o i.toNatClampNeg) :: rest))) : W p l e R s m args below meth c H locs cells slots Q (F0 m pc ls (.int i :: .ref (ad o) :: rest)) :=
  va_iald C.1 C.2.1 C.2.2.2.2.2.2.2.1 hP o 0 (wW_at ho he) ht hin hdg kk
theorem r_zald (C : wC wsm own cc nL ret D cl tys A p s m args meth c) (hP : va_P D cl (wW n f ad σ ++ wr) H) {o : Nat} (ho : o < n) {cA : ClassId} {k : Nat} (he : f o (σ.1 o) (σ.2 o) = .inl (cA, k, .inl (σ.1 o))) (ht : tys[2]? = some (cA, .boolean)) {i : Int32} (hin : vp_in i k) (hdg : decode cc pc = .ok (.baload, 1))
    (kk : W p l e R s m args below meth c H locs cells slots Q (F0 m (pc + 1) ls (.int (σ.1 o i.toNatClampNeg) :: rest))) : W p l e R s m args below meth c H locs cells slots Q (F0 m pc ls (.int i :: .ref (ad o) :: rest)) :=
  va_zald C.1 C.2.1 C.2.2.2.2.2.2.2.1 hP o 2 (wW_at ho he) ht hin hdg kk
theorem r_lald (C : wC wsm own cc nL ret D cl tys A p s m args meth c) (hP : va_P D cl (wW n f ad σ ++ wr) H) {o : Nat} (ho : o < n) {cA : ClassId} {k : Nat} (he : f o (σ.1 o) (σ.2 o) = .inl (cA, k, .inr (.inl (σ.2 o)))) (ht : tys[1]? = some (cA, .long)) {i : Int32} (hin : vp_in i k) (hdg : decode cc pc = .ok (.laload, 1))
    (kk : W p l e R s m args below meth c H locs cells slots Q (F0 m (pc + 1) ls (.long (σ.2 o i.toNatClampNeg) :: rest))) : W p l e R s m args below meth c H locs cells slots Q (F0 m pc ls (.int i :: .ref (ad o) :: rest)) :=
  va_lald C.1 C.2.1 C.2.2.2.2.2.2.2.1 hP o 1 (wW_at ho he) ht hin hdg kk
theorem r_aald (C : wC wsm own cc nL ret D cl tys A p s m args meth c) (hP : va_P D cl (wW n f ad σ ++ wr) H) {o : Nat} (ho : o < n) {cA : ClassId} {k : Nat} {C' : String} {g : Nat → Nat} (he : f o (σ.1 o) (σ.2 o) = .inl (cA, k, .inr (.inr (.inr (.inr (fun i => some (g i))))))) (ht : tys[3]? = some (cA, .object C')) {i : Int32} (hin : vp_in i k) (hdg : decode cc pc = .ok (.aaload, 1))
    (kk : W p l e R s m args below meth c H locs cells slots Q (F0 m (pc + 1) ls (.ref (g i.toNatClampNeg) :: rest))) : W p l e R s m args below meth c H locs cells slots Q (F0 m pc ls (.int i :: .ref (ad o) :: rest)) :=
  va_aldq C.1 C.2.1 C.2.2.2.2.2.2.2.1 hP o 3 (wW_at ho he) ht hin hdg kk
theorem r_iast (C : wC wsm own cc nL ret D cl tys A p s m args meth c) (hP : va_P D cl (wW n f ad σ ++ wr) H) (hD : va_D A (wW n f ad σ ++ wr)) (hS : va_S A s.heap H locs) {o : Nat} (ho : o < n) {cA : ClassId} {k : Nat} (he : ∀ r q, f o r q = .inl (cA, k, .inl r)) (ht : tys[0]? = some (cA, .int)) {i x : Int32} (hin : vp_in i k) (hdg : decode cc pc = .ok (.iastore, 1))
    (kk : ∀ σ1 : Mem, σ1 = mI σ o i.toNatClampNeg x → ∀ (H1 : Heap) (locs1 : List Loc), va_P D cl (wW n f ad σ1 ++ wr) H1 → va_D A (wW n f ad σ1 ++ wr) → va_S A s.heap H1 locs1 → W p l e R s m args below meth c H1 locs1 cells slots Q (F0 m (pc + 1) ls rest)) : W p l e R s m args below meth c H locs cells slots Q (F0 m pc ls (.int x :: .int i :: .ref (ad o) :: rest)) :=
  va_iast C.1 C.2.1 C.2.2.2.2.2.2.2.1 hP hD hS o 0 (wW_at ho (he _ _)) ht hin hdg (fun H1 l1 hP1 hD1 hS1 => kk _ rfl H1 l1 (by rw [← wW_setI ho (he _ _)]; exact hP1) (by rw [← wW_setI ho (he _ _)]; exact hD1) hS1)
theorem r_zast (C : wC wsm own cc nL ret D cl tys A p s m args meth c) (hP : va_P D cl (wW n f ad σ ++ wr) H) (hD : va_D A (wW n f ad σ ++ wr)) (hS : va_S A s.heap H locs) {o : Nat} (ho : o < n) {cA : ClassId} {k : Nat} (he : ∀ r q, f o r q = .inl (cA, k, .inl r)) (ht : tys[2]? = some (cA, .boolean)) {i x : Int32} (hin : vp_in i k) (hdg : decode cc pc = .ok (.bastore, 1))
    (kk : ∀ σ1 : Mem, σ1 = mI σ o i.toNatClampNeg (vp_nar .boolean x) → ∀ (H1 : Heap) (locs1 : List Loc), va_P D cl (wW n f ad σ1 ++ wr) H1 → va_D A (wW n f ad σ1 ++ wr) → va_S A s.heap H1 locs1 → W p l e R s m args below meth c H1 locs1 cells slots Q (F0 m (pc + 1) ls rest)) : W p l e R s m args below meth c H locs cells slots Q (F0 m pc ls (.int x :: .int i :: .ref (ad o) :: rest)) :=
  va_zast C.1 C.2.1 C.2.2.2.2.2.2.2.1 hP hD hS o 2 (wW_at ho (he _ _)) ht hin hdg (fun H1 l1 hP1 hD1 hS1 => kk _ rfl H1 l1 (by rw [← wW_setI ho (he _ _)]; exact hP1) (by rw [← wW_setI ho (he _ _)]; exact hD1) hS1)
theorem r_last (C : wC wsm own cc nL ret D cl tys A p s m args meth c) (hP : va_P D cl (wW n f ad σ ++ wr) H) (hD : va_D A (wW n f ad σ ++ wr)) (hS : va_S A s.heap H locs) {o : Nat} (ho : o < n) {cA : ClassId} {k : Nat} (he : ∀ r q, f o r q = .inl (cA, k, .inr (.inl q))) (ht : tys[1]? = some (cA, .long)) {i : Int32} {x : Int64} (hin : vp_in i k) (hdg : decode cc pc = .ok (.lastore, 1))
    (kk : ∀ σ1 : Mem, σ1 = mL σ o i.toNatClampNeg x → ∀ (H1 : Heap) (locs1 : List Loc), va_P D cl (wW n f ad σ1 ++ wr) H1 → va_D A (wW n f ad σ1 ++ wr) → va_S A s.heap H1 locs1 → W p l e R s m args below meth c H1 locs1 cells slots Q (F0 m (pc + 1) ls rest)) : W p l e R s m args below meth c H locs cells slots Q (F0 m pc ls (.long x :: .int i :: .ref (ad o) :: rest)) :=
  va_last C.1 C.2.1 C.2.2.2.2.2.2.2.1 hP hD hS o 1 (wW_at ho (he _ _)) ht hin hdg (fun H1 l1 hP1 hD1 hS1 => kk _ rfl H1 l1 (by rw [← wW_setL ho (he _ _)]; exact hP1) (by rw [← wW_setL ho (he _ _)]; exact hD1) hS1)
theorem r_alen (C : wC wsm own cc nL ret D cl tys A p s m args meth c) (hP : va_P D cl (wW n f ad σ ++ wr) H) {o : Nat} (ho : o < n) {cA : ClassId} {x : vp_A} (he : f o (σ.1 o) (σ.2 o) = .inl (cA, x)) (t0 : Nat) {ty : FieldType} (ht : tys[t0]? = some (cA, ty)) (hdg : decode cc pc = .ok (.arraylength, 1))
    (kk : W p l e R s m args below meth c H locs cells slots Q (F0 m (pc + 1) ls (.int (Int32.ofNat x.1) :: rest))) : W p l e R s m args below meth c H locs cells slots Q (F0 m pc ls (.ref (ad o) :: rest)) :=
  va_alen C.1 C.2.1 C.2.2.2.2.2.2.2.1 hP o t0 (wW_at ho he) ht rfl hdg kk
end BASE
/-- the words of a call, out of TB -/
theorem g_tb {c0 : Cond} {ws : List Cond} (h : ∀ w ∈ ws, w ∈ TB) : GoodIn TB (c0 :: ws) ↔ c0 ∈ TB := ⟨fun g => (g c0 List.mem_cons_self).1, fun hc w hw => by
  rcases List.mem_cons.mp hw with rfl | hw
  · exact ⟨hc, good_of_word (TB_good hc)⟩
  · exact ⟨h w hw, good_of_word (TB_good (h w hw))⟩⟩
theorem g_all {ws : List Cond} (h : ∀ w ∈ ws, w ∈ TB) : GoodIn TB ws := fun w hw => ⟨h w hw, good_of_word (TB_good (h w hw))⟩
theorem g_V {own C : String} {idx : Nat} {y : MethodName} {b : ByteArray} {k : Nat} {r : Option FieldType} (h1 : Cond.methodLink own idx y ∈ TB) (h2 : Cond.instanceMethod y ∈ TB) (h3 : Cond.selects C y y ∈ TB) (h4 : Cond.initialized C ∈ TB) (h5 : Cond.code y b k r ∈ TB) : GoodIn TB (wsV own idx C y (Cond.code y b k r :: TB)) := g_all fun w hw => by
  unfold wsV at hw
  simp only [List.mem_append, List.mem_cons, List.not_mem_nil, or_false] at hw
  rcases hw with (rfl | rfl | rfl | rfl) | rfl | hw
  · exact h1
  · exact h2
  · exact h3
  · exact h4
  · exact h5
  · exact hw
theorem g_S {own : String} {idx : Nat} {y : MethodName} {b : ByteArray} {k : Nat} {r : Option FieldType} (h1 : Cond.methodLink own idx y ∈ TB) (h2 : Cond.static y ∈ TB) (h4 : Cond.initialized y.cls ∈ TB) (h5 : Cond.code y b k r ∈ TB) : GoodIn TB (va_wsS own idx y (Cond.code y b k r :: TB)) := g_all fun w hw => by
  unfold va_wsS at hw
  simp only [List.mem_append, List.mem_cons, List.not_mem_nil, or_false] at hw
  rcases hw with (rfl | rfl | rfl) | rfl | hw
  · exact h1
  · exact h2
  · exact h4
  · exact h5
  · exact hw
theorem g_C {y : MethodName} {b : ByteArray} {k : Nat} {r : Option FieldType} (h5 : Cond.code y b k r ∈ TB) : GoodIn TB (Cond.code y b k r :: TB) := g_all fun w hw => by
  rcases List.mem_cons.mp hw with rfl | hw
  · exact h5
  · exact hw
end
