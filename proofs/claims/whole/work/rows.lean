section
-- ===== PART A: goes FIRST, ahead of the names: the tables' words, and 'selects' of the private methods out of them =====
/-- a private method of a class that the tables say can be made, by its rows of tables_1 -/
def lw_okq (q : MethodName × Nat) : Prop := (q.1.cls ≠ "java/lang/invoke/MethodHandle" ∧ q.1.cls ≠ "java/lang/invoke/VarHandle") ∧ Cond.instantiable q.1.cls q.2 ∈ tables_1 ∧ Cond.privateMethod q.1 ∈ tables_1 ∧ Cond.instanceMethod q.1 ∈ tables_1
theorem lw_p0 : lw_okq (⟨"Gridpeer", "boundBySet", "(I)I"⟩, 17) := ⟨⟨by decide +kernel, by decide +kernel⟩, List.mem_of_getElem? (i := 12) (by decide +kernel), List.mem_of_getElem? (i := 113) (by decide +kernel), List.mem_of_getElem? (i := 114) (by decide +kernel)⟩
theorem lw_p1 : lw_okq (⟨"Gridpeer", "sellsToSet", "(II)Z"⟩, 17) := ⟨⟨by decide +kernel, by decide +kernel⟩, List.mem_of_getElem? (i := 12) (by decide +kernel), List.mem_of_getElem? (i := 120) (by decide +kernel), List.mem_of_getElem? (i := 121) (by decide +kernel)⟩
theorem lw_p2 : lw_okq (⟨"java/lang/Throwable", "fillInStackTrace", "(I)Ljava/lang/Throwable;"⟩, 6) := ⟨⟨by decide +kernel, by decide +kernel⟩, List.mem_of_getElem? (i := 190) (by decide +kernel), List.mem_of_getElem? (i := 188) (by decide +kernel), List.mem_of_getElem? (i := 189) (by decide +kernel)⟩
theorem lw_p3 : lw_okq (⟨"Gridpeer", "checkMember", "(I)V"⟩, 17) := ⟨⟨by decide +kernel, by decide +kernel⟩, List.mem_of_getElem? (i := 12) (by decide +kernel), List.mem_of_getElem? (i := 239) (by decide +kernel), List.mem_of_getElem? (i := 240) (by decide +kernel)⟩
theorem lw_p4 : lw_okq (⟨"Gridpeer", "payPool", "(II)V"⟩, 17) := ⟨⟨by decide +kernel, by decide +kernel⟩, List.mem_of_getElem? (i := 12) (by decide +kernel), List.mem_of_getElem? (i := 307) (by decide +kernel), List.mem_of_getElem? (i := 308) (by decide +kernel)⟩
theorem lw_p5 : lw_okq (⟨"Gridpeer", "beginClearing", "()V"⟩, 17) := ⟨⟨by decide +kernel, by decide +kernel⟩, List.mem_of_getElem? (i := 12) (by decide +kernel), List.mem_of_getElem? (i := 319) (by decide +kernel), List.mem_of_getElem? (i := 320) (by decide +kernel)⟩
theorem lw_p6 : lw_okq (⟨"Gridpeer$TradeBook", "empty", "()V"⟩, 6) := ⟨⟨by decide +kernel, by decide +kernel⟩, List.mem_of_getElem? (i := 20) (by decide +kernel), List.mem_of_getElem? (i := 323) (by decide +kernel), List.mem_of_getElem? (i := 324) (by decide +kernel)⟩
theorem lw_p7 : lw_okq (⟨"Gridpeer", "matchBuyers", "()V"⟩, 17) := ⟨⟨by decide +kernel, by decide +kernel⟩, List.mem_of_getElem? (i := 12) (by decide +kernel), List.mem_of_getElem? (i := 327) (by decide +kernel), List.mem_of_getElem? (i := 328) (by decide +kernel)⟩
theorem lw_p8 : lw_okq (⟨"Gridpeer", "rankOf", "(I)I"⟩, 17) := ⟨⟨by decide +kernel, by decide +kernel⟩, List.mem_of_getElem? (i := 12) (by decide +kernel), List.mem_of_getElem? (i := 331) (by decide +kernel), List.mem_of_getElem? (i := 332) (by decide +kernel)⟩
theorem lw_p9 : lw_okq (⟨"Gridpeer", "serveBuyer", "(I)V"⟩, 17) := ⟨⟨by decide +kernel, by decide +kernel⟩, List.mem_of_getElem? (i := 12) (by decide +kernel), List.mem_of_getElem? (i := 335) (by decide +kernel), List.mem_of_getElem? (i := 336) (by decide +kernel)⟩
theorem lw_p10 : lw_okq (⟨"Gridpeer", "bestSeller", "(I)I"⟩, 17) := ⟨⟨by decide +kernel, by decide +kernel⟩, List.mem_of_getElem? (i := 12) (by decide +kernel), List.mem_of_getElem? (i := 339) (by decide +kernel), List.mem_of_getElem? (i := 340) (by decide +kernel)⟩
theorem lw_p11 : lw_okq (⟨"Gridpeer", "isBetterSeller", "(III)Z"⟩, 17) := ⟨⟨by decide +kernel, by decide +kernel⟩, List.mem_of_getElem? (i := 12) (by decide +kernel), List.mem_of_getElem? (i := 343) (by decide +kernel), List.mem_of_getElem? (i := 344) (by decide +kernel)⟩
theorem lw_p12 : lw_okq (⟨"Gridpeer$TradeBook", "add", "(IIII)V"⟩, 6) := ⟨⟨by decide +kernel, by decide +kernel⟩, List.mem_of_getElem? (i := 20) (by decide +kernel), List.mem_of_getElem? (i := 350) (by decide +kernel), List.mem_of_getElem? (i := 351) (by decide +kernel)⟩
theorem lw_p13 : lw_okq (⟨"Gridpeer", "cutOverLimits", "()V"⟩, 17) := ⟨⟨by decide +kernel, by decide +kernel⟩, List.mem_of_getElem? (i := 12) (by decide +kernel), List.mem_of_getElem? (i := 354) (by decide +kernel), List.mem_of_getElem? (i := 355) (by decide +kernel)⟩
theorem lw_p14 : lw_okq (⟨"Gridpeer$TradeBook", "cutOver", "(II)Z"⟩, 6) := ⟨⟨by decide +kernel, by decide +kernel⟩, List.mem_of_getElem? (i := 20) (by decide +kernel), List.mem_of_getElem? (i := 358) (by decide +kernel), List.mem_of_getElem? (i := 359) (by decide +kernel)⟩
theorem lw_p15 : lw_okq (⟨"Gridpeer$TradeBook", "flowOver", "(I)I"⟩, 6) := ⟨⟨by decide +kernel, by decide +kernel⟩, List.mem_of_getElem? (i := 20) (by decide +kernel), List.mem_of_getElem? (i := 362) (by decide +kernel), List.mem_of_getElem? (i := 363) (by decide +kernel)⟩
def lw_privs_1 : List (MethodName × Nat) := [(⟨"Gridpeer", "boundBySet", "(I)I"⟩, 17), (⟨"Gridpeer", "sellsToSet", "(II)Z"⟩, 17), (⟨"java/lang/Throwable", "fillInStackTrace", "(I)Ljava/lang/Throwable;"⟩, 6), (⟨"Gridpeer", "checkMember", "(I)V"⟩, 17), (⟨"Gridpeer", "payPool", "(II)V"⟩, 17), (⟨"Gridpeer", "beginClearing", "()V"⟩, 17), (⟨"Gridpeer$TradeBook", "empty", "()V"⟩, 6), (⟨"Gridpeer", "matchBuyers", "()V"⟩, 17), (⟨"Gridpeer", "rankOf", "(I)I"⟩, 17), (⟨"Gridpeer", "serveBuyer", "(I)V"⟩, 17), (⟨"Gridpeer", "bestSeller", "(I)I"⟩, 17), (⟨"Gridpeer", "isBetterSeller", "(III)Z"⟩, 17), (⟨"Gridpeer$TradeBook", "add", "(IIII)V"⟩, 6), (⟨"Gridpeer", "cutOverLimits", "()V"⟩, 17), (⟨"Gridpeer$TradeBook", "cutOver", "(II)Z"⟩, 6), (⟨"Gridpeer$TradeBook", "flowOver", "(I)I"⟩, 6)]
theorem lw_r1 : ∀ q ∈ lw_privs_1, lw_okq q := List.forall_mem_cons.mpr ⟨lw_p0, List.forall_mem_cons.mpr ⟨lw_p1, List.forall_mem_cons.mpr ⟨lw_p2, List.forall_mem_cons.mpr ⟨lw_p3, List.forall_mem_cons.mpr ⟨lw_p4, List.forall_mem_cons.mpr ⟨lw_p5, List.forall_mem_cons.mpr ⟨lw_p6, List.forall_mem_cons.mpr ⟨lw_p7, List.forall_mem_cons.mpr ⟨lw_p8, List.forall_mem_cons.mpr ⟨lw_p9, List.forall_mem_cons.mpr ⟨lw_p10, List.forall_mem_cons.mpr ⟨lw_p11, List.forall_mem_cons.mpr ⟨lw_p12, List.forall_mem_cons.mpr ⟨lw_p13, List.forall_mem_cons.mpr ⟨lw_p14, List.forall_mem_cons.mpr ⟨lw_p15, fun _ h => absurd h List.not_mem_nil⟩⟩⟩⟩⟩⟩⟩⟩⟩⟩⟩⟩⟩⟩⟩⟩
theorem lw_p16 : lw_okq (⟨"Gridpeer", "countTrades", "()V"⟩, 17) := ⟨⟨by decide +kernel, by decide +kernel⟩, List.mem_of_getElem? (i := 12) (by decide +kernel), List.mem_of_getElem? (i := 371) (by decide +kernel), List.mem_of_getElem? (i := 372) (by decide +kernel)⟩
theorem lw_p17 : lw_okq (⟨"Gridpeer", "settleTrades", "(I)V"⟩, 17) := ⟨⟨by decide +kernel, by decide +kernel⟩, List.mem_of_getElem? (i := 12) (by decide +kernel), List.mem_of_getElem? (i := 376) (by decide +kernel), List.mem_of_getElem? (i := 377) (by decide +kernel)⟩
theorem lw_p18 : lw_okq (⟨"Gridpeer", "useBattery", "(I)V"⟩, 17) := ⟨⟨by decide +kernel, by decide +kernel⟩, List.mem_of_getElem? (i := 12) (by decide +kernel), List.mem_of_getElem? (i := 380) (by decide +kernel), List.mem_of_getElem? (i := 381) (by decide +kernel)⟩
theorem lw_p19 : lw_okq (⟨"Gridpeer", "putIn", "(II)V"⟩, 17) := ⟨⟨by decide +kernel, by decide +kernel⟩, List.mem_of_getElem? (i := 12) (by decide +kernel), List.mem_of_getElem? (i := 384) (by decide +kernel), List.mem_of_getElem? (i := 385) (by decide +kernel)⟩
theorem lw_p20 : lw_okq (⟨"Gridpeer", "takeOut", "(II)V"⟩, 17) := ⟨⟨by decide +kernel, by decide +kernel⟩, List.mem_of_getElem? (i := 12) (by decide +kernel), List.mem_of_getElem? (i := 388) (by decide +kernel), List.mem_of_getElem? (i := 389) (by decide +kernel)⟩
theorem lw_p21 : lw_okq (⟨"Gridpeer", "settleWithSupplier", "(I)V"⟩, 17) := ⟨⟨by decide +kernel, by decide +kernel⟩, List.mem_of_getElem? (i := 12) (by decide +kernel), List.mem_of_getElem? (i := 395) (by decide +kernel), List.mem_of_getElem? (i := 396) (by decide +kernel)⟩
theorem lw_p22 : lw_okq (⟨"Gridpeer", "beginNextQuarter", "()V"⟩, 17) := ⟨⟨by decide +kernel, by decide +kernel⟩, List.mem_of_getElem? (i := 12) (by decide +kernel), List.mem_of_getElem? (i := 399) (by decide +kernel), List.mem_of_getElem? (i := 400) (by decide +kernel)⟩
theorem lw_p23 : lw_okq (⟨"GridpeerModel", "belongs", "(I)Z"⟩, 22) := ⟨⟨by decide +kernel, by decide +kernel⟩, List.mem_of_getElem? (i := 455) (by decide +kernel), List.mem_of_getElem? (i := 542) (by decide +kernel), List.mem_of_getElem? (i := 543) (by decide +kernel)⟩
theorem lw_p24 : lw_okq (⟨"GridpeerModel", "goes", "(ZZZ)Z"⟩, 22) := ⟨⟨by decide +kernel, by decide +kernel⟩, List.mem_of_getElem? (i := 455) (by decide +kernel), List.mem_of_getElem? (i := 546) (by decide +kernel), List.mem_of_getElem? (i := 547) (by decide +kernel)⟩
theorem lw_p25 : lw_okq (⟨"GridpeerModel", "isBuyer", "(I)Z"⟩, 22) := ⟨⟨by decide +kernel, by decide +kernel⟩, List.mem_of_getElem? (i := 455) (by decide +kernel), List.mem_of_getElem? (i := 581) (by decide +kernel), List.mem_of_getElem? (i := 582) (by decide +kernel)⟩
theorem lw_p26 : lw_okq (⟨"GridpeerModel", "turnOf", "(I)I"⟩, 22) := ⟨⟨by decide +kernel, by decide +kernel⟩, List.mem_of_getElem? (i := 455) (by decide +kernel), List.mem_of_getElem? (i := 585) (by decide +kernel), List.mem_of_getElem? (i := 586) (by decide +kernel)⟩
theorem lw_p27 : lw_okq (⟨"GridpeerModel", "takes", "(I)V"⟩, 22) := ⟨⟨by decide +kernel, by decide +kernel⟩, List.mem_of_getElem? (i := 455) (by decide +kernel), List.mem_of_getElem? (i := 589) (by decide +kernel), List.mem_of_getElem? (i := 590) (by decide +kernel)⟩
theorem lw_p28 : lw_okq (⟨"GridpeerModel", "sellerFor", "(I)I"⟩, 22) := ⟨⟨by decide +kernel, by decide +kernel⟩, List.mem_of_getElem? (i := 455) (by decide +kernel), List.mem_of_getElem? (i := 593) (by decide +kernel), List.mem_of_getElem? (i := 594) (by decide +kernel)⟩
theorem lw_p29 : lw_okq (⟨"GridpeerModel", "isSeller", "(I)Z"⟩, 22) := ⟨⟨by decide +kernel, by decide +kernel⟩, List.mem_of_getElem? (i := 455) (by decide +kernel), List.mem_of_getElem? (i := 597) (by decide +kernel), List.mem_of_getElem? (i := 598) (by decide +kernel)⟩
theorem lw_p30 : lw_okq (⟨"GridpeerModel", "cuts", "(I)I"⟩, 22) := ⟨⟨by decide +kernel, by decide +kernel⟩, List.mem_of_getElem? (i := 455) (by decide +kernel), List.mem_of_getElem? (i := 604) (by decide +kernel), List.mem_of_getElem? (i := 605) (by decide +kernel)⟩
theorem lw_p31 : lw_okq (⟨"GridpeerModel", "flowOver", "(I)I"⟩, 22) := ⟨⟨by decide +kernel, by decide +kernel⟩, List.mem_of_getElem? (i := 455) (by decide +kernel), List.mem_of_getElem? (i := 608) (by decide +kernel), List.mem_of_getElem? (i := 609) (by decide +kernel)⟩
def lw_privs_2 : List (MethodName × Nat) := [(⟨"Gridpeer", "countTrades", "()V"⟩, 17), (⟨"Gridpeer", "settleTrades", "(I)V"⟩, 17), (⟨"Gridpeer", "useBattery", "(I)V"⟩, 17), (⟨"Gridpeer", "putIn", "(II)V"⟩, 17), (⟨"Gridpeer", "takeOut", "(II)V"⟩, 17), (⟨"Gridpeer", "settleWithSupplier", "(I)V"⟩, 17), (⟨"Gridpeer", "beginNextQuarter", "()V"⟩, 17), (⟨"GridpeerModel", "belongs", "(I)Z"⟩, 22), (⟨"GridpeerModel", "goes", "(ZZZ)Z"⟩, 22), (⟨"GridpeerModel", "isBuyer", "(I)Z"⟩, 22), (⟨"GridpeerModel", "turnOf", "(I)I"⟩, 22), (⟨"GridpeerModel", "takes", "(I)V"⟩, 22), (⟨"GridpeerModel", "sellerFor", "(I)I"⟩, 22), (⟨"GridpeerModel", "isSeller", "(I)Z"⟩, 22), (⟨"GridpeerModel", "cuts", "(I)I"⟩, 22), (⟨"GridpeerModel", "flowOver", "(I)I"⟩, 22)]
theorem lw_r2 : ∀ q ∈ lw_privs_2, lw_okq q := List.forall_mem_cons.mpr ⟨lw_p16, List.forall_mem_cons.mpr ⟨lw_p17, List.forall_mem_cons.mpr ⟨lw_p18, List.forall_mem_cons.mpr ⟨lw_p19, List.forall_mem_cons.mpr ⟨lw_p20, List.forall_mem_cons.mpr ⟨lw_p21, List.forall_mem_cons.mpr ⟨lw_p22, List.forall_mem_cons.mpr ⟨lw_p23, List.forall_mem_cons.mpr ⟨lw_p24, List.forall_mem_cons.mpr ⟨lw_p25, List.forall_mem_cons.mpr ⟨lw_p26, List.forall_mem_cons.mpr ⟨lw_p27, List.forall_mem_cons.mpr ⟨lw_p28, List.forall_mem_cons.mpr ⟨lw_p29, List.forall_mem_cons.mpr ⟨lw_p30, List.forall_mem_cons.mpr ⟨lw_p31, fun _ h => absurd h List.not_mem_nil⟩⟩⟩⟩⟩⟩⟩⟩⟩⟩⟩⟩⟩⟩⟩⟩
theorem lw_p32 : lw_okq (⟨"GridpeerModel", "over", "(II)I"⟩, 22) := ⟨⟨by decide +kernel, by decide +kernel⟩, List.mem_of_getElem? (i := 455) (by decide +kernel), List.mem_of_getElem? (i := 612) (by decide +kernel), List.mem_of_getElem? (i := 613) (by decide +kernel)⟩
theorem lw_p33 : lw_okq (⟨"GridpeerModel", "keeps", "(I)V"⟩, 22) := ⟨⟨by decide +kernel, by decide +kernel⟩, List.mem_of_getElem? (i := 455) (by decide +kernel), List.mem_of_getElem? (i := 616) (by decide +kernel), List.mem_of_getElem? (i := 617) (by decide +kernel)⟩
theorem lw_p34 : lw_okq (⟨"GridpeerModel", "draws", "(I)V"⟩, 22) := ⟨⟨by decide +kernel, by decide +kernel⟩, List.mem_of_getElem? (i := 455) (by decide +kernel), List.mem_of_getElem? (i := 620) (by decide +kernel), List.mem_of_getElem? (i := 621) (by decide +kernel)⟩
theorem lw_p35 : lw_okq (⟨"GridpeerModel", "tradable", "(I)I"⟩, 22) := ⟨⟨by decide +kernel, by decide +kernel⟩, List.mem_of_getElem? (i := 455) (by decide +kernel), List.mem_of_getElem? (i := 632) (by decide +kernel), List.mem_of_getElem? (i := 633) (by decide +kernel)⟩
def lw_privs_3 : List (MethodName × Nat) := [(⟨"GridpeerModel", "over", "(II)I"⟩, 22), (⟨"GridpeerModel", "keeps", "(I)V"⟩, 22), (⟨"GridpeerModel", "draws", "(I)V"⟩, 22), (⟨"GridpeerModel", "tradable", "(I)I"⟩, 22)]
theorem lw_r3 : ∀ q ∈ lw_privs_3, lw_okq q := List.forall_mem_cons.mpr ⟨lw_p32, List.forall_mem_cons.mpr ⟨lw_p33, List.forall_mem_cons.mpr ⟨lw_p34, List.forall_mem_cons.mpr ⟨lw_p35, fun _ h => absurd h List.not_mem_nil⟩⟩⟩⟩
def lw_privs : List (MethodName × Nat) := lw_privs_1 ++ (lw_privs_2 ++ (lw_privs_3))
def lw_tbl : List Cond := k2_sels lw_privs ++ tables_1
theorem lw_privs_ok : ∀ q ∈ lw_privs, lw_okq q := by
  show ∀ q ∈ lw_privs_1 ++ (lw_privs_2 ++ (lw_privs_3)), lw_okq q
  exact List.forall_mem_append.mpr ⟨lw_r1, List.forall_mem_append.mpr ⟨lw_r2, lw_r3⟩⟩
-- ===== end of PART A; then your names; then what follows =====
/-! ===== BEGIN words of one list among another's, by their places ===== -/
theorem goodIn_r {big : List Cond} (ws : List Cond) (ps : List Nat) (hp : ws = ps.filterMap (fun i => big[i]?)) (h : ws.all goodWord = true) : GoodIn big ws := by
  intro w hw
  have h1 := List.all_eq_true.mp h w hw
  rw [hp] at hw
  obtain ⟨i, -, hi⟩ := List.mem_filterMap.mp hw
  have hm : w ∈ big := by first | exact List.mem_of_getElem? hi | exact List.getElem?_mem hi
  exact ⟨hm, good_of_word h1⟩
theorem goodIn_app {big a b : List Cond} (ha : GoodIn big a) (hb : GoodIn big b) : GoodIn big (a ++ b) := fun w h => (List.mem_append.mp h).elim (ha w) (hb w)
theorem goodIn_ca {big a b : List Cond} {c : Cond} (ha : GoodIn big (c :: a)) (hb : GoodIn big b) : GoodIn big (c :: (a ++ b)) := fun w h => (List.mem_cons.mp h).elim (fun e => ha w (List.mem_cons.mpr (Or.inl e))) (fun h => (List.mem_append.mp h).elim (fun h => ha w (List.mem_cons.mpr (Or.inr h))) (hb w))
theorem goodIn_sub {big ws : List Cond} (hm : ∀ w ∈ ws, w ∈ big) (h : ws.all goodWord = true) : GoodIn big ws := fun w hw => ⟨hm w hw, good_of_word (List.all_eq_true.mp h w hw)⟩
/-! ===== END ===== -/

/-! ===== BEGIN exceptions that leave a method, and their catching by the caller (launches without stack traces) ===== -/
section VXA
/-! The laws vx_back, vx_callV, vx_callS, vx_callSW, vx_throw0, vx_throwS follow proofs of the library, with one case more: JvmDerived/Free/Laws.lean (Back.of_free), Shelf42/LK1.lean (callV, callS), Shelf/KitTraced.lean (throwNew0V, throwNewS). -/
/-- where a method has thrown q: the class by its name, the cell, what was written, the world -/
def vx_T (XC : String → State → State → Prop) (st : State) (q : Addr) (t : State) (mc ms : Nat) (free : Addr → Prop) : Prop :=
  ∃ (E : String) (ce : Cell) (L : List Loc), XC E st t ∧ t.heap[q]? = some ce ∧ ce.vm = .none ∧ st.vm.findClass E = some ce.cls ∧ st.WarmedH t.vm ∧ st.sameButNew ({ t with vm := st.vm } : State) L mc ms ∧ ∀ z ∈ L, free z.base
def vx_Q (Qc : Array Value → State → Outcome → State → Prop) (XC : String → State → State → Prop) (mc ms : Nat) (free : Addr → Prop) : Array Value → State → Outcome → State → Prop := fun a st o t =>
  (Qc a st o t ∧ ∃ L, FrameEnd st o t L mc ms ∧ ∀ q ∈ L, free q.base) ∨ ∃ q, o = .threw q ∧ vx_T XC st q t mc ms free
/-- a callee that returns or throws -/
def vx_Met (l : Launch) (y : MethodName) (ws : List Cond) (rm : Room) (Pc : Array Value → State → Prop) (Qc : Array Value → State → Outcome → State → Prop) (XC : String → State → State → Prop) (mc ms : Nat) (free : Addr → Prop) : Prop :=
  MetFree l y (headSpec ws rm) Pc (fun _ _ _ _ _ => True) (vx_Q Qc XC mc ms free)
def vx_Post (XC : String → State → State → Prop) (mc ms : Nat) (free : Addr → Prop) : Pt → Array Value → Addr → Pt → Prop := fun A a q B =>
  ∃ (g : JFrame) (mk : MethodId) (t : State) (L : List Loc) (E : String) (ce : Cell), B.U.heap = t.heap ∧ B.U.vm = t.vm ∧ XC E (A.U.calling g mk a) t ∧ t.heap[q]? = some ce ∧ ce.vm = .none ∧ A.U.vm.findClass E = some ce.cls ∧ B.locs = A.locs ++ L ∧ (∀ z ∈ L, free z.base) ∧ B.cells = A.cells + mc ∧ B.slots = A.slots + ms
def vx_Back (l : Launch) (R : Room) (p : Program) (e : Env) (below : List Frame) (s : State) (sargs : Array Value) (y : MethodName) (len W9 : Nat)
    (Pre : Pt → Array Value → Prop) (Post : Pt → Array Value → Option Value → Pt → Prop) (PostX : Pt → Array Value → Addr → Pt → Prop) : Prop :=
  ∀ (m : MethodId) (meth : Method) (c : Code) (A : Pt) (g : JFrame) (ig : Instr) (mk : MethodId) (a : Array Value),
    Stand p l e R s m sargs below meth c A.U A.locs A.cells A.slots → g.method = m → g.locals.size = c.maxLocals → decode c.code g.pc = .ok (ig, len) →
    2 * g.monitorRoom + (g.stack.map fun v => v.category).sum ≤ W9 → A.U.methodNamed? y = some mk → Pre A a →
    (∃ (v : Option Value) (B : Pt), Stand p l e R s m sargs below meth c B.U B.locs B.cells B.slots ∧ Post A a v B ∧
      Steps p.tables e below (doInvoke e (A.U.setTop g) [] mk a).1 (B.U.setTop { g with pc := g.pc + len, stack := v.toList ++ g.stack })) ∨
    (∃ (q : Addr) (B : Pt), Stand p l e R s m sargs below meth c B.U B.locs B.cells B.slots ∧ PostX A a q B ∧
      Steps p.tables e below (doInvoke e (A.U.setTop g) [] mk a).1 ((B.U.setTop g).pushFrame (.throwing q)))
section Payer
variable {l : Launch} {R : Room} {p : Program} {e : Env} {below : List Frame} {s : State} {sargs : Array Value} {y : MethodName} {len W9 : Nat}
theorem vx_back {ws : List Cond} {rm : Room} {Pc : Array Value → State → Prop} {Qc : Array Value → State → Outcome → State → Prop} {XC : String → State → State → Prop} {mc ms : Nat} {free : Addr → Prop} {bytes : ByteArray} {maxL : Nat} {ret : Option FieldType}
    (hM : vx_Met l y ws rm Pc Qc XC mc ms free) (hblind : FrameBlind Pc) (hrc : rm.cells = mc) (hrs : rm.slots = ms)
    (hframes : rm.frames + 1 ≤ R.frames) (hlocals : W9 + (maxL + 11) + rm.locals ≤ R.locals)
    (hws : ∀ w ∈ ws, ∀ a' U, s.WarmedH U.vm → w.before a' U = true) (hcode : Cond.code y bytes maxL ret ∈ ws) (hinit : ∀ a' U, s.WarmedH U.vm → (Cond.initialized y.cls).before a' U = true) :
    vx_Back l R p e below s sargs y len W9 (PreOf R mc ms Pc) (PostOf Qc mc ms free) (vx_Post XC mc ms free) := by
  intro m meth c A g ig mk a X hg hsize hdg hW hn hp
  have h1 : (headSpec ws rm).pre.before a A.U = true := atoms_intro fun w hw => hws w hw _ _ X.warmed
  have h2 : (Cond.code y bytes maxL ret).before a A.U = true := hws _ hcode _ _ X.warmed
  have h3 : (Cond.initialized y.cls).before a A.U = true := hinit _ _ X.warmed
  have h4 : A.cells + (headSpec ws rm).room.cells ≤ R.cells := by rw [show (headSpec ws rm).room.cells = mc from hrc]; exact hp.1
  have h5 : A.slots + (headSpec ws rm).room.slots ≤ R.slots := by rw [show (headSpec ws rm).room.slots = ms from hrs]; exact hp.2.1
  have hPc : Pc a (A.U.calling g mk a) := hblind _ _ _ _ hp.2.2
  obtain ⟨U, Ls, c0, s0⟩ := A
  dsimp only [Pt.U, Pt.locs, Pt.cells, Pt.slots] at h1 h2 h3 h4 h5 X hn hPc ⊢
  obtain ⟨methY, cY, hmY, hcY, -, hlY, -, -, -, -⟩ := Cond.code_spec hn h2
  obtain ⟨kY, hkY, -⟩ := className_of_methodNamed hn
  have hinitY : kY.init = .initialized := Cond.initialized_spec (findClass_of_methodNamed hn) hkY h3
  have h : At U g.method c below := by rw [hg]; exact X.here
  have hlocals9 : W9 + (maxL + 11) + (headSpec ws rm).room.locals ≤ R.locals := hlocals
  have happ : (headSpec ws rm).appliesLoose y e.platform (U.calling g mk a) = true :=
    Spec.appliesLoose_calling (g := g) h hdg hn hkY hinitY
      (X.room_calling (g := g) (R' := (headSpec ws rm).room) hsize hmY hcY hframes (by rw [hlY]; omega) h4 h5) h1
  obtain ⟨mid, hmid⟩ := h.above
  have hfr : (U.setTop g).frames = (.java g :: mid) ++ below := by rw [State.frames_setTop' g h.top, hmid]; rfl
  obtain ⟨o, s₂, hsteps, -, hend, hq⟩ := Steps.callFree hM p X.admits X.cas X.clock (acts := []) hfr happ hPc trivial
  have hq' : vx_Q Qc XC mc ms free a (U.calling g mk a) o s₂ := hq
  rw [State.frames_setTop' g h.top] at hend
  obtain ⟨g₀, hg0⟩ := Option.isSome_iff_exists.mp h.top
  obtain ⟨r, hr⟩ := State.topJava?_eq_some.mp hg0
  have hr' : (({ U with heap := s₂.heap, slotsUsed := s₂.slotsUsed } : State).setVm s₂.vm).frames = .java g₀ :: r := hr
  rcases hq' with ⟨hqc, L, hfe, hL⟩ | ⟨q, rfl, E, ce, L, hx, hce, hcv, hcl, hW₂, hsm, hL⟩
  · obtain ⟨⟨v, rfl⟩, hW₂, e2, q2, q3, q4, q5, q6⟩ := id hfe
    have e3 : s₂ = ({ (U.calling g mk a).setFrames s₂.frames with heap := s₂.heap, slotsUsed := s₂.slotsUsed } : State).setVm s₂.vm := by
      have : s₂ = ({ s₂ with vm := (U.calling g mk a).vm } : State).setVm s₂.vm := rfl
      rw [e2] at this
      exact this
    obtain ⟨c₂, i₂, len₂, hc₂, hd₂, hf₂⟩ := hend
    have hW' : U.WarmedH s₂.vm := hW₂
    have hcc : c₂ = c := by
      have h1 : s₂.code? g.method = U.code? g.method := by
        rw [State.code?_eq, State.code?_eq, hW'.alike.method?]
      exact Option.some.inj (hc₂.symm.trans (h1.trans h.code))
    subst hcc
    have hlen : len₂ = len := by rw [hdg] at hd₂; cases hd₂; rfl
    subst hlen
    have hs₂ : s₂ = (({ U with heap := s₂.heap, slotsUsed := s₂.slotsUsed } : State).setVm s₂.vm).setTop { g with pc := g.pc + len₂, stack := v.toList ++ g.stack } := by
      refine e3.trans ?_
      rw [hf₂, State.calling_eq h.top, State.setFrames_setFrames, State.setTop_of_frames _ hr', hr]
      rfl
    have hsame : U.sameButNew ({ U with heap := s₂.heap, slotsUsed := s₂.slotsUsed } : State) L mc ms := by
      refine ⟨?_, q2, q3, q4, q5, q6⟩
      obtain ⟨t, ht, -⟩ := State.frames_cons hr
      show ({ U with heap := s₂.heap, slotsUsed := s₂.slotsUsed } : State) = { U.setFrames U.frames with heap := s₂.heap, slotsUsed := s₂.slotsUsed }
      rw [State.setFrames_self ht]
    subst hg
    refine Or.inl ⟨v, ⟨(({ U with heap := s₂.heap, slotsUsed := s₂.slotsUsed } : State).setVm s₂.vm), Ls ++ L, c0 + mc, s0 + ms⟩,
      ⟨X.admits, X.cas, X.clock, X.frames, X.room, X.hears, X.method, X.code, (X.here.setHeapUsed s₂.heap s₂.slotsUsed).setVm hW'.alike, X.tail, State.WarmedH.trans X.warmed hW', X.limits, X.bytes, X.same.trans (hsame.setVm s.vm)⟩,
      ⟨g, mk, s₂, L, rfl, rfl, hqc, rfl, hL, rfl, rfl⟩, ?_⟩
    show Steps p.tables e below _ ((({ U with heap := s₂.heap, slotsUsed := s₂.slotsUsed } : State).setVm s₂.vm).setTop { g with pc := g.pc + len₂, stack := v.toList ++ g.stack })
    rw [← hs₂]
    exact hsteps
  · obtain ⟨e2, q2, q3, q4, q5, q6⟩ := id hsm
    have e3 : s₂ = ({ (U.calling g mk a).setFrames s₂.frames with heap := s₂.heap, slotsUsed := s₂.slotsUsed } : State).setVm s₂.vm := by
      have : s₂ = ({ s₂ with vm := (U.calling g mk a).vm } : State).setVm s₂.vm := rfl
      rw [e2] at this
      exact this
    have hf₂ : s₂.frames = .throwing q :: .java g :: U.frames.tail := hend
    have hW' : U.WarmedH s₂.vm := hW₂
    have hs₂ : s₂ = ((({ U with heap := s₂.heap, slotsUsed := s₂.slotsUsed } : State).setVm s₂.vm).setTop g).pushFrame (.throwing q) := by
      refine e3.trans ?_
      rw [hf₂, State.calling_eq h.top, State.setFrames_setFrames, State.pushFrame, State.frames_setTop _ hr', State.setTop_of_frames _ hr', State.setFrames_setFrames, hr]
      rfl
    have hsame : U.sameButNew ({ U with heap := s₂.heap, slotsUsed := s₂.slotsUsed } : State) L mc ms := by
      refine ⟨?_, q2, q3, q4, q5, q6⟩
      obtain ⟨t, ht, -⟩ := State.frames_cons hr
      show ({ U with heap := s₂.heap, slotsUsed := s₂.slotsUsed } : State) = { U.setFrames U.frames with heap := s₂.heap, slotsUsed := s₂.slotsUsed }
      rw [State.setFrames_self ht]
    subst hg
    refine Or.inr ⟨q, ⟨(({ U with heap := s₂.heap, slotsUsed := s₂.slotsUsed } : State).setVm s₂.vm), Ls ++ L, c0 + mc, s0 + ms⟩,
      ⟨X.admits, X.cas, X.clock, X.frames, X.room, X.hears, X.method, X.code, (X.here.setHeapUsed s₂.heap s₂.slotsUsed).setVm hW'.alike, X.tail, State.WarmedH.trans X.warmed hW', X.limits, X.bytes, X.same.trans (hsame.setVm s.vm)⟩,
      ⟨g, mk, s₂, L, E, ce, rfl, rfl, hx, hce, hcv, hcl, rfl, hL, rfl, rfl⟩, ?_⟩
    show Steps p.tables e below _ (((({ U with heap := s₂.heap, slotsUsed := s₂.slotsUsed } : State).setVm s₂.vm).setTop g).pushFrame (.throwing q))
    rw [← hs₂]
    exact hsteps
end Payer
section Calls
variable {p : Program} {l : Launch} {e : Env} {R : Room} {s : State} {m : MethodId} {args : Array Value} {below : List Frame} {meth : Method} {c : Code} {T : State} {locs : List Loc} {cells slots : Nat}
theorem vx_callV (X : Stand p l e R s m args below meth c T locs cells slots) (hexec : p.tables.exec = Jvm.exec) {own C : String} {index : Nat} {y : MethodName} {bytes : ByteArray} {maxL : Nat} {ret : Option FieldType}
    (hown : s.vm.findClass own = some m.cls) (hlink : (Cond.methodLink own index y).before args s = true) (hinst : (Cond.instanceMethod y).before args s = true) (hsel : (Cond.selects C y y).before args s = true)
    (hcode : (Cond.code y bytes maxL ret).before args s = true) (hy : y.cls ≠ "java/lang/invoke/MethodHandle" ∧ y.cls ≠ "java/lang/invoke/VarHandle")
    {W9 : Nat} {Pre : Pt → Array Value → Prop} {Post : Pt → Array Value → Option Value → Pt → Prop} {PostX : Pt → Array Value → Addr → Pt → Prop} (hK : vx_Back l R p e below s args y 3 W9 Pre Post PostX)
    {b : Addr} {cellB : Cell} (hcell : T.heap[b]? = some cellB) (hobj : cellB.vm.isStatics = false) (hcls : s.vm.findClass C = some cellB.cls)
    {g : JFrame} (hg : g.method = m) (hsize : g.locals.size = c.maxLocals) {argsL rest : List Value} (hlen : ∀ sig, parseMethodDescriptor y.desc = some sig → argsL.length = sig.parameters.length)
    (hstack : g.stack = argsL.reverse ++ .ref b :: rest) (hW : 2 * g.monitorRoom + (rest.map fun v => v.category).sum ≤ W9) (hdg : decode c.code g.pc = .ok (.invokevirtual index, 3))
    (hpre : ∀ vm₁, s.WarmedH vm₁ → Pre ⟨T.setVm vm₁, locs, cells, slots⟩ (Value.ref b :: argsL).toArray) :
    (∃ (v : Option Value) (vm₁ : Vm) (B : Pt), s.WarmedH vm₁ ∧ Stand p l e R s m args below meth c B.U B.locs B.cells B.slots ∧ Post ⟨T.setVm vm₁, locs, cells, slots⟩ (Value.ref b :: argsL).toArray v B ∧
      ∀ target, Steps p.tables e below (B.U.setTop { g with pc := g.pc + 3, stack := v.toList ++ rest }) target → Steps p.tables e below (T.setTop g) target) ∨
    (∃ (q : Addr) (vm₁ : Vm) (B : Pt), s.WarmedH vm₁ ∧ Stand p l e R s m args below meth c B.U B.locs B.cells B.slots ∧ PostX ⟨T.setVm vm₁, locs, cells, slots⟩ (Value.ref b :: argsL).toArray q B ∧
      Steps p.tables e below (T.setTop g) ((B.U.setTop { g with stack := rest }).pushFrame (.throwing q))) := by
  obtain ⟨mk, methM, hnamed, hmethM, hstM, habM⟩ := Cond.instanceMethod_spec hinst
  obtain ⟨methM', cM, hmethM', -, -, -, -, -, -, hsigM⟩ := Cond.code_spec hnamed hcode
  cases hmethM.symm.trans hmethM'
  obtain ⟨c2, r2, m2, q1, q2, q3, q4, kP, hkP, hkPi⟩ := Cond.selects_spec hsel
  cases hcls.symm.trans q1
  cases (State.methodFound?_of_named hnamed hy).symm.trans q2
  cases hnamed.symm.trans q3
  have hselP : selectMethod e.platform s.vm cellB.cls mk = .method mk := by rw [Launch.admits_selectMethod X.admits]; exact q4
  obtain ⟨vm₁, X₁, hstep₁⟩ := X.invokevirtual hexec hown hlink hnamed hmethM hstM hkP hkPi hy (a := b) (cell := cellB) hcell
    (fun z h => by rw [h] at hobj; cases hobj) hselP hmethM habM hkP hkPi (g := g) hg (argsL := argsL) (rest := rest) (hlen _ hsigM) hstack hdg
  rcases hK m meth c ⟨T.setVm vm₁, locs, cells, slots⟩ { g with stack := rest } (.invokevirtual index) mk (Value.ref b :: argsL).toArray X₁ hg hsize hdg hW (X₁.named hnamed) (hpre vm₁ X₁.warmed) with ⟨v, B, X', hpost, hsteps⟩ | ⟨q, B, X', hpost, hsteps⟩
  · exact Or.inl ⟨v, vm₁, B, X₁.warmed, X', hpost, fun target h => hstep₁ _ fun acts => by rw [doInvoke_state]; exact hsteps.trans h⟩
  · exact Or.inr ⟨q, vm₁, B, X₁.warmed, X', hpost, hstep₁ _ fun acts => by rw [doInvoke_state]; exact hsteps⟩
theorem vx_callS (X : Stand p l e R s m args below meth c T locs cells slots) (hexec : p.tables.exec = Jvm.exec) {own : String} {index : Nat} {y : MethodName} {bytes : ByteArray} {maxL : Nat} {ret : Option FieldType}
    (hown : s.vm.findClass own = some m.cls) (hlink : (Cond.methodLink own index y).before args s = true) (hstat : (Cond.static y).before args s = true) (hinit : (Cond.initialized y.cls).before args s = true)
    (hcode : (Cond.code y bytes maxL ret).before args s = true) (hy : y.cls ≠ "java/lang/invoke/MethodHandle" ∧ y.cls ≠ "java/lang/invoke/VarHandle")
    {W9 : Nat} {Pre : Pt → Array Value → Prop} {Post : Pt → Array Value → Option Value → Pt → Prop} {PostX : Pt → Array Value → Addr → Pt → Prop} (hK : vx_Back l R p e below s args y 3 W9 Pre Post PostX)
    {g : JFrame} (hg : g.method = m) (hsize : g.locals.size = c.maxLocals) {argsL rest : List Value} (hlen : ∀ sig, parseMethodDescriptor y.desc = some sig → argsL.length = sig.parameters.length)
    (hstack : g.stack = argsL.reverse ++ rest) (hW : 2 * g.monitorRoom + (rest.map fun v => v.category).sum ≤ W9) (hdg : decode c.code g.pc = .ok (.invokestatic index, 3))
    (hpre : ∀ vm₁, s.WarmedH vm₁ → Pre ⟨T.setVm vm₁, locs, cells, slots⟩ argsL.toArray) :
    (∃ (v : Option Value) (vm₁ : Vm) (B : Pt), s.WarmedH vm₁ ∧ Stand p l e R s m args below meth c B.U B.locs B.cells B.slots ∧ Post ⟨T.setVm vm₁, locs, cells, slots⟩ argsL.toArray v B ∧
      ∀ target, Steps p.tables e below (B.U.setTop { g with pc := g.pc + 3, stack := v.toList ++ rest }) target → Steps p.tables e below (T.setTop g) target) ∨
    (∃ (q : Addr) (vm₁ : Vm) (B : Pt), s.WarmedH vm₁ ∧ Stand p l e R s m args below meth c B.U B.locs B.cells B.slots ∧ PostX ⟨T.setVm vm₁, locs, cells, slots⟩ argsL.toArray q B ∧
      Steps p.tables e below (T.setTop g) ((B.U.setTop { g with stack := rest }).pushFrame (.throwing q))) := by
  obtain ⟨mk, hnamed⟩ := Cond.code_named hcode
  obtain ⟨methM, cM, hmethM, -, -, -, -, -, -, hsigM⟩ := Cond.code_spec hnamed hcode
  have hstatic : methM.isStatic = true := Cond.static_spec hnamed hmethM hstat
  obtain ⟨kP, hkP, -⟩ := className_of_methodNamed hnamed
  have hinitP : kP.init = .initialized := Cond.initialized_spec (findClass_of_methodNamed hnamed) hkP hinit
  obtain ⟨vm₁, X₁, hstep₁⟩ := X.invokestatic hexec hown hlink hnamed hmethM hstatic hkP hinitP hy (g := g) hg (argsL := argsL) (rest := rest) (hlen _ hsigM) hstack hdg
  rcases hK m meth c ⟨T.setVm vm₁, locs, cells, slots⟩ { g with stack := rest } (.invokestatic index) mk argsL.toArray X₁ hg hsize hdg hW (X₁.named hnamed) (hpre vm₁ X₁.warmed) with ⟨v, B, X', hpost, hsteps⟩ | ⟨q, B, X', hpost, hsteps⟩
  · exact Or.inl ⟨v, vm₁, B, X₁.warmed, X', hpost, fun target h => hstep₁ _ fun acts => by rw [doInvoke_state]; exact hsteps.trans h⟩
  · exact Or.inr ⟨q, vm₁, B, X₁.warmed, X', hpost, hstep₁ _ fun acts => by rw [doInvoke_state]; exact hsteps⟩
end Calls
theorem vx_cls {s : State} {T : State} {vm₁ : Vm} {E : String} {k : ClassId} (hW : s.WarmedH vm₁) (h : (T.setVm vm₁).vm.findClass E = some k) : s.vm.findClass E = some k := by
  have h1 : vm₁.findClass E = some k := h
  rw [hW.alike.findClass] at h1
  exact h1
/-- the method's frame g, with q thrown over it -/
def vx_W (p : Program) (l : Launch) (e : Env) (R : Room) (s : State) (m : MethodId) (args : Array Value) (below : List Frame) (meth : Method) (c : Code) (H : Heap) (locs : List Loc) (cells slots : Nat) (Q : State → Prop) (g : JFrame) (q : Addr) : Prop :=
  ∀ T : State, T.heap = H → Stand p l e R s m args below meth c T locs cells slots → ∃ t, Steps p.tables e below ((T.setTop g).pushFrame (.throwing q)) t ∧ Q t
def vx_Run (p : Program) (l : Launch) (e : Env) (R : Room) (s : State) (m : MethodId) (args : Array Value) (below : List Frame) (meth : Method) (c : Code) (H : Heap) (locs : List Loc) (cells slots mc ms : Nat) (g : JFrame) (rest : List Value) (Qa : State → Outcome → State → Prop) (XC : String → State → State → Prop) (free : Addr → Prop) : Prop :=
  ∀ T : State, T.heap = H → Stand p l e R s m args below meth c T locs cells slots →
    (∃ (v : Option Value) (st₀ t T' : State) (L : List Loc), st₀.heap = H ∧ Stand p l e R s m args below meth c T' (locs ++ L) (cells + mc) (slots + ms) ∧ (∀ q ∈ L, free q.base) ∧ T'.heap = t.heap ∧ T'.vm = t.vm ∧ Qa st₀ (.returned v) t ∧
      Goes p e below T g T' { g with pc := g.pc + 3, stack := v.toList ++ rest }) ∨
    (∃ (q : Addr) (st₀ t T' : State) (L : List Loc) (E : String) (ce : Cell), st₀.heap = H ∧ Stand p l e R s m args below meth c T' (locs ++ L) (cells + mc) (slots + ms) ∧ (∀ z ∈ L, free z.base) ∧ T'.heap = t.heap ∧ T'.vm = t.vm ∧ XC E st₀ t ∧ t.heap[q]? = some ce ∧ ce.vm = .none ∧ s.vm.findClass E = some ce.cls ∧
      Steps p.tables e below (T.setTop g) ((T'.setTop { g with stack := rest }).pushFrame (.throwing q)))
def vx_X {S : Type} (px : S → Prop) (B : String → S → State → Prop) (A : Nat → Prop) : String → State → State → Prop := fun E st t => ∃ u : S, px u ∧ B E u t ∧ va_F A st t
section Runs
variable {p : Program} {l : Launch} {e : Env} {R : Room} {s : State} {m : MethodId} {args : Array Value} {below : List Frame} {meth : Method} {c : Code} {H : Heap} {locs : List Loc} {cells slots : Nat}
variable {y : MethodName} {bytes cc : ByteArray} {maxL nL mc ms n index : Nat} {ret : Option FieldType} {ws : List Cond} {rm : Room} {Pc : Array Value → State → Prop} {Qc : Array Value → State → Outcome → State → Prop} {XC : String → State → State → Prop} {free : Addr → Prop} {Ts : List Cond} {own C : String} {b : Addr} {As rest : List Value} {g : JFrame}
theorem vx_callBack (cb : CallB R s args own index y bytes maxL ret ws rm mc ms n) (hM : vx_Met l y ws rm Pc Qc XC mc ms free) (hbl : FrameBlind Pc) : vx_Back l R p e below s args y 3 8 (PreOf R mc ms Pc) (PostOf Qc mc ms free) (vx_Post XC mc ms free) := by
  obtain ⟨hrc, hrs, hfr, hlo, hws, hcw, -, hini, -⟩ := cb
  exact vx_back (bytes := bytes) (maxL := maxL) (ret := ret) hM hbl hrc hrs hfr hlo hws hcw (fun a' U hW => word_at hW (Or.inl (by first | rfl | simp [Cond.onTables, Cond.keeps, Cond.steady])) hini)
theorem vx_runV (S : CallFix p m c cc nL s args Ts own) (hM : vx_Met l y ws rm Pc Qc XC mc ms free) (cw : CallW R s args own C index y bytes maxL ret ws rm mc ms n) (hp : PreV s H C b Pc As)
    (hg : g.method = m) (hn : As.length = n) (hsize : g.locals.size = nL) (hstack : g.stack = As.reverse ++ .ref b :: rest) (hW : 2 * g.monitorRoom + (rest.map fun v => v.category).sum ≤ 8) (hdg : decode cc g.pc = .ok (.invokevirtual index, 3)) (hf : cells + mc ≤ R.cells ∧ slots + ms ≤ R.slots) :
    vx_Run p l e R s m args below meth c H locs cells slots mc ms g rest (Qc (Value.ref b :: As).toArray) XC free := by
  have hK : vx_Back l R p e below s args y 3 8 (PreOf R mc ms Pc) (PostOf Qc mc ms free) (vx_Post XC mc ms free) := vx_callBack cw.1 hM hp.1
  obtain ⟨⟨-, -, -, -, -, -, hcode, -, hy, hlen, hl⟩, hin, hse⟩ := cw
  obtain ⟨hx, hb, hml, ho, -⟩ := S
  obtain ⟨-, ⟨cellB, hcB, hoB, hclB⟩, hPc⟩ := hp
  intro T hT X
  rcases vx_callV X hx (C := C) (bytes := bytes) (maxL := maxL) (ret := ret) ho hl hin hse hcode hy hK (by rw [hT]; exact hcB) hoB hclB hg (hsize.trans hml.symm) (argsL := As) (rest := rest) (fun sig h => hn.trans (hlen sig h)) hstack hW (by rw [hb]; exact hdg)
    (fun vm₁ hW₁ => ⟨hf.1, hf.2, hPc (T.setVm vm₁) hT hW₁⟩) with ⟨v, vm₁, ⟨U', l2, c2, s2⟩, hW₁, X', ⟨g', mk, t, L, e1, e2, hq, h1, hL, h2, h3⟩, st⟩ | ⟨q, vm₁, ⟨U', l2, c2, s2⟩, hW₁, X', ⟨g', mk, t, L, E, ce, e1, e2, hq, hce, hcv, hcl, h1, hL, h2, h3⟩, st⟩
  · dsimp only [Pt.U, Pt.locs, Pt.cells, Pt.slots] at X' e1 e2 h1 h2 h3 st
    subst h1; subst h2; subst h3
    exact Or.inl ⟨v, (T.setVm vm₁).calling g' mk (Value.ref b :: As).toArray, t, U', L, hT, X', hL, e1, e2, hq, st⟩
  · dsimp only [Pt.U, Pt.locs, Pt.cells, Pt.slots] at X' e1 e2 h1 h2 h3 st hcl
    subst h1; subst h2; subst h3
    exact Or.inr ⟨q, (T.setVm vm₁).calling g' mk (Value.ref b :: As).toArray, t, U', L, E, ce, hT, X', hL, e1, e2, hq, hce, hcv, vx_cls hW₁ hcl, st⟩
theorem vx_runS (S : CallFix p m c cc nL s args Ts own) (hM : vx_Met l y ws rm Pc Qc XC mc ms free) (cw : CallB R s args own index y bytes maxL ret ws rm mc ms n ∧ (Cond.static y).before args s = true) (hp : PreS s H Pc As)
    (hg : g.method = m) (hn : As.length = n) (hsize : g.locals.size = nL) (hstack : g.stack = As.reverse ++ rest) (hW : 2 * g.monitorRoom + (rest.map fun v => v.category).sum ≤ 8) (hdg : decode cc g.pc = .ok (.invokestatic index, 3)) (hf : cells + mc ≤ R.cells ∧ slots + ms ≤ R.slots) :
    vx_Run p l e R s m args below meth c H locs cells slots mc ms g rest (Qc As.toArray) XC free := by
  have hK : vx_Back l R p e below s args y 3 8 (PreOf R mc ms Pc) (PostOf Qc mc ms free) (vx_Post XC mc ms free) := vx_callBack cw.1 hM hp.1
  obtain ⟨⟨-, -, -, -, -, -, hcode, hini, hy, hlen, hl⟩, hstt⟩ := cw
  obtain ⟨hx, hb, hml, ho, -⟩ := S
  intro T hT X
  rcases vx_callS X hx (bytes := bytes) (maxL := maxL) (ret := ret) ho hl hstt hini hcode hy hK hg (hsize.trans hml.symm) (argsL := As) (rest := rest) (fun sig h => hn.trans (hlen sig h)) hstack hW (by rw [hb]; exact hdg)
    (fun vm₁ hW₁ => ⟨hf.1, hf.2, hp.2 (T.setVm vm₁) hT hW₁⟩) with ⟨v, vm₁, ⟨U', l2, c2, s2⟩, hW₁, X', ⟨g', mk, t, L, e1, e2, hq, h1, hL, h2, h3⟩, st⟩ | ⟨q, vm₁, ⟨U', l2, c2, s2⟩, hW₁, X', ⟨g', mk, t, L, E, ce, e1, e2, hq, hce, hcv, hcl, h1, hL, h2, h3⟩, st⟩
  · dsimp only [Pt.U, Pt.locs, Pt.cells, Pt.slots] at X' e1 e2 h1 h2 h3 st
    subst h1; subst h2; subst h3
    exact Or.inl ⟨v, (T.setVm vm₁).calling g' mk As.toArray, t, U', L, hT, X', hL, e1, e2, hq, st⟩
  · dsimp only [Pt.U, Pt.locs, Pt.cells, Pt.slots] at X' e1 e2 h1 h2 h3 st hcl
    subst h1; subst h2; subst h3
    exact Or.inr ⟨q, (T.setVm vm₁).calling g' mk As.toArray, t, U', L, E, ce, hT, X', hL, e1, e2, hq, hce, hcv, vx_cls hW₁ hcl, st⟩
end Runs
section Rows
variable {p : Program} {l : Launch} {e : Env} {R : Room} {s : State} {m : MethodId} {args : Array Value} {below : List Frame} {meth : Method} {c : Code} {H : Heap} {locs : List Loc} {cells slots : Nat} {Q : State → Prop}
variable {mc ms : Nat} {free : Addr → Prop} {A0 A1 : Nat → Prop} {H0 : Heap} {a : Array Value} {pc : Nat} {ls : Array Slot} {st0 rest : List Value}
theorem vx_keep {st₀ t T' : State} {L : List Loc} (h0 : st₀.heap = H) (e1 : T'.heap = t.heap) (hS : va_S A0 H0 H locs) (hA : ∀ q, q < H.size → A1 q → A0 q) (hf : ∀ q, free q → A0 q) (hL : ∀ q ∈ L, free q.base) (hF : va_F A1 st₀ t) :
    H.size ≤ T'.heap.size ∧ (∀ q : Nat, q < H.size → ¬ A1 q → T'.heap[q]? = H[q]?) ∧ va_S A0 H0 T'.heap (locs ++ L) := by
  obtain ⟨hz, hk⟩ := hF
  rw [h0] at hz hk
  exact ⟨by rw [e1]; exact hz, fun q h1 h2 => by rw [e1]; exact hk q h1 h2,
    ⟨Nat.le_trans hS.1 (by rw [e1]; exact hz), fun q h1 h2 => by rw [e1, hk q (Nat.lt_of_lt_of_le h1 hS.1) (fun z => h2 (hA q (Nat.lt_of_lt_of_le h1 hS.1) z))]; exact hS.2.1 q h1 h2, fun q hq => by
      rcases List.mem_append.mp hq with h | h
      · exact hS.2.2 q h
      · exact hf _ (hL q h)⟩⟩
theorem vx_calli {S SX : Type} {post : Int32 → S → Prop} {px : SX → Prop} {B : S → State → Prop} {BX : String → SX → State → Prop} {AX : Nat → Prop} (hr : vx_Run p l e R s m args below meth c H locs cells slots mc ms (F0 m pc ls st0) rest (va_Qi post B A1 a) (vx_X px BX AX) free) (hS : va_S A0 H0 H locs) (hA : ∀ q, q < H.size → A1 q → A0 q) (hf : ∀ q, free q → A0 q) (hAX : ∀ q, q < H.size → AX q → A0 q)
    (kx : ∀ (E : String) (ce : Cell) (q9 : Addr) (u : SX) (t : State) (H1 : Heap) (locs1 : List Loc), t.heap = H1 → s.vm.Alike t.vm → px u → BX E u t → H.size ≤ H1.size → (∀ q : Nat, q < H.size → ¬ AX q → H1[q]? = H[q]?) → va_S A0 H0 H1 locs1 → H1[q9]? = some ce → ce.vm = .none → s.vm.findClass E = some ce.cls → vx_W p l e R s m args below meth c H1 locs1 (cells + mc) (slots + ms) Q (F0 m pc ls rest) q9)
    (kk : ∀ (r : Int32) (u : S) (t : State) (H1 : Heap) (locs1 : List Loc), t.heap = H1 → s.vm.Alike t.vm → post r u → B u t → H.size ≤ H1.size → (∀ q : Nat, q < H.size → ¬ A1 q → H1[q]? = H[q]?) → va_S A0 H0 H1 locs1 → W p l e R s m args below meth c H1 locs1 (cells + mc) (slots + ms) Q (F0 m (pc + 3) ls (.int r :: rest))) : W p l e R s m args below meth c H locs cells slots Q (F0 m pc ls st0) := by
  intro T hT X
  rcases hr T hT X with ⟨v, st₀, t, T', L, h0, X', hL, e1, e2, ⟨⟨r, u, hv, hp, hb⟩, hF⟩, st⟩ | ⟨q, st₀, t, T', L, E, ce, h0, X', hL, e1, e2, ⟨u, hp, hb, hF⟩, hce, hcv, hcl, st⟩
  · cases hv
    obtain ⟨k1, k2, k3⟩ := vx_keep h0 e1 hS hA hf hL hF
    obtain ⟨t2, a1, b1⟩ := kk r u t T'.heap (locs ++ L) e1.symm (by rw [← e2]; exact X'.warmed.alike) hp hb k1 k2 k3 T' rfl X'
    exact ⟨t2, st t2 a1, b1⟩
  · obtain ⟨k1, k2, k3⟩ := vx_keep h0 e1 hS hAX hf hL hF
    obtain ⟨t2, a1, b1⟩ := kx E ce q u t T'.heap (locs ++ L) e1.symm (by rw [← e2]; exact X'.warmed.alike) hp hb k1 k2 k3 (by rw [e1]; exact hce) hcv hcl T' rfl X'
    exact ⟨t2, st.trans a1, b1⟩
theorem vx_calll {S SX : Type} {post : Int64 → S → Prop} {px : SX → Prop} {B : S → State → Prop} {BX : String → SX → State → Prop} {AX : Nat → Prop} (hr : vx_Run p l e R s m args below meth c H locs cells slots mc ms (F0 m pc ls st0) rest (va_Ql post B A1 a) (vx_X px BX AX) free) (hS : va_S A0 H0 H locs) (hA : ∀ q, q < H.size → A1 q → A0 q) (hf : ∀ q, free q → A0 q) (hAX : ∀ q, q < H.size → AX q → A0 q)
    (kx : ∀ (E : String) (ce : Cell) (q9 : Addr) (u : SX) (t : State) (H1 : Heap) (locs1 : List Loc), t.heap = H1 → s.vm.Alike t.vm → px u → BX E u t → H.size ≤ H1.size → (∀ q : Nat, q < H.size → ¬ AX q → H1[q]? = H[q]?) → va_S A0 H0 H1 locs1 → H1[q9]? = some ce → ce.vm = .none → s.vm.findClass E = some ce.cls → vx_W p l e R s m args below meth c H1 locs1 (cells + mc) (slots + ms) Q (F0 m pc ls rest) q9)
    (kk : ∀ (r : Int64) (u : S) (t : State) (H1 : Heap) (locs1 : List Loc), t.heap = H1 → s.vm.Alike t.vm → post r u → B u t → H.size ≤ H1.size → (∀ q : Nat, q < H.size → ¬ A1 q → H1[q]? = H[q]?) → va_S A0 H0 H1 locs1 → W p l e R s m args below meth c H1 locs1 (cells + mc) (slots + ms) Q (F0 m (pc + 3) ls (.long r :: rest))) : W p l e R s m args below meth c H locs cells slots Q (F0 m pc ls st0) := by
  intro T hT X
  rcases hr T hT X with ⟨v, st₀, t, T', L, h0, X', hL, e1, e2, ⟨⟨r, u, hv, hp, hb⟩, hF⟩, st⟩ | ⟨q, st₀, t, T', L, E, ce, h0, X', hL, e1, e2, ⟨u, hp, hb, hF⟩, hce, hcv, hcl, st⟩
  · cases hv
    obtain ⟨k1, k2, k3⟩ := vx_keep h0 e1 hS hA hf hL hF
    obtain ⟨t2, a1, b1⟩ := kk r u t T'.heap (locs ++ L) e1.symm (by rw [← e2]; exact X'.warmed.alike) hp hb k1 k2 k3 T' rfl X'
    exact ⟨t2, st t2 a1, b1⟩
  · obtain ⟨k1, k2, k3⟩ := vx_keep h0 e1 hS hAX hf hL hF
    obtain ⟨t2, a1, b1⟩ := kx E ce q u t T'.heap (locs ++ L) e1.symm (by rw [← e2]; exact X'.warmed.alike) hp hb k1 k2 k3 (by rw [e1]; exact hce) hcv hcl T' rfl X'
    exact ⟨t2, st.trans a1, b1⟩
theorem vx_callf {S SX : Type} {post : UInt32 → S → Prop} {px : SX → Prop} {B : S → State → Prop} {BX : String → SX → State → Prop} {AX : Nat → Prop} (hr : vx_Run p l e R s m args below meth c H locs cells slots mc ms (F0 m pc ls st0) rest (va_Qf post B A1 a) (vx_X px BX AX) free) (hS : va_S A0 H0 H locs) (hA : ∀ q, q < H.size → A1 q → A0 q) (hf : ∀ q, free q → A0 q) (hAX : ∀ q, q < H.size → AX q → A0 q)
    (kx : ∀ (E : String) (ce : Cell) (q9 : Addr) (u : SX) (t : State) (H1 : Heap) (locs1 : List Loc), t.heap = H1 → s.vm.Alike t.vm → px u → BX E u t → H.size ≤ H1.size → (∀ q : Nat, q < H.size → ¬ AX q → H1[q]? = H[q]?) → va_S A0 H0 H1 locs1 → H1[q9]? = some ce → ce.vm = .none → s.vm.findClass E = some ce.cls → vx_W p l e R s m args below meth c H1 locs1 (cells + mc) (slots + ms) Q (F0 m pc ls rest) q9)
    (kk : ∀ (r : UInt32) (u : S) (t : State) (H1 : Heap) (locs1 : List Loc), t.heap = H1 → s.vm.Alike t.vm → post r u → B u t → H.size ≤ H1.size → (∀ q : Nat, q < H.size → ¬ A1 q → H1[q]? = H[q]?) → va_S A0 H0 H1 locs1 → W p l e R s m args below meth c H1 locs1 (cells + mc) (slots + ms) Q (F0 m (pc + 3) ls (.float r :: rest))) : W p l e R s m args below meth c H locs cells slots Q (F0 m pc ls st0) := by
  intro T hT X
  rcases hr T hT X with ⟨v, st₀, t, T', L, h0, X', hL, e1, e2, ⟨⟨r, u, hv, hp, hb⟩, hF⟩, st⟩ | ⟨q, st₀, t, T', L, E, ce, h0, X', hL, e1, e2, ⟨u, hp, hb, hF⟩, hce, hcv, hcl, st⟩
  · cases hv
    obtain ⟨k1, k2, k3⟩ := vx_keep h0 e1 hS hA hf hL hF
    obtain ⟨t2, a1, b1⟩ := kk r u t T'.heap (locs ++ L) e1.symm (by rw [← e2]; exact X'.warmed.alike) hp hb k1 k2 k3 T' rfl X'
    exact ⟨t2, st t2 a1, b1⟩
  · obtain ⟨k1, k2, k3⟩ := vx_keep h0 e1 hS hAX hf hL hF
    obtain ⟨t2, a1, b1⟩ := kx E ce q u t T'.heap (locs ++ L) e1.symm (by rw [← e2]; exact X'.warmed.alike) hp hb k1 k2 k3 (by rw [e1]; exact hce) hcv hcl T' rfl X'
    exact ⟨t2, st.trans a1, b1⟩
theorem vx_calld {S SX : Type} {post : UInt64 → S → Prop} {px : SX → Prop} {B : S → State → Prop} {BX : String → SX → State → Prop} {AX : Nat → Prop} (hr : vx_Run p l e R s m args below meth c H locs cells slots mc ms (F0 m pc ls st0) rest (va_Qd post B A1 a) (vx_X px BX AX) free) (hS : va_S A0 H0 H locs) (hA : ∀ q, q < H.size → A1 q → A0 q) (hf : ∀ q, free q → A0 q) (hAX : ∀ q, q < H.size → AX q → A0 q)
    (kx : ∀ (E : String) (ce : Cell) (q9 : Addr) (u : SX) (t : State) (H1 : Heap) (locs1 : List Loc), t.heap = H1 → s.vm.Alike t.vm → px u → BX E u t → H.size ≤ H1.size → (∀ q : Nat, q < H.size → ¬ AX q → H1[q]? = H[q]?) → va_S A0 H0 H1 locs1 → H1[q9]? = some ce → ce.vm = .none → s.vm.findClass E = some ce.cls → vx_W p l e R s m args below meth c H1 locs1 (cells + mc) (slots + ms) Q (F0 m pc ls rest) q9)
    (kk : ∀ (r : UInt64) (u : S) (t : State) (H1 : Heap) (locs1 : List Loc), t.heap = H1 → s.vm.Alike t.vm → post r u → B u t → H.size ≤ H1.size → (∀ q : Nat, q < H.size → ¬ A1 q → H1[q]? = H[q]?) → va_S A0 H0 H1 locs1 → W p l e R s m args below meth c H1 locs1 (cells + mc) (slots + ms) Q (F0 m (pc + 3) ls (.double r :: rest))) : W p l e R s m args below meth c H locs cells slots Q (F0 m pc ls st0) := by
  intro T hT X
  rcases hr T hT X with ⟨v, st₀, t, T', L, h0, X', hL, e1, e2, ⟨⟨r, u, hv, hp, hb⟩, hF⟩, st⟩ | ⟨q, st₀, t, T', L, E, ce, h0, X', hL, e1, e2, ⟨u, hp, hb, hF⟩, hce, hcv, hcl, st⟩
  · cases hv
    obtain ⟨k1, k2, k3⟩ := vx_keep h0 e1 hS hA hf hL hF
    obtain ⟨t2, a1, b1⟩ := kk r u t T'.heap (locs ++ L) e1.symm (by rw [← e2]; exact X'.warmed.alike) hp hb k1 k2 k3 T' rfl X'
    exact ⟨t2, st t2 a1, b1⟩
  · obtain ⟨k1, k2, k3⟩ := vx_keep h0 e1 hS hAX hf hL hF
    obtain ⟨t2, a1, b1⟩ := kx E ce q u t T'.heap (locs ++ L) e1.symm (by rw [← e2]; exact X'.warmed.alike) hp hb k1 k2 k3 (by rw [e1]; exact hce) hcv hcl T' rfl X'
    exact ⟨t2, st.trans a1, b1⟩
theorem vx_callv {S SX : Type} {post : S → Prop} {px : SX → Prop} {B : S → State → Prop} {BX : String → SX → State → Prop} {AX : Nat → Prop} (hr : vx_Run p l e R s m args below meth c H locs cells slots mc ms (F0 m pc ls st0) rest (va_Qv post B A1 a) (vx_X px BX AX) free) (hS : va_S A0 H0 H locs) (hA : ∀ q, q < H.size → A1 q → A0 q) (hf : ∀ q, free q → A0 q) (hAX : ∀ q, q < H.size → AX q → A0 q)
    (kx : ∀ (E : String) (ce : Cell) (q9 : Addr) (u : SX) (t : State) (H1 : Heap) (locs1 : List Loc), t.heap = H1 → s.vm.Alike t.vm → px u → BX E u t → H.size ≤ H1.size → (∀ q : Nat, q < H.size → ¬ AX q → H1[q]? = H[q]?) → va_S A0 H0 H1 locs1 → H1[q9]? = some ce → ce.vm = .none → s.vm.findClass E = some ce.cls → vx_W p l e R s m args below meth c H1 locs1 (cells + mc) (slots + ms) Q (F0 m pc ls rest) q9)
    (kk : ∀ (u : S) (t : State) (H1 : Heap) (locs1 : List Loc), t.heap = H1 → s.vm.Alike t.vm → post u → B u t → H.size ≤ H1.size → (∀ q : Nat, q < H.size → ¬ A1 q → H1[q]? = H[q]?) → va_S A0 H0 H1 locs1 → W p l e R s m args below meth c H1 locs1 (cells + mc) (slots + ms) Q (F0 m (pc + 3) ls (rest))) : W p l e R s m args below meth c H locs cells slots Q (F0 m pc ls st0) := by
  intro T hT X
  rcases hr T hT X with ⟨v, st₀, t, T', L, h0, X', hL, e1, e2, ⟨⟨u, hv, hp, hb⟩, hF⟩, st⟩ | ⟨q, st₀, t, T', L, E, ce, h0, X', hL, e1, e2, ⟨u, hp, hb, hF⟩, hce, hcv, hcl, st⟩
  · cases hv
    obtain ⟨k1, k2, k3⟩ := vx_keep h0 e1 hS hA hf hL hF
    obtain ⟨t2, a1, b1⟩ := kk u t T'.heap (locs ++ L) e1.symm (by rw [← e2]; exact X'.warmed.alike) hp hb k1 k2 k3 T' rfl X'
    exact ⟨t2, st t2 a1, b1⟩
  · obtain ⟨k1, k2, k3⟩ := vx_keep h0 e1 hS hAX hf hL hF
    obtain ⟨t2, a1, b1⟩ := kx E ce q u t T'.heap (locs ++ L) e1.symm (by rw [← e2]; exact X'.warmed.alike) hp hb k1 k2 k3 (by rw [e1]; exact hce) hcv hcl T' rfl X'
    exact ⟨t2, st.trans a1, b1⟩
/-- caught by the row x of this method's table; the rows ahead don't take it -/
theorem vx_catch {own name : String} {E : String} {ce : Cell} {q : Addr} (hown : s.vm.findClass own = some m.cls) (pre : List ExceptionTableEntry) (x : ExceptionTableEntry) (suf : List ExceptionTableEntry) (hsplit : c.exceptionTable.toList = pre ++ x :: suf)
    (hpass : ∀ z ∈ pre, covers z pc = false ∨ (z.catchType ≠ 0 ∧ ∃ nm : String, (Cond.classLink own z.catchType nm).before args s = true ∧ va_Nc E nm s)) (hx : covers x pc = true) (h0 : x.catchType ≠ 0)
    (hlink : (Cond.classLink own x.catchType name).before args s = true) (hcast : (Cond.castable E name).before args s = true) (hcell : H[q]? = some ce) (hv : ce.vm = .none) (hcl : s.vm.findClass E = some ce.cls)
    (kk : W p l e R s m args below meth c H locs cells slots Q (F0 m x.handlerPc ls [.ref q])) : vx_W p l e R s m args below meth c H locs cells slots Q (F0 m pc ls rest) q := by
  intro T hT X
  have hpl : e.platform.magicAccessors = ({} : Platform).magicAccessors := by rw [X.admits.platform]
  obtain ⟨c3, c4, hc3, hc4, hasg⟩ := Cond.castable_spec hcast
  cases Option.some.inj (hc3.symm.trans hcl)
  obtain ⟨c5, hc5, hcl5⟩ := Cond.classLink_spec hown hlink e.platform hpl
  cases Option.some.inj (hc4.symm.trans hc5)
  obtain ⟨vm', X', st⟩ := X.thenCaughtThrough q (g := F0 m pc ls rest) rfl (Steps.refl _) (by rw [hT]; exact hcell) (by rw [hv]; rfl) (by obtain ⟨k9, h9, -⟩ := Vm.findClass_spec hcl; exact ⟨k9, h9⟩) pre x suf hsplit
    (fun z hz => by
      rcases hpass z hz with h | ⟨hz0, nm, hl1, hn1⟩
      · exact Or.inl h
      · obtain ⟨c6, hc6, hcl6⟩ := Cond.classLink_spec hown hl1 e.platform hpl
        obtain ⟨a8, b8, h1, h2, h3⟩ := hn1
        cases Option.some.inj (h1.symm.trans hcl)
        cases Option.some.inj (h2.symm.trans hc6)
        exact Or.inr ⟨hz0, _, hcl6, h3⟩) hx (Or.inr ⟨h0, c4, hcl5, hasg⟩)
  obtain ⟨t, a1, b1⟩ := kk (T.setVm vm') hT X'
  exact ⟨t, st.trans a1, b1⟩
end Rows
section Ends
variable {p : Program} {l : Launch} {e : Env} {R : Room} {s : State} {m : MethodId} {args : Array Value} {below : List Frame} {meth : Method} {c : Code} {H : Heap} {locs : List Loc} {cells slots : Nat} {Q : State → Prop}
variable {mc ms : Nat} {free : Addr → Prop} {A0 A1 : Nat → Prop} {H0 : Heap} {a : Array Value} {ls : Array Slot} {st0 rest : List Value}
variable {Qc : Array Value → State → Outcome → State → Prop} {XC : String → State → State → Prop}
/-- what a body that may throw owes at its end -/
def vx_MQ (below : List Frame) (Qc : Array Value → State → Outcome → State → Prop) (XC : String → State → State → Prop) (a : Array Value) (s : State) (mc ms : Nat) (free : Addr → Prop) : State → Prop := fun t =>
  ∃ o, t.status = .running ∧ Ended t below o ∧ vx_Q Qc XC mc ms free a s o t
theorem vx_ret {g : JFrame} {mc ms : Nat} (k : W p l e R s m args below meth c H locs cells slots (MQ below Qc args s mc ms free) g) : W p l e R s m args below meth c H locs cells slots (vx_MQ below Qc XC args s mc ms free) g := by
  intro T hT X
  obtain ⟨t, a1, o, b1, b2, b3, b4⟩ := k T hT X
  exact ⟨t, a1, o, b1, b2, Or.inl ⟨b3, b4⟩⟩
/-- not caught here: it goes on to the caller -/
theorem vx_widen {g : JFrame} {q : Addr} {k n : Nat} (h1 : cells ≤ k) (h2 : slots ≤ n) (kk : vx_W p l e R s m args below meth c H locs k n Q g q) : vx_W p l e R s m args below meth c H locs cells slots Q g q := fun T hT X => kk T hT (stand_widen X h1 h2)
theorem vx_out {pc : Nat} {E : String} {ce : Cell} {q : Addr} {mc ms : Nat} (hout : ∀ x ∈ c.exceptionTable.toList, covers x pc = false) (hlocks : meth.locks = false) (hcell : H[q]? = some ce) (hv : ce.vm = .none) (hcl : s.vm.findClass E = some ce.cls)
    (hx : ∀ t : State, t.heap = H → s.vm.Alike t.vm → XC E s t) (hf : ∀ z ∈ locs, free z.base) (hc : cells ≤ mc) (hs : slots ≤ ms) :
    vx_W p l e R s m args below meth c H locs cells slots (vx_MQ below Qc XC args s mc ms free) (F0 m pc ls rest) q := by
  intro T hT X
  obtain ⟨st1, hrun, hend, hW, hsm⟩ := X.leaveThrown q (g := F0 m pc ls rest) rfl rfl rfl hout hlocks
  have hcell9 : (T.setFrames (.throwing q :: below)).heap[q]? = some ce := by
    show T.heap[q]? = some ce
    rw [hT]; exact hcell
  exact ⟨_, st1, .threw q, hrun, hend, Or.inr ⟨q, rfl, E, ce, locs, hx _ hT hW.alike, hcell9, hv, hcl, hW, hsm.mono hc hs, hf⟩⟩
theorem vx_frame {U : State} {k n : Nat} (h : s.sameButNew ({ U with vm := s.vm } : State) locs k n) : s.heap.size ≤ U.heap.size ∧ ∀ q : Nat, q < s.heap.size → (∀ z ∈ locs, z.base ≠ q) → U.heap[q]? = s.heap[q]? := by
  obtain ⟨-, h2, -, -, -, h6⟩ := h
  refine ⟨h2, fun q hq hz => ?_⟩
  obtain ⟨c9, e1, e2, e3, e4⟩ := h6 q _ (Array.getElem?_eq_getElem hq)
  have hs : c9.slots = (s.heap[q]).slots := Array.ext_getElem? fun i => e4 i fun hm => hz _ hm rfl
  have h9 : c9 = s.heap[q] := by
    rw [hs] at e2
    exact e2
  have e5 : U.heap[q]? = some c9 := e1
  rw [e5, h9, Array.getElem?_eq_getElem hq]
/-- the words of a throw but the four that speak of the heap -/
def vx_no (w : Cond) : Bool := decide (w ≠ .isRef (.static Bundle.tN "UNASSIGNED_STACK" Bundle.steD)) && decide (w ≠ .isRef (.static Bundle.tN "SUPPRESSED_SENTINEL" Bundle.listD)) && decide (w ≠ .laysStatic Bundle.tN "UNASSIGNED_STACK" Bundle.steD) && decide (w ≠ .laysStatic Bundle.tN "SUPPRESSED_SENTINEL" Bundle.listD)
def vx_at0 (own : String) (ic : Nat) (X : String) (names : List String) : List Cond := (Bundle.ownAtoms0 own ic X names).filter vx_no
def vx_atS (own : String) (ic : Nat) (X : String) (names : List String) : List Cond := (Bundle.ownAtoms own ic X names).filter vx_no
/-- a word that the tables alone decide, or a good one -/
def vx_ot (w : Cond) : Bool := w.onTables || goodWord w
theorem vx_ot_at {args a' : Array Value} {s U : State} {w : Cond} (hW : s.WarmedH U.vm) (hvm : s.vm = U.vm) (hg : vx_ot w = true) (h : w.before args s = true) : w.before a' U = true := by
  simp only [vx_ot, Bool.or_eq_true] at hg
  rcases hg with hg | hg
  · exact va_tabs hg hvm h
  · exact word_at hW (good_of_word hg) h
/-- a list's words: the good ones out of the method's own list, the others by premises of their own -/
theorem vx_hat {args : Array Value} {s : State} {L B : List Cond} (h1 : ∀ w ∈ L.filter goodWord, w.before args s = true) (h2 : ∀ w ∈ L.filter (fun w => !goodWord w), w ∈ B) (h3 : ∀ w ∈ B, w.before args s = true) : ∀ w ∈ L, w.before args s = true := by
  intro w hw
  by_cases g : goodWord w = true
  · exact h1 w (List.mem_filter.mpr ⟨hw, g⟩)
  · refine h3 w (h2 w (List.mem_filter.mpr ⟨hw, ?_⟩))
    show (!goodWord w) = true
    cases hgw : goodWord w
    · rfl
    · exact absurd hgw g
theorem vx_c {args : Array Value} {s : State} {w : Cond} {B : List Cond} (h : w.before args s = true) (t : ∀ w ∈ B, w.before args s = true) : ∀ w' ∈ w :: B, w'.before args s = true := fun w' h' => (List.mem_cons.mp h').elim (fun e => by rw [e]; exact h) (t w')
theorem vx_n {args : Array Value} {s : State} : ∀ w ∈ ([] : List Cond), w.before args s = true := fun _ h => nomatch h
theorem vx_own {args : Array Value} {s : State} {L : List Cond} (h1 : ∀ w ∈ L.filter vx_no, w.before args s = true)
    (hU : (Cond.isRef (.static Bundle.tN "UNASSIGNED_STACK" Bundle.steD)).before args s = true) (hN : (Cond.isRef (.static Bundle.tN "SUPPRESSED_SENTINEL" Bundle.listD)).before args s = true)
    (lU : (Cond.laysStatic Bundle.tN "UNASSIGNED_STACK" Bundle.steD).before args s = true) (lN : (Cond.laysStatic Bundle.tN "SUPPRESSED_SENTINEL" Bundle.listD).before args s = true) : ∀ w ∈ L, w.before args s = true := by
  intro w hw
  by_cases e1 : w = .isRef (.static Bundle.tN "UNASSIGNED_STACK" Bundle.steD)
  · rw [e1]; exact hU
  · by_cases e2 : w = .isRef (.static Bundle.tN "SUPPRESSED_SENTINEL" Bundle.listD)
    · rw [e2]; exact hN
    · by_cases e3 : w = .laysStatic Bundle.tN "UNASSIGNED_STACK" Bundle.steD
      · rw [e3]; exact lU
      · by_cases e4 : w = .laysStatic Bundle.tN "SUPPRESSED_SENTINEL" Bundle.listD
        · rw [e4]; exact lN
        · exact h1 w (List.mem_filter.mpr ⟨hw, by unfold vx_no; rw [decide_eq_true e1, decide_eq_true e2, decide_eq_true e3, decide_eq_true e4]; rfl⟩)
/-- where a static field lies, its class's statics cell in H -/
def vx_L (C n d : String) (A : Nat → Prop) (U : State) (H : Heap) : Prop := ∃ (c : ClassId) (k : Class) (i : Nat) (f : Field) (a : Nat) (cell : Cell), U.vm.findClass C = some c ∧ U.fieldFound? C n d = some (c, k, i, f) ∧ f.isStatic = true ∧ k.statics = some a ∧ H[a]? = some cell ∧ cell.vm.isStatics = true ∧ cell.cls = c ∧ f.slot < cell.slots.size ∧ k.staticTypes[f.slot]? = some f.type ∧ ¬ A a
theorem vx_L.moved {C n d : String} {A : Nat → Prop} {u U : State} {H : Heap} (hvm : u.vm.Alike U.vm) (h : vx_L C n d A u H) : vx_L C n d A U H := by
  obtain ⟨c, k, i, f, a, cell, h1, h2, h3, h4, h5, h6, h7, h8, h9, h10⟩ := h
  obtain ⟨k', hi', he⟩ := State.fieldFound?_setVm hvm h2
  exact ⟨c, k', i, f, a, cell, by rw [hvm.findClass]; exact h1, hi', h3, by rw [he]; exact h4, h5, h6, h7, h8, by rw [he]; exact h9, h10⟩
theorem vx_L.kept {C n d : String} {A : Nat → Prop} {U : State} {H H1 : Heap} (h : vx_L C n d A U H) (hq : ∀ a : Nat, a < H.size → ¬ A a → H1[a]? = H[a]?) : vx_L C n d A U H1 := by
  obtain ⟨c, k, i, f, a, cell, h1, h2, h3, h4, h5, h6, h7, h8, h9, h10⟩ := h
  exact ⟨c, k, i, f, a, cell, h1, h2, h3, h4, by rw [hq a (Array.getElem?_eq_some_iff.mp h5).1 h10]; exact h5, h6, h7, h8, h9, h10⟩
theorem vx_L.narrow {C n d : String} {A B : Nat → Prop} {U : State} {H : Heap} (h : vx_L C n d A U H) (hAB : ∀ q, B q → A q) : vx_L C n d B U H := by
  obtain ⟨c, k, i, f, a, cell, h1, h2, h3, h4, h5, h6, h7, h8, h9, h10⟩ := h
  exact ⟨c, k, i, f, a, cell, h1, h2, h3, h4, h5, h6, h7, h8, h9, fun z => h10 (hAB _ z)⟩
theorem vx_L.word {C n d : String} {A : Nat → Prop} {s : State} {args : Array Value} (h : vx_L C n d A s s.heap) : (Cond.laysStatic C n d).before args s = true := by
  obtain ⟨c, k, i, f, a, cell, h1, h2, h3, h4, h5, h6, h7, h8, h9, -⟩ := h
  show (Cond.laysStatic C n d).holds args s none s [] = true
  exact Cond.laysStatic_of h1 h2 h3 h4 h5 h6 h7 h8 h9
/-- .. and what it holds: null or some reference -/
def vx_Zq (C n d : String) (A : Nat → Prop) (U : State) (H : Heap) : Prop := va_Zq C n d A U H ∧ vx_L C n d A U H
theorem vx_Zq.moved {C n d : String} {A : Nat → Prop} {u U : State} {H : Heap} (hvm : u.vm.Alike U.vm) (h : vx_Zq C n d A u H) : vx_Zq C n d A U H := ⟨va_Zq.moved hvm h.1, vx_L.moved hvm h.2⟩
theorem vx_Zq.kept {C n d : String} {A : Nat → Prop} {U : State} {H H1 : Heap} (h : vx_Zq C n d A U H) (hq : ∀ a : Nat, a < H.size → ¬ A a → H1[a]? = H[a]?) : vx_Zq C n d A U H1 := ⟨va_Zq.kept h.1 hq, vx_L.kept h.2 hq⟩
theorem vx_Zq.narrow {C n d : String} {A B : Nat → Prop} {U : State} {H : Heap} (h : vx_Zq C n d A U H) (hAB : ∀ q, B q → A q) : vx_Zq C n d B U H := ⟨va_Zq.narrow h.1 hAB, vx_L.narrow h.2 hAB⟩
theorem vx_Zqof {args : Array Value} {s : State} {C n d : String} {A : Nat → Prop} (hl : (Cond.laysStatic C n d).before args s = true) (hini : (Cond.initialized C).before args s = true) (h : (Cond.isRef (.static C n d)).before args s = true) (hA : ∀ a : Nat, a < s.heap.size → ¬ A a) : vx_Zq C n d A s s.heap := by
  refine ⟨va_Zqof hl hini h hA, ?_⟩
  obtain ⟨c, k, i, f, a, cell, h1, h2, h3, h4, h5, h6, h7, h8, h9⟩ := Cond.laysStatic_spec hl
  exact ⟨c, k, i, f, a, cell, h1, h2, h3, h4, h5, h6, h7, h8, h9, hA a (Array.getElem?_eq_some_iff.mp h5).1⟩
theorem vx_isRef {C n d : String} {v : Value} {A : Nat → Prop} {s : State} {args : Array Value} (h : va_Z C n d v A s s.heap) (hv : v.isRef = true) : (Cond.isRef (.static C n d)).before args s = true := by
  obtain ⟨cf, kf, fi, f, a, cell, h1, h2, h3, h4, h5, h6, h7, -⟩ := h
  have he : (Term.static C n d).eval args s none [] s = some v := by
    simp [Term.eval, State.fieldNamed?, h1, h2, h4, h5, h6, h7]
  simp only [Cond.before, Cond.holds, Cond.value, he]
  cases v <;> simp_all [Value.isRef]
theorem vx_isRefq {C n d : String} {A : Nat → Prop} {s : State} {args : Array Value} (h : va_Zq C n d A s s.heap) : (Cond.isRef (.static C n d)).before args s = true := by
  rcases h with h | ⟨t, h⟩
  · exact vx_isRef h rfl
  · exact vx_isRef h rfl
/-- the same frame, seen from here: as if the method were called anew in this heap -/
theorem vx_rebase {T : State} (X : Stand p l e R s m args below meth c T locs cells slots) {R' : Room} (hf : R'.frames ≤ R.frames) (hl : R'.locals ≤ R.locals) (hc : cells + R'.cells ≤ R.cells) (hs : slots + R'.slots ≤ R.slots) :
    Stand p l e R' ((T.setVm s.vm).setFrames (.invoking m args :: below)) m args below meth c T [] 0 0 := by
  have htop : (T.setVm s.vm).topJava?.isSome := X.here.top
  have hF : ((T.setVm s.vm).setFrames (.invoking m args :: below)).frames = .invoking m args :: below := State.frames_setFrames _ (State.cur_lt_of_top htop)
  obtain ⟨g₀, hg0⟩ := Option.isSome_iff_exists.mp htop
  obtain ⟨r, hr⟩ := State.topJava?_eq_some.mp hg0
  have hl9 : e.platform.stackLimits (T.setVm s.vm).me = e.platform.stackLimits s.me := X.limits
  have hb9 : (T.setVm s.vm).me.stackBytes = s.me.stackBytes := X.bytes
  refine ⟨X.admits, X.cas, X.clock, hF, ?_, X.hears, X.method, X.code, X.here, X.tail, X.warmed, ?_, ?_, ?_⟩
  · have h := X.room
    have hU : ((T.setVm s.vm).setFrames (.invoking m args :: below)).localsInUse = s.localsInUse := by
      rw [State.localsInUse_invoking hF (meth := meth) (c := c) X.method X.code, State.localsInUse_invoking X.frames X.method X.code]
    simp only [State.hasRoom, Bool.and_eq_true, decide_eq_true_eq] at h ⊢
    obtain ⟨⟨⟨⟨h1, h2, h3, h4, h5, h6⟩, h7⟩, h8⟩, h9⟩ := h
    rw [X.frames, List.length_cons] at h2 h3
    have q1 := X.heapSize
    have q2 := X.used
    simp only [hF, hU, List.length_cons, State.stackLimits_setFrames, State.stackBytes_setFrames, hl9, hb9]
    refine ⟨⟨⟨⟨by omega, by omega, by omega, by omega, by omega, h6⟩, ?_⟩, ?_⟩, X.book⟩
    · show T.heap.size + R'.cells ≤ e.platform.maxCells
      omega
    · show T.slotsUsed + R'.slots ≤ e.platform.maxSlots
      omega
  · rw [State.stackLimits_setFrames]; rfl
  · rw [State.stackBytes_setFrames]; rfl
  · refine ⟨?_, Nat.le_refl _, Nat.le_refl _, ?_, ?_, fun a c9 h9 => ⟨c9, h9, rfl, rfl, fun _ _ => rfl⟩⟩
    · obtain ⟨t, ht, -⟩ := State.frames_cons hr
      show T.setVm s.vm = { ((T.setVm s.vm).setFrames (.invoking m args :: below)).setFrames (T.setVm s.vm).frames with heap := T.heap, slotsUsed := T.slotsUsed }
      rw [State.setFrames_setFrames, State.setFrames_self ht]
      rfl
    · show T.slotsUsed = T.slotsUsed + ((T.heap.toList.drop T.heap.size).map (·.slots.size)).sum
      rw [List.drop_eq_nil_of_le (Nat.le_of_eq Array.length_toList)]
      rfl
    · show ((T.heap.toList.drop T.heap.size).map (·.slots.size)).sum ≤ 0
      rw [List.drop_eq_nil_of_le (Nat.le_of_eq Array.length_toList)]
      exact Nat.le_refl _
/-- 'throw new E()': new; dup; invokespecial; athrow -/
theorem vx_throw0 {cc : ByteArray} {pc : Nat} (hexec : p.tables.exec = Jvm.exec) (hb : c.code = cc) (hl : l.stackTraces = false) {own cls : String} {names : List String} {ik ic mc ms : Nat} {A : Nat → Prop}
    (hown : s.vm.findClass own = some m.cls) (hcls : Bundle.fit cls = true) (hnames : ∀ n ∈ names, Bundle.fit n = true)
    (hk : (Cond.classLink own ik cls).before args s = true) (hini : (Cond.initialized cls).before args s = true) (hat : ∀ w ∈ vx_at0 own ic cls names, w.before args s = true)
    (hgood : ∀ w ∈ Cond.classLink own ik cls :: Cond.initialized cls :: vx_at0 own ic cls names, vx_ot w = true)
    (hU : vx_Zq Bundle.tN "UNASSIGNED_STACK" Bundle.steD A s s.heap) (hN : vx_Zq Bundle.tN "SUPPRESSED_SENTINEL" Bundle.listD A s s.heap) (hS : va_S A s.heap H locs) (hsize : ls.size = c.maxLocals)
    (d0 : decode cc pc = .ok (.new ik, 3)) (d3 : decode cc (pc + 3) = .ok (.dup, 1)) (d4 : decode cc (pc + 4) = .ok (.invokespecial ic, 3)) (d7 : decode cc (pc + 7) = .ok (.athrow, 1))
    (hout : ∀ x ∈ c.exceptionTable.toList, covers x (pc + 7) = false)
    (hRframes : names.length + 3 < R.frames) (hRlocals : (rest.map fun v => v.category).sum + (13 * (names.length + 1) + 42) ≤ R.locals) (hRcells : cells + 1 ≤ R.cells) (hRslots : slots + 6 ≤ R.slots) (hlocks : meth.locks = false)
    (hx : ∀ t : State, s.vm.Alike t.vm → H.size ≤ t.heap.size → (∀ q : Nat, q < H.size → t.heap[q]? = H[q]?) → XC cls s t)
    (hf : ∀ z ∈ locs, free z.base) (hc : cells + 1 ≤ mc) (hs : slots + 6 ≤ ms) :
    W p l e R s m args below meth c H locs cells slots (vx_MQ below Qc XC args s mc ms free) (F0 m pc ls rest) := by
  intro T hT X
  have htr : e.platform.stackTraces = false := (show e.platform.stackTraces = l.stackTraces by rw [X.admits.platform]).trans hl
  have Y := vx_rebase X (R' := { frames := R.frames, locals := R.locals, cells := 1, slots := 6 }) (Nat.le_refl _) (Nat.le_refl _) hRcells hRslots
  obtain ⟨s', hA⟩ : ∃ z, z = (T.setVm s.vm).setFrames (.invoking m args :: below) := ⟨_, rfl⟩
  rw [← hA] at Y
  have hvm : s'.vm = s.vm := by rw [hA]; rfl
  have hhp : s'.heap = H := by rw [hA]; exact hT
  have hW0 : s.WarmedH s'.vm := by rw [hvm]; exact State.WarmedH.refl s
  have hat' : ∀ w ∈ vx_at0 own ic cls names, w.before args s' = true := fun w hw => vx_ot_at hW0 hvm.symm (hgood w (List.mem_cons_of_mem _ (List.mem_cons_of_mem _ hw))) (hat w hw)
  have hk' : (Cond.classLink own ik cls).before args s' = true := vx_ot_at hW0 hvm.symm (hgood _ List.mem_cons_self) hk
  have hini' : (Cond.initialized cls).before args s' = true := vx_ot_at hW0 hvm.symm (hgood _ (List.mem_cons_of_mem _ List.mem_cons_self)) hini
  have hU' : vx_Zq Bundle.tN "UNASSIGNED_STACK" Bundle.steD A s' s'.heap := by rw [hhp]; exact vx_Zq.moved hW0.alike (hU.kept hS.2.1)
  have hN' : vx_Zq Bundle.tN "SUPPRESSED_SENTINEL" Bundle.listD A s' s'.heap := by rw [hhp]; exact vx_Zq.moved hW0.alike (hN.kept hS.2.1)
  have h : ∀ w ∈ Bundle.ownAtoms0 own ic cls names, w.before args s' = true := vx_own hat' (vx_isRefq hU'.1) (vx_isRefq hN'.1) hU'.2.word hN'.2.word
  have hown' : s'.vm.findClass own = some m.cls := by rw [hvm]; exact hown
  have hins : (Cond.instantiable cls 6).before args s' = true := h _ (by simp [Bundle.ownAtoms0])
  obtain ⟨vm₁, cX, kX, hfX, hkX, -, -, X₁, st1⟩ := Y.newCold hexec (own := own) (C := cls) (index := ik) (n := 6) hown' hk' hins hini'
    (g := F0 m pc ls rest) rfl (by rw [hb]; exact d0) (Nat.le_refl _) (Nat.le_refl _)
  generalize hT1 : (T.setVm vm₁).pushCell { cls := cX, slots := kX.instanceTypes.map defaultValue, vm := .none } = T1 at X₁ st1
  have hcat : (Value.ref T.heap.size).category = 1 := rfl
  have hcellA : T1.heap[T.heap.size]? = some (freshCell cX kX) := by rw [← hT1]; exact State.heap_pushCell_size _ _
  have d3' : decode c.code (pc + 3) = .ok (.dup, 1) := by rw [hb]; exact d3
  obtain ⟨U, hsteps, hrun, hend, hW, hsame, ce, hce, hO⟩ := X₁.ctorThrow0 hexec htr (own := own) (cls := cls) (names := names) (ic := ic) hown' hcls hnames h (fun x hx => nomatch hx) hfX hkX hcellA (by rw [hhp, hT]; exact Nat.le_refl _)
    (g := { method := m, pc := pc + 4, locals := ls, stack := .ref T.heap.size :: .ref T.heap.size :: rest, locked := none }) rfl hsize rfl rfl (rest := rest) rfl
    (by rw [hb]; exact d4) (by rw [hb]; exact d7) hout hRframes (by simp only [List.map_cons, List.sum_cons, hcat]; omega) hlocks
  obtain ⟨f1, f2⟩ := vx_frame hsame
  rw [hhp] at f1 f2
  have hWs : s.WarmedH U.vm := State.WarmedH.trans hW0 hW
  have hcl : s.vm.findClass cls = some ce.cls := by
    have h9 := hO.cls
    rw [hvm] at h9
    exact h9
  have hall : s.sameButNew ({ U with vm := s.vm } : State) locs mc ms := by
    subst hA
    obtain ⟨e1, e2⟩ := hsame
    rw [State.setFrames_setFrames] at e1
    have h2 : (T.setVm s.vm).sameButNew ({ U with vm := s.vm } : State) [] (0 + 1) (0 + 6) := ⟨e1, e2⟩
    have h3 := X.same.trans h2
    rw [List.append_nil] at h3
    exact h3.mono hc hs
  refine ⟨U, ?_, .threw T.heap.size, hrun, hend, Or.inr ⟨T.heap.size, rfl, cls, ce, locs, hx U hWs.alike f1 (fun q hq => f2 q hq (fun z hz => nomatch hz)), hce, hO.vm, hcl, hWs, hall, hf⟩⟩
  refine st1 _ ?_
  show Steps p.tables e below (T1.setTop { method := m, pc := pc + 3, locals := ls, stack := .ref T.heap.size :: rest, locked := none }) _
  jvm_step X₁.here [X₁.here.top, hexec, d3', Value.category]
  exact hsteps
/-- 'throw new E("text")': new; dup; ldc; invokespecial; athrow -/
theorem vx_throwS {cc : ByteArray} {pc : Nat} (hexec : p.tables.exec = Jvm.exec) (hb : c.code = cc) (hl : l.stackTraces = false) {own cls text : String} {names : List String} {ik is ic mc ms sa : Nat} {A : Nat → Prop}
    (hown : s.vm.findClass own = some m.cls) (hcls : Bundle.fit cls = true) (hnames : ∀ n ∈ names, Bundle.fit n = true)
    (hk : (Cond.classLink own ik cls).before args s = true) (hini : (Cond.initialized cls).before args s = true) (hstr : vk_R own is text sa s) (hat : ∀ w ∈ vx_atS own ic cls names, w.before args s = true)
    (hgood : ∀ w ∈ Cond.classLink own ik cls :: Cond.initialized cls :: vx_atS own ic cls names, vx_ot w = true)
    (hU : vx_Zq Bundle.tN "UNASSIGNED_STACK" Bundle.steD A s s.heap) (hN : vx_Zq Bundle.tN "SUPPRESSED_SENTINEL" Bundle.listD A s s.heap) (hS : va_S A s.heap H locs) (hsize : ls.size = c.maxLocals)
    (d0 : decode cc pc = .ok (.new ik, 3)) (d3 : decode cc (pc + 3) = .ok (.dup, 1)) (d4 : decode cc (pc + 4) = .ok (.ldc is, 2)) (d6 : decode cc (pc + 6) = .ok (.invokespecial ic, 3)) (d9 : decode cc (pc + 9) = .ok (.athrow, 1))
    (hout : ∀ x ∈ c.exceptionTable.toList, covers x (pc + 9) = false)
    (hRframes : names.length + 3 < R.frames) (hRlocals : (rest.map fun v => v.category).sum + (13 * (names.length + 1) + 43) ≤ R.locals) (hRcells : cells + 1 ≤ R.cells) (hRslots : slots + 6 ≤ R.slots) (hlocks : meth.locks = false)
    (hx : ∀ t : State, s.vm.Alike t.vm → H.size ≤ t.heap.size → (∀ q : Nat, q < H.size → t.heap[q]? = H[q]?) → XC cls s t)
    (hf : ∀ z ∈ locs, free z.base) (hc : cells + 1 ≤ mc) (hs : slots + 6 ≤ ms) :
    W p l e R s m args below meth c H locs cells slots (vx_MQ below Qc XC args s mc ms free) (F0 m pc ls rest) := by
  intro T hT X
  have htr : e.platform.stackTraces = false := (show e.platform.stackTraces = l.stackTraces by rw [X.admits.platform]).trans hl
  have Y := vx_rebase X (R' := { frames := R.frames, locals := R.locals, cells := 1, slots := 6 }) (Nat.le_refl _) (Nat.le_refl _) hRcells hRslots
  obtain ⟨s', hA⟩ : ∃ z, z = (T.setVm s.vm).setFrames (.invoking m args :: below) := ⟨_, rfl⟩
  rw [← hA] at Y
  have hvm : s'.vm = s.vm := by rw [hA]; rfl
  have hhp : s'.heap = H := by rw [hA]; exact hT
  have hW0 : s.WarmedH s'.vm := by rw [hvm]; exact State.WarmedH.refl s
  have hat' : ∀ w ∈ vx_atS own ic cls names, w.before args s' = true := fun w hw => vx_ot_at hW0 hvm.symm (hgood w (List.mem_cons_of_mem _ (List.mem_cons_of_mem _ hw))) (hat w hw)
  have hk' : (Cond.classLink own ik cls).before args s' = true := vx_ot_at hW0 hvm.symm (hgood _ List.mem_cons_self) hk
  have hini' : (Cond.initialized cls).before args s' = true := vx_ot_at hW0 hvm.symm (hgood _ (List.mem_cons_of_mem _ List.mem_cons_self)) hini
  have hU' : vx_Zq Bundle.tN "UNASSIGNED_STACK" Bundle.steD A s' s'.heap := by rw [hhp]; exact vx_Zq.moved hW0.alike (hU.kept hS.2.1)
  have hN' : vx_Zq Bundle.tN "SUPPRESSED_SENTINEL" Bundle.listD A s' s'.heap := by rw [hhp]; exact vx_Zq.moved hW0.alike (hN.kept hS.2.1)
  have h : ∀ w ∈ Bundle.ownAtoms own ic cls names, w.before args s' = true := vx_own hat' (vx_isRefq hU'.1) (vx_isRefq hN'.1) hU'.2.word hN'.2.word
  have hown' : s'.vm.findClass own = some m.cls := by rw [hvm]; exact hown
  have hins : (Cond.instantiable cls 6).before args s' = true := h _ (by simp [Bundle.ownAtoms])
  obtain ⟨vm₁, cX, kX, hfX, hkX, -, -, X₁, st1⟩ := Y.newCold hexec (own := own) (C := cls) (index := ik) (n := 6) hown' hk' hins hini'
    (g := F0 m pc ls rest) rfl (by rw [hb]; exact d0) (Nat.le_refl _) (Nat.le_refl _)
  generalize hT1 : (T.setVm vm₁).pushCell { cls := cX, slots := kX.instanceTypes.map defaultValue, vm := .none } = T1 at X₁ st1
  have hcat : (Value.ref T.heap.size).category = 1 := rfl
  have hcellA : T1.heap[T.heap.size]? = some (freshCell cX kX) := by rw [← hT1]; exact State.heap_pushCell_size _ _
  have d3' : decode c.code (pc + 3) = .ok (.dup, 1) := by rw [hb]; exact d3
  have d4' : decode c.code (pc + 4) = .ok (.ldc is, 2) := by rw [hb]; exact d4
  have hstr' : vk_R own is text sa s' := vk_R.warm hW0 hstr
  obtain ⟨U, hsteps, hrun, hend, hW, hsame, ce, hce, hO⟩ := X₁.ctorThrowS hexec htr (own := own) (cls := cls) (names := names) (ic := ic) hown' hcls hnames h (fun x hx => nomatch hx) hfX hkX hcellA (by rw [hhp, hT]; exact Nat.le_refl _) (msg := .ref sa) rfl
    (g := { method := m, pc := pc + 6, locals := ls, stack := .ref sa :: .ref T.heap.size :: .ref T.heap.size :: rest, locked := none }) rfl hsize rfl rfl (rest := rest) rfl
    (by rw [hb]; exact d6) (by rw [hb]; exact d9) hout hRframes (by simp only [List.map_cons, List.sum_cons, hcat]; omega) hlocks
  obtain ⟨f1, f2⟩ := vx_frame hsame
  rw [hhp] at f1 f2
  have hWs : s.WarmedH U.vm := State.WarmedH.trans hW0 hW
  have hcl : s.vm.findClass cls = some ce.cls := by
    have h9 := hO.cls
    rw [hvm] at h9
    exact h9
  have hall : s.sameButNew ({ U with vm := s.vm } : State) locs mc ms := by
    subst hA
    obtain ⟨e1, e2⟩ := hsame
    rw [State.setFrames_setFrames] at e1
    have h2 : (T.setVm s.vm).sameButNew ({ U with vm := s.vm } : State) [] (0 + 1) (0 + 6) := ⟨e1, e2⟩
    have h3 := X.same.trans h2
    rw [List.append_nil] at h3
    exact h3.mono hc hs
  refine ⟨U, ?_, .threw T.heap.size, hrun, hend, Or.inr ⟨T.heap.size, rfl, cls, ce, locs, hx U hWs.alike f1 (fun q hq => f2 q hq (fun z hz => nomatch hz)), hce, hO.vm, hcl, hWs, hall, hf⟩⟩
  refine st1 _ ?_
  show Steps p.tables e below (T1.setTop { method := m, pc := pc + 3, locals := ls, stack := .ref T.heap.size :: rest, locked := none }) _
  jvm_step X₁.here [X₁.here.top, hexec, d3', Value.category]
  exact X₁.ldcString hexec (own := own) (text := text) (index := is) (a := sa) hown' hstr'.1 hstr'.2
    (g := { method := m, pc := pc + 4, locals := ls, stack := .ref T.heap.size :: .ref T.heap.size :: rest, locked := none }) rfl d4' _ hsteps
/-- 'throw new E("text")', the text by a wide index -/
theorem vx_throwSW {cc : ByteArray} {pc : Nat} (hexec : p.tables.exec = Jvm.exec) (hb : c.code = cc) (hl : l.stackTraces = false) {own cls text : String} {names : List String} {ik is ic mc ms sa : Nat} {A : Nat → Prop}
    (hown : s.vm.findClass own = some m.cls) (hcls : Bundle.fit cls = true) (hnames : ∀ n ∈ names, Bundle.fit n = true)
    (hk : (Cond.classLink own ik cls).before args s = true) (hini : (Cond.initialized cls).before args s = true) (hstr : vk_R own is text sa s) (hat : ∀ w ∈ vx_atS own ic cls names, w.before args s = true)
    (hgood : ∀ w ∈ Cond.classLink own ik cls :: Cond.initialized cls :: vx_atS own ic cls names, vx_ot w = true)
    (hU : vx_Zq Bundle.tN "UNASSIGNED_STACK" Bundle.steD A s s.heap) (hN : vx_Zq Bundle.tN "SUPPRESSED_SENTINEL" Bundle.listD A s s.heap) (hS : va_S A s.heap H locs) (hsize : ls.size = c.maxLocals)
    (d0 : decode cc pc = .ok (.new ik, 3)) (d3 : decode cc (pc + 3) = .ok (.dup, 1)) (d4 : decode cc (pc + 4) = .ok (.ldc_w is, 3)) (d7 : decode cc (pc + 7) = .ok (.invokespecial ic, 3)) (d10 : decode cc (pc + 10) = .ok (.athrow, 1))
    (hout : ∀ x ∈ c.exceptionTable.toList, covers x (pc + 10) = false)
    (hRframes : names.length + 3 < R.frames) (hRlocals : (rest.map fun v => v.category).sum + (13 * (names.length + 1) + 43) ≤ R.locals) (hRcells : cells + 1 ≤ R.cells) (hRslots : slots + 6 ≤ R.slots) (hlocks : meth.locks = false)
    (hx : ∀ t : State, s.vm.Alike t.vm → H.size ≤ t.heap.size → (∀ q : Nat, q < H.size → t.heap[q]? = H[q]?) → XC cls s t)
    (hf : ∀ z ∈ locs, free z.base) (hc : cells + 1 ≤ mc) (hs : slots + 6 ≤ ms) :
    W p l e R s m args below meth c H locs cells slots (vx_MQ below Qc XC args s mc ms free) (F0 m pc ls rest) := by
  intro T hT X
  have htr : e.platform.stackTraces = false := (show e.platform.stackTraces = l.stackTraces by rw [X.admits.platform]).trans hl
  have Y := vx_rebase X (R' := { frames := R.frames, locals := R.locals, cells := 1, slots := 6 }) (Nat.le_refl _) (Nat.le_refl _) hRcells hRslots
  obtain ⟨s', hA⟩ : ∃ z, z = (T.setVm s.vm).setFrames (.invoking m args :: below) := ⟨_, rfl⟩
  rw [← hA] at Y
  have hvm : s'.vm = s.vm := by rw [hA]; rfl
  have hhp : s'.heap = H := by rw [hA]; exact hT
  have hW0 : s.WarmedH s'.vm := by rw [hvm]; exact State.WarmedH.refl s
  have hat' : ∀ w ∈ vx_atS own ic cls names, w.before args s' = true := fun w hw => vx_ot_at hW0 hvm.symm (hgood w (List.mem_cons_of_mem _ (List.mem_cons_of_mem _ hw))) (hat w hw)
  have hk' : (Cond.classLink own ik cls).before args s' = true := vx_ot_at hW0 hvm.symm (hgood _ List.mem_cons_self) hk
  have hini' : (Cond.initialized cls).before args s' = true := vx_ot_at hW0 hvm.symm (hgood _ (List.mem_cons_of_mem _ List.mem_cons_self)) hini
  have hU' : vx_Zq Bundle.tN "UNASSIGNED_STACK" Bundle.steD A s' s'.heap := by rw [hhp]; exact vx_Zq.moved hW0.alike (hU.kept hS.2.1)
  have hN' : vx_Zq Bundle.tN "SUPPRESSED_SENTINEL" Bundle.listD A s' s'.heap := by rw [hhp]; exact vx_Zq.moved hW0.alike (hN.kept hS.2.1)
  have h : ∀ w ∈ Bundle.ownAtoms own ic cls names, w.before args s' = true := vx_own hat' (vx_isRefq hU'.1) (vx_isRefq hN'.1) hU'.2.word hN'.2.word
  have hown' : s'.vm.findClass own = some m.cls := by rw [hvm]; exact hown
  have hins : (Cond.instantiable cls 6).before args s' = true := h _ (by simp [Bundle.ownAtoms])
  obtain ⟨vm₁, cX, kX, hfX, hkX, -, -, X₁, st1⟩ := Y.newCold hexec (own := own) (C := cls) (index := ik) (n := 6) hown' hk' hins hini'
    (g := F0 m pc ls rest) rfl (by rw [hb]; exact d0) (Nat.le_refl _) (Nat.le_refl _)
  generalize hT1 : (T.setVm vm₁).pushCell { cls := cX, slots := kX.instanceTypes.map defaultValue, vm := .none } = T1 at X₁ st1
  have hcat : (Value.ref T.heap.size).category = 1 := rfl
  have hcellA : T1.heap[T.heap.size]? = some (freshCell cX kX) := by rw [← hT1]; exact State.heap_pushCell_size _ _
  have d3' : decode c.code (pc + 3) = .ok (.dup, 1) := by rw [hb]; exact d3
  have d4' : decode c.code (pc + 4) = .ok (.ldc_w is, 3) := by rw [hb]; exact d4
  have hstr' : vk_R own is text sa s' := vk_R.warm hW0 hstr
  obtain ⟨U, hsteps, hrun, hend, hW, hsame, ce, hce, hO⟩ := X₁.ctorThrowS hexec htr (own := own) (cls := cls) (names := names) (ic := ic) hown' hcls hnames h (fun x hx => nomatch hx) hfX hkX hcellA (by rw [hhp, hT]; exact Nat.le_refl _) (msg := .ref sa) rfl
    (g := { method := m, pc := pc + 7, locals := ls, stack := .ref sa :: .ref T.heap.size :: .ref T.heap.size :: rest, locked := none }) rfl hsize rfl rfl (rest := rest) rfl
    (by rw [hb]; exact d7) (by rw [hb]; exact d10) hout hRframes (by simp only [List.map_cons, List.sum_cons, hcat]; omega) hlocks
  obtain ⟨f1, f2⟩ := vx_frame hsame
  rw [hhp] at f1 f2
  have hWs : s.WarmedH U.vm := State.WarmedH.trans hW0 hW
  have hcl : s.vm.findClass cls = some ce.cls := by
    have h9 := hO.cls
    rw [hvm] at h9
    exact h9
  have hall : s.sameButNew ({ U with vm := s.vm } : State) locs mc ms := by
    subst hA
    obtain ⟨e1, e2⟩ := hsame
    rw [State.setFrames_setFrames] at e1
    have h2 : (T.setVm s.vm).sameButNew ({ U with vm := s.vm } : State) [] (0 + 1) (0 + 6) := ⟨e1, e2⟩
    have h3 := X.same.trans h2
    rw [List.append_nil] at h3
    exact h3.mono hc hs
  refine ⟨U, ?_, .threw T.heap.size, hrun, hend, Or.inr ⟨T.heap.size, rfl, cls, ce, locs, hx U hWs.alike f1 (fun q hq => f2 q hq (fun z hz => nomatch hz)), hce, hO.vm, hcl, hWs, hall, hf⟩⟩
  refine st1 _ ?_
  show Steps p.tables e below (T1.setTop { method := m, pc := pc + 3, locals := ls, stack := .ref T.heap.size :: rest, locked := none }) _
  jvm_step X₁.here [X₁.here.top, hexec, d3', Value.category]
  exact X₁.ldcStringW hexec (own := own) (text := text) (index := is) (a := sa) hown' hstr'.1 hstr'.2
    (g := { method := m, pc := pc + 4, locals := ls, stack := .ref T.heap.size :: .ref T.heap.size :: rest, locked := none }) rfl d4' _ hsteps
end Ends
section Bodies
variable {l : Launch}
theorem vx_ofW {y : MethodName} {ws ws' : List Cond} {rm : Room} {Pc : Array Value → State → Prop} {Qc : Array Value → State → Outcome → State → Prop} {XC : String → State → State → Prop} {mc ms : Nat} {free : Addr → Prop} {cc : ByteArray} {maxL : Nat} {ret : Option FieldType}
    (hy : plainName y.cls = true) (hw : ws = Cond.code y cc maxL ret :: ws')
    (body : ∀ p e s m args below meth c s₁, BodyLoose p l y (headSpec ws rm) cc maxL ret e s m args below meth c s₁ → c.maxLocals = maxL → (∀ x ∈ c.exceptionTable.toList, False) → Pc args s →
      W p l e (headSpec ws rm).room s m args below meth c s.heap [] 0 0 (vx_MQ below Qc XC args s mc ms free) (entryFrame m args maxL)) : vx_Met l y ws rm Pc Qc XC mc ms free := by
  refine MetFree.of_bodyS (code := cc) (maxLocals := maxL) (ret := ret) hy ?_ ?_
  · intro args s m h hn
    obtain ⟨meth, c, h1, h2, h3, h4, h5, h6, -, -⟩ := Cond.code_spec hn (atoms_spec (ws := ws) h _ (by rw [hw]; exact List.mem_cons_self))
    exact ⟨meth, c, h1, h2, h3, h4, h5, h6⟩
  · intro p e s m args below meth c s₁ B hml hP _
    have hh0 : s₁.heap = s.heap := by rw [B.state]; rfl
    have ht : ∀ x ∈ c.exceptionTable.toList, False := by
      obtain ⟨meth9, c9, h1, h2, -, -, -, -, h7, -⟩ := Cond.code_spec B.named (atoms_spec (ws := ws) B.pre _ (by rw [hw]; exact List.mem_cons_self))
      cases Option.some.inj (h1.symm.trans B.method)
      cases Option.some.inj (h2.symm.trans (Stand.of_body B).code)
      intro x hx
      rw [Array.isEmpty_iff.mp h7] at hx
      cases hx
    obtain ⟨t, a1, o, b1, b2, b3⟩ := body p e s m args below meth c s₁ B hml ht hP s₁ hh0 (Stand.of_body B)
    exact ⟨t, o, a1, b1, b2, b3⟩
/-- the table of a body with handlers -/
theorem vx_table {p : Program} {x y : MethodName} {S : Spec} {cc bytes : ByteArray} {maxL maxL' : Nat} {ret ret' : Option FieldType} {e : Env} {s s₁ : State} {m : MethodId} {args : Array Value} {below : List Frame} {meth : Method} {c : Code} {hh : List (Nat × Nat × Nat × Nat)}
    (B : BodyLoose p l y S cc maxL ret e s m args below meth c s₁) (h : (Cond.codeWith y bytes maxL' ret' hh).before args s = true) : c.exceptionTable.toList = tableOf hh := by
  obtain ⟨m9, meth9, c9, hn9, h1, h2, -, -, h6, -⟩ := Cond.codeWith_spec h
  cases Option.some.inj (hn9.symm.trans B.named)
  cases Option.some.inj (h1.symm.trans B.method)
  cases Option.some.inj (h2.symm.trans (Stand.of_body B).code)
  rw [← h6, table_eq]
end Bodies
end VXA
/-! ===== END ===== -/
/-! ===== BEGIN a static call of a method with an exception table ===== -/
section VXS
variable {p : Program} {l : Launch} {e : Env} {R : Room} {s : State} {m : MethodId} {args : Array Value} {below : List Frame} {meth : Method} {c : Code} {T : State} {H : Heap} {locs : List Loc} {cells slots : Nat}
abbrev vx_CSW (R : Room) (s : State) (args : Array Value) (own : String) (index : Nat) (y : MethodName) (bytes : ByteArray) (maxL : Nat) (ret : Option FieldType) (hh : List (Nat × Nat × Nat × Nat)) (ws : List Cond) (rm : Room) (mc ms n : Nat) : Prop :=
  (rm.cells = mc ∧ rm.slots = ms ∧ rm.frames + 1 ≤ R.frames ∧ 8 + (maxL + 11) + rm.locals ≤ R.locals ∧ (∀ w ∈ ws, ∀ (a' : Array Value) (U : State), s.WarmedH U.vm → w.before a' U = true) ∧ Cond.codeWith y bytes maxL ret hh ∈ ws) ∧
  (Cond.codeWith y bytes maxL ret hh).before args s = true ∧ (Cond.initialized y.cls).before args s = true ∧ (y.cls ≠ "java/lang/invoke/MethodHandle" ∧ y.cls ≠ "java/lang/invoke/VarHandle") ∧
  (∀ sig, parseMethodDescriptor y.desc = some sig → n = sig.parameters.length) ∧ (Cond.methodLink own index y).before args s = true ∧ (Cond.static y).before args s = true
theorem vx_cwSW {own : String} {index maxL mc ms : Nat} {y : MethodName} {bytes : ByteArray} {ret : Option FieldType} {hh : List (Nat × Nat × Nat × Nat)} {Ts ws ws' : List Cond} {rm : Room} (n : Nat) (ht : ∀ w ∈ Ts, w.before args s = true) (hT : GoodIn Ts (va_wsS own index y ws)) (hw : ws = Cond.codeWith y bytes maxL ret hh :: ws') (hrc : rm.cells = mc) (hrs : rm.slots = ms)
    (hd : y.cls ≠ "java/lang/invoke/MethodHandle" ∧ y.cls ≠ "java/lang/invoke/VarHandle" ∧ (parseMethodDescriptor y.desc).map (fun d => d.parameters.length) = some n) (hR : rm.frames + 1 ≤ R.frames ∧ 8 + (maxL + 11) + rm.locals ≤ R.locals) :
    vx_CSW R s args own index y bytes maxL ret hh ws rm mc ms n := by
  have ok : ∀ w ∈ va_wsS own index y ws, w.before args s = true := fun w h => ht w (hT w h).1
  have hG : GoodIn Ts ws := fun w h => hT w (by unfold va_wsS; exact List.mem_append_right _ h)
  have hc : Cond.codeWith y bytes maxL ret hh ∈ ws := by rw [hw]; exact List.mem_cons_self
  refine ⟨⟨hrc, hrs, hR.1, hR.2, pay_in ht hG, hc⟩, ht _ (hG _ hc).1, ok _ (by simp [va_wsS]), ⟨hd.1, hd.2.1⟩, fun sig h => ?_, ok _ (by simp [va_wsS]), ok _ (by simp [va_wsS])⟩
  have h2 := hd.2.2
  rw [h] at h2
  exact (Option.some.inj h2).symm
theorem vx_callSW (X : Stand p l e R s m args below meth c T locs cells slots) (hexec : p.tables.exec = Jvm.exec) {own : String} {index : Nat} {y : MethodName} {bytes : ByteArray} {maxL : Nat} {ret : Option FieldType} {hh : List (Nat × Nat × Nat × Nat)}
    (hown : s.vm.findClass own = some m.cls) (hlink : (Cond.methodLink own index y).before args s = true) (hstat : (Cond.static y).before args s = true) (hinit : (Cond.initialized y.cls).before args s = true)
    (hcode : (Cond.codeWith y bytes maxL ret hh).before args s = true) (hy : y.cls ≠ "java/lang/invoke/MethodHandle" ∧ y.cls ≠ "java/lang/invoke/VarHandle")
    {W9 : Nat} {Pre : Pt → Array Value → Prop} {Post : Pt → Array Value → Option Value → Pt → Prop} (hK : Back l R p e below s args y 3 W9 Pre Post)
    {g : JFrame} (hg : g.method = m) (hsize : g.locals.size = c.maxLocals) {argsL rest : List Value} (hlen : ∀ sig, parseMethodDescriptor y.desc = some sig → argsL.length = sig.parameters.length)
    (hstack : g.stack = argsL.reverse ++ rest) (hW : 2 * g.monitorRoom + (rest.map fun v => v.category).sum ≤ W9) (hdg : decode c.code g.pc = .ok (.invokestatic index, 3))
    (hpre : ∀ vm₁, s.WarmedH vm₁ → Pre ⟨T.setVm vm₁, locs, cells, slots⟩ argsL.toArray) :
    ∃ (v : Option Value) (vm₁ : Vm) (B : Pt), s.WarmedH vm₁ ∧ Stand p l e R s m args below meth c B.U B.locs B.cells B.slots ∧ Post ⟨T.setVm vm₁, locs, cells, slots⟩ argsL.toArray v B ∧
      ∀ target, Steps p.tables e below (B.U.setTop { g with pc := g.pc + 3, stack := v.toList ++ rest }) target → Steps p.tables e below (T.setTop g) target := by
  obtain ⟨mk, methM, cM, hnamed, hmethM, -, -, -, -, -, -, hsigM⟩ := Cond.codeWith_spec hcode
  have hstatic : methM.isStatic = true := Cond.static_spec hnamed hmethM hstat
  obtain ⟨kP, hkP, -⟩ := className_of_methodNamed hnamed
  have hinitP : kP.init = .initialized := Cond.initialized_spec (findClass_of_methodNamed hnamed) hkP hinit
  obtain ⟨vm₁, X₁, hstep₁⟩ := X.invokestatic hexec hown hlink hnamed hmethM hstatic hkP hinitP hy (g := g) hg (argsL := argsL) (rest := rest) (hlen _ hsigM) hstack hdg
  obtain ⟨v, B, X', hpost, hsteps⟩ := hK m meth c ⟨T.setVm vm₁, locs, cells, slots⟩ { g with stack := rest } (.invokestatic index) mk argsL.toArray X₁ hg hsize hdg hW (X₁.named hnamed) (hpre vm₁ X₁.warmed)
  exact ⟨v, vm₁, B, X₁.warmed, X', hpost, fun target h => hstep₁ _ fun acts => by rw [doInvoke_state]; exact hsteps.trans h⟩
theorem vx_runSW {y : MethodName} {bytes cc : ByteArray} {maxL nL mc ms n index : Nat} {ret : Option FieldType} {hh : List (Nat × Nat × Nat × Nat)} {ws : List Cond} {rm : Room} {Pc : Array Value → State → Prop} {Qc : Array Value → State → Outcome → State → Prop} {free : Addr → Prop} {Ts : List Cond} {own : String} {As rest : List Value} {g : JFrame}
    (S : CallFix p m c cc nL s args Ts own) (hM : Met l y ws rm Pc Qc mc ms free) (cw : vx_CSW R s args own index y bytes maxL ret hh ws rm mc ms n) (hp : PreS s H Pc As)
    (hg : g.method = m) (hn : As.length = n) (hsize : g.locals.size = nL) (hstack : g.stack = As.reverse ++ rest) (hW : 2 * g.monitorRoom + (rest.map fun v => v.category).sum ≤ 8) (hdg : decode cc g.pc = .ok (.invokestatic index, 3)) (hf : cells + mc ≤ R.cells ∧ slots + ms ≤ R.slots) :
    va_Run p l e R s m args below meth c H locs cells slots mc ms g rest (Qc As.toArray) (free) := by
  obtain ⟨⟨hrc, hrs, hfr, hlo, hws, hcw⟩, hcode, hini, hy, hlen, hl, hstt⟩ := cw
  have hK : Back l R p e below s args y 3 8 (PreOf R mc ms Pc) (PostOf Qc mc ms free) := va_backW (hh := hh) (bytes := bytes) (maxL := maxL) (ret := ret) hM hp.1 hrc hrs hfr hlo hws hcw (fun a' U hW => word_at hW (Or.inl (by first | rfl | simp [Cond.onTables, Cond.keeps, Cond.steady])) hini)
  obtain ⟨hx, hb, hml, ho, -⟩ := S
  intro T hT X
  obtain ⟨v, vm₁, ⟨U', l2, c2, s2⟩, hW₁, X', ⟨g', mk, t, L, e1, e2, hq, h1, hL, h2, h3⟩, st⟩ := vx_callSW X hx (hh := hh) (bytes := bytes) (maxL := maxL) (ret := ret) ho hl hstt hini hcode hy hK hg (hsize.trans hml.symm) (argsL := As) (rest := rest) (fun sig h => hn.trans (hlen sig h)) hstack hW (by rw [hb]; exact hdg)
    (fun vm₁ hW₁ => ⟨hf.1, hf.2, hp.2 (T.setVm vm₁) hT hW₁⟩)
  dsimp only [Pt.U, Pt.locs, Pt.cells, Pt.slots] at X' e1 e2 h1 h2 h3 st
  subst h1; subst h2; subst h3
  exact ⟨v, (T.setVm vm₁).calling g' mk As.toArray, t, U', L, hT, X', hL, e1, e2, hq, st⟩
/-- not caught here, past rows that name other classes: it goes on to the caller -/
theorem vx_outP {p : Program} {l : Launch} {e : Env} {R : Room} {s : State} {m : MethodId} {args : Array Value} {below : List Frame} {meth : Method} {c : Code} {H : Heap} {locs : List Loc} {cells slots : Nat} {free : Addr → Prop} {ls : Array Slot} {rest : List Value} {Qc : Array Value → State → Outcome → State → Prop} {XC : String → State → State → Prop}
    {pc : Nat} {own E : String} {ce : Cell} {q : Addr} {mc ms : Nat} (hown : s.vm.findClass own = some m.cls) (hlocks : meth.locks = false)
    (hpass : ∀ z ∈ c.exceptionTable.toList, covers z pc = false ∨ (z.catchType ≠ 0 ∧ ∃ nm : String, (Cond.classLink own z.catchType nm).before args s = true ∧ va_Nc E nm s)) (hcell : H[q]? = some ce) (hv : ce.vm = .none) (hcl : s.vm.findClass E = some ce.cls)
    (hx : ∀ t : State, t.heap = H → s.vm.Alike t.vm → XC E s t) (hf : ∀ z ∈ locs, free z.base) (hc : cells ≤ mc) (hs : slots ≤ ms) :
    vx_W p l e R s m args below meth c H locs cells slots (vx_MQ below Qc XC args s mc ms free) (F0 m pc ls rest) q := by
  intro T hT X
  have hpl : e.platform.magicAccessors = ({} : Platform).magicAccessors := by rw [X.admits.platform]
  obtain ⟨vm', hW', X', st⟩ := X.outThrough hlocks q (g := F0 m pc ls rest) rfl rfl rfl (cell := ce) (by rw [hT]; exact hcell) (by rw [hv]; rfl)
    (by obtain ⟨k9, h9, -⟩ := Vm.findClass_spec hcl; exact ⟨k9, h9⟩) (fun z hz => by
      rcases hpass z hz with h | ⟨hz0, nm, hl1, hn1⟩
      · exact Or.inl h
      · obtain ⟨c6, hc6, hcl6⟩ := Cond.classLink_spec hown hl1 e.platform hpl
        obtain ⟨a8, b8, h1, h2, h3⟩ := hn1
        cases Option.some.inj (h1.symm.trans hcl)
        cases Option.some.inj (h2.symm.trans hc6)
        exact Or.inr ⟨hz0, _, hcl6, h3⟩)
  obtain ⟨g₀, hfr⟩ := X'.frames_eq
  have hcell9 : ((T.setVm vm').setFrames (.throwing q :: below)).heap[q]? = some ce := by
    show T.heap[q]? = some ce
    rw [hT]; exact hcell
  have hend : Ended ((T.setVm vm').setFrames (.throwing q :: below)) below (.threw q) := State.frames_setFrames _ (State.cur_lt_of_frames hfr)
  refine ⟨(T.setVm vm').setFrames (.throwing q :: below), ?_, .threw q, X'.here.running, hend, Or.inr ⟨q, rfl, E, ce, locs, hx _ hT (X'.ends _).1.alike, hcell9, hv, hcl, (X'.ends _).1, (X'.ends _).2.mono hc hs, hf⟩⟩
  rw [X.pushThrowing_eq]
  exact st
/-- a thing of a world lies in the heap -/
theorem vx_lt {D : va_G} {cl : List vw_C} {ws : va_W} {H1 : Heap} (h : va_P D cl ws H1) {k : Nat} {q : Nat × va_E} (hk : ws[k]? = some q) : q.1 < H1.size := (h k q hk).lt
end VXS
/-! ===== END ===== -/
/-! ===== BEGIN methods with a table of their own: called by a name, returning or throwing ===== -/
section VXH
/-! vx_backW, vx_callVX, vx_callSX, vx_callVW, vx_runVW, vx_runVX, vx_runSX, vx_ofWH follow the same proofs as their sisters above (Free/Laws.lean, Shelf42/LK1.lean); vx_outP calls Shelf42/NT130.lean (outThrough). -/
section
variable {l : Launch} {R : Room} {p : Program} {e : Env} {below : List Frame} {s : State} {sargs : Array Value} {y : MethodName} {len W9 : Nat}
theorem vx_backW {ws : List Cond} {rm : Room} {Pc : Array Value → State → Prop} {Qc : Array Value → State → Outcome → State → Prop} {XC : String → State → State → Prop} {mc ms : Nat} {free : Addr → Prop} {bytes : ByteArray} {maxL : Nat} {ret : Option FieldType} {hh : List (Nat × Nat × Nat × Nat)}
    (hM : vx_Met l y ws rm Pc Qc XC mc ms free) (hblind : FrameBlind Pc) (hrc : rm.cells = mc) (hrs : rm.slots = ms)
    (hframes : rm.frames + 1 ≤ R.frames) (hlocals : W9 + (maxL + 11) + rm.locals ≤ R.locals)
    (hws : ∀ w ∈ ws, ∀ a' U, s.WarmedH U.vm → w.before a' U = true) (hcode : Cond.codeWith y bytes maxL ret hh ∈ ws) (hinit : ∀ a' U, s.WarmedH U.vm → (Cond.initialized y.cls).before a' U = true) :
    vx_Back l R p e below s sargs y len W9 (PreOf R mc ms Pc) (PostOf Qc mc ms free) (vx_Post XC mc ms free) := by
  intro m meth c A g ig mk a X hg hsize hdg hW hn hp
  have h1 : (headSpec ws rm).pre.before a A.U = true := atoms_intro fun w hw => hws w hw _ _ X.warmed
  have h2 : (Cond.codeWith y bytes maxL ret hh).before a A.U = true := hws _ hcode _ _ X.warmed
  have h3 : (Cond.initialized y.cls).before a A.U = true := hinit _ _ X.warmed
  have h4 : A.cells + (headSpec ws rm).room.cells ≤ R.cells := by rw [show (headSpec ws rm).room.cells = mc from hrc]; exact hp.1
  have h5 : A.slots + (headSpec ws rm).room.slots ≤ R.slots := by rw [show (headSpec ws rm).room.slots = ms from hrs]; exact hp.2.1
  have hPc : Pc a (A.U.calling g mk a) := hblind _ _ _ _ hp.2.2
  obtain ⟨U, Ls, c0, s0⟩ := A
  dsimp only [Pt.U, Pt.locs, Pt.cells, Pt.slots] at h1 h2 h3 h4 h5 X hn hPc ⊢
  obtain ⟨m9, methY, cY, hn9, hmY, hcY, -, hlY, -⟩ := Cond.codeWith_spec h2
  cases Option.some.inj (hn9.symm.trans hn)
  obtain ⟨kY, hkY, -⟩ := className_of_methodNamed hn
  have hinitY : kY.init = .initialized := Cond.initialized_spec (findClass_of_methodNamed hn) hkY h3
  have h : At U g.method c below := by rw [hg]; exact X.here
  have hlocals9 : W9 + (maxL + 11) + (headSpec ws rm).room.locals ≤ R.locals := hlocals
  have happ : (headSpec ws rm).appliesLoose y e.platform (U.calling g mk a) = true :=
    Spec.appliesLoose_calling (g := g) h hdg hn hkY hinitY
      (X.room_calling (g := g) (R' := (headSpec ws rm).room) hsize hmY hcY hframes (by rw [hlY]; omega) h4 h5) h1
  obtain ⟨mid, hmid⟩ := h.above
  have hfr : (U.setTop g).frames = (.java g :: mid) ++ below := by rw [State.frames_setTop' g h.top, hmid]; rfl
  obtain ⟨o, s₂, hsteps, -, hend, hq⟩ := Steps.callFree hM p X.admits X.cas X.clock (acts := []) hfr happ hPc trivial
  have hq' : vx_Q Qc XC mc ms free a (U.calling g mk a) o s₂ := hq
  rw [State.frames_setTop' g h.top] at hend
  obtain ⟨g₀, hg0⟩ := Option.isSome_iff_exists.mp h.top
  obtain ⟨r, hr⟩ := State.topJava?_eq_some.mp hg0
  have hr' : (({ U with heap := s₂.heap, slotsUsed := s₂.slotsUsed } : State).setVm s₂.vm).frames = .java g₀ :: r := hr
  rcases hq' with ⟨hqc, L, hfe, hL⟩ | ⟨q, rfl, E, ce, L, hx, hce, hcv, hcl, hW₂, hsm, hL⟩
  · obtain ⟨⟨v, rfl⟩, hW₂, e2, q2, q3, q4, q5, q6⟩ := id hfe
    have e3 : s₂ = ({ (U.calling g mk a).setFrames s₂.frames with heap := s₂.heap, slotsUsed := s₂.slotsUsed } : State).setVm s₂.vm := by
      have : s₂ = ({ s₂ with vm := (U.calling g mk a).vm } : State).setVm s₂.vm := rfl
      rw [e2] at this
      exact this
    obtain ⟨c₂, i₂, len₂, hc₂, hd₂, hf₂⟩ := hend
    have hW' : U.WarmedH s₂.vm := hW₂
    have hcc : c₂ = c := by
      have h1 : s₂.code? g.method = U.code? g.method := by
        rw [State.code?_eq, State.code?_eq, hW'.alike.method?]
      exact Option.some.inj (hc₂.symm.trans (h1.trans h.code))
    subst hcc
    have hlen : len₂ = len := by rw [hdg] at hd₂; cases hd₂; rfl
    subst hlen
    have hs₂ : s₂ = (({ U with heap := s₂.heap, slotsUsed := s₂.slotsUsed } : State).setVm s₂.vm).setTop { g with pc := g.pc + len₂, stack := v.toList ++ g.stack } := by
      refine e3.trans ?_
      rw [hf₂, State.calling_eq h.top, State.setFrames_setFrames, State.setTop_of_frames _ hr', hr]
      rfl
    have hsame : U.sameButNew ({ U with heap := s₂.heap, slotsUsed := s₂.slotsUsed } : State) L mc ms := by
      refine ⟨?_, q2, q3, q4, q5, q6⟩
      obtain ⟨t, ht, -⟩ := State.frames_cons hr
      show ({ U with heap := s₂.heap, slotsUsed := s₂.slotsUsed } : State) = { U.setFrames U.frames with heap := s₂.heap, slotsUsed := s₂.slotsUsed }
      rw [State.setFrames_self ht]
    subst hg
    refine Or.inl ⟨v, ⟨(({ U with heap := s₂.heap, slotsUsed := s₂.slotsUsed } : State).setVm s₂.vm), Ls ++ L, c0 + mc, s0 + ms⟩,
      ⟨X.admits, X.cas, X.clock, X.frames, X.room, X.hears, X.method, X.code, (X.here.setHeapUsed s₂.heap s₂.slotsUsed).setVm hW'.alike, X.tail, State.WarmedH.trans X.warmed hW', X.limits, X.bytes, X.same.trans (hsame.setVm s.vm)⟩,
      ⟨g, mk, s₂, L, rfl, rfl, hqc, rfl, hL, rfl, rfl⟩, ?_⟩
    show Steps p.tables e below _ ((({ U with heap := s₂.heap, slotsUsed := s₂.slotsUsed } : State).setVm s₂.vm).setTop { g with pc := g.pc + len₂, stack := v.toList ++ g.stack })
    rw [← hs₂]
    exact hsteps
  · obtain ⟨e2, q2, q3, q4, q5, q6⟩ := id hsm
    have e3 : s₂ = ({ (U.calling g mk a).setFrames s₂.frames with heap := s₂.heap, slotsUsed := s₂.slotsUsed } : State).setVm s₂.vm := by
      have : s₂ = ({ s₂ with vm := (U.calling g mk a).vm } : State).setVm s₂.vm := rfl
      rw [e2] at this
      exact this
    have hf₂ : s₂.frames = .throwing q :: .java g :: U.frames.tail := hend
    have hW' : U.WarmedH s₂.vm := hW₂
    have hs₂ : s₂ = ((({ U with heap := s₂.heap, slotsUsed := s₂.slotsUsed } : State).setVm s₂.vm).setTop g).pushFrame (.throwing q) := by
      refine e3.trans ?_
      rw [hf₂, State.calling_eq h.top, State.setFrames_setFrames, State.pushFrame, State.frames_setTop _ hr', State.setTop_of_frames _ hr', State.setFrames_setFrames, hr]
      rfl
    have hsame : U.sameButNew ({ U with heap := s₂.heap, slotsUsed := s₂.slotsUsed } : State) L mc ms := by
      refine ⟨?_, q2, q3, q4, q5, q6⟩
      obtain ⟨t, ht, -⟩ := State.frames_cons hr
      show ({ U with heap := s₂.heap, slotsUsed := s₂.slotsUsed } : State) = { U.setFrames U.frames with heap := s₂.heap, slotsUsed := s₂.slotsUsed }
      rw [State.setFrames_self ht]
    subst hg
    refine Or.inr ⟨q, ⟨(({ U with heap := s₂.heap, slotsUsed := s₂.slotsUsed } : State).setVm s₂.vm), Ls ++ L, c0 + mc, s0 + ms⟩,
      ⟨X.admits, X.cas, X.clock, X.frames, X.room, X.hears, X.method, X.code, (X.here.setHeapUsed s₂.heap s₂.slotsUsed).setVm hW'.alike, X.tail, State.WarmedH.trans X.warmed hW', X.limits, X.bytes, X.same.trans (hsame.setVm s.vm)⟩,
      ⟨g, mk, s₂, L, E, ce, rfl, rfl, hx, hce, hcv, hcl, rfl, hL, rfl, rfl⟩, ?_⟩
    show Steps p.tables e below _ (((({ U with heap := s₂.heap, slotsUsed := s₂.slotsUsed } : State).setVm s₂.vm).setTop g).pushFrame (.throwing q))
    rw [← hs₂]
    exact hsteps
end
variable {p : Program} {l : Launch} {e : Env} {R : Room} {s : State} {m : MethodId} {args : Array Value} {below : List Frame} {meth : Method} {c : Code} {T : State} {H : Heap} {locs : List Loc} {cells slots : Nat}
theorem vx_callVX (X : Stand p l e R s m args below meth c T locs cells slots) (hexec : p.tables.exec = Jvm.exec) {own C : String} {index : Nat} {y : MethodName} {bytes : ByteArray} {maxL : Nat} {ret : Option FieldType} {hh : List (Nat × Nat × Nat × Nat)}
    (hown : s.vm.findClass own = some m.cls) (hlink : (Cond.methodLink own index y).before args s = true) (hinst : (Cond.instanceMethod y).before args s = true) (hsel : (Cond.selects C y y).before args s = true)
    (hcode : (Cond.codeWith y bytes maxL ret hh).before args s = true) (hy : y.cls ≠ "java/lang/invoke/MethodHandle" ∧ y.cls ≠ "java/lang/invoke/VarHandle")
    {W9 : Nat} {Pre : Pt → Array Value → Prop} {Post : Pt → Array Value → Option Value → Pt → Prop} {PostX : Pt → Array Value → Addr → Pt → Prop} (hK : vx_Back l R p e below s args y 3 W9 Pre Post PostX)
    {b : Addr} {cellB : Cell} (hcell : T.heap[b]? = some cellB) (hobj : cellB.vm.isStatics = false) (hcls : s.vm.findClass C = some cellB.cls)
    {g : JFrame} (hg : g.method = m) (hsize : g.locals.size = c.maxLocals) {argsL rest : List Value} (hlen : ∀ sig, parseMethodDescriptor y.desc = some sig → argsL.length = sig.parameters.length)
    (hstack : g.stack = argsL.reverse ++ .ref b :: rest) (hW : 2 * g.monitorRoom + (rest.map fun v => v.category).sum ≤ W9) (hdg : decode c.code g.pc = .ok (.invokevirtual index, 3))
    (hpre : ∀ vm₁, s.WarmedH vm₁ → Pre ⟨T.setVm vm₁, locs, cells, slots⟩ (Value.ref b :: argsL).toArray) :
    (∃ (v : Option Value) (vm₁ : Vm) (B : Pt), s.WarmedH vm₁ ∧ Stand p l e R s m args below meth c B.U B.locs B.cells B.slots ∧ Post ⟨T.setVm vm₁, locs, cells, slots⟩ (Value.ref b :: argsL).toArray v B ∧
      ∀ target, Steps p.tables e below (B.U.setTop { g with pc := g.pc + 3, stack := v.toList ++ rest }) target → Steps p.tables e below (T.setTop g) target) ∨
    (∃ (q : Addr) (vm₁ : Vm) (B : Pt), s.WarmedH vm₁ ∧ Stand p l e R s m args below meth c B.U B.locs B.cells B.slots ∧ PostX ⟨T.setVm vm₁, locs, cells, slots⟩ (Value.ref b :: argsL).toArray q B ∧
      Steps p.tables e below (T.setTop g) ((B.U.setTop { g with stack := rest }).pushFrame (.throwing q))) := by
  obtain ⟨mk, methM, hnamed, hmethM, hstM, habM⟩ := Cond.instanceMethod_spec hinst
  obtain ⟨m8, methM', cM, hn8, hmethM', -, -, -, -, -, -, hsigM⟩ := Cond.codeWith_spec hcode
  cases Option.some.inj (hn8.symm.trans hnamed)
  cases hmethM.symm.trans hmethM'
  obtain ⟨c2, r2, m2, q1, q2, q3, q4, kP, hkP, hkPi⟩ := Cond.selects_spec hsel
  cases hcls.symm.trans q1
  cases (State.methodFound?_of_named hnamed hy).symm.trans q2
  cases hnamed.symm.trans q3
  have hselP : selectMethod e.platform s.vm cellB.cls mk = .method mk := by rw [Launch.admits_selectMethod X.admits]; exact q4
  obtain ⟨vm₁, X₁, hstep₁⟩ := X.invokevirtual hexec hown hlink hnamed hmethM hstM hkP hkPi hy (a := b) (cell := cellB) hcell
    (fun z h => by rw [h] at hobj; cases hobj) hselP hmethM habM hkP hkPi (g := g) hg (argsL := argsL) (rest := rest) (hlen _ hsigM) hstack hdg
  rcases hK m meth c ⟨T.setVm vm₁, locs, cells, slots⟩ { g with stack := rest } (.invokevirtual index) mk (Value.ref b :: argsL).toArray X₁ hg hsize hdg hW (X₁.named hnamed) (hpre vm₁ X₁.warmed) with ⟨v, B, X', hpost, hsteps⟩ | ⟨q, B, X', hpost, hsteps⟩
  · exact Or.inl ⟨v, vm₁, B, X₁.warmed, X', hpost, fun target h => hstep₁ _ fun acts => by rw [doInvoke_state]; exact hsteps.trans h⟩
  · exact Or.inr ⟨q, vm₁, B, X₁.warmed, X', hpost, hstep₁ _ fun acts => by rw [doInvoke_state]; exact hsteps⟩
theorem vx_callSX (X : Stand p l e R s m args below meth c T locs cells slots) (hexec : p.tables.exec = Jvm.exec) {own : String} {index : Nat} {y : MethodName} {bytes : ByteArray} {maxL : Nat} {ret : Option FieldType} {hh : List (Nat × Nat × Nat × Nat)}
    (hown : s.vm.findClass own = some m.cls) (hlink : (Cond.methodLink own index y).before args s = true) (hstat : (Cond.static y).before args s = true) (hinit : (Cond.initialized y.cls).before args s = true)
    (hcode : (Cond.codeWith y bytes maxL ret hh).before args s = true) (hy : y.cls ≠ "java/lang/invoke/MethodHandle" ∧ y.cls ≠ "java/lang/invoke/VarHandle")
    {W9 : Nat} {Pre : Pt → Array Value → Prop} {Post : Pt → Array Value → Option Value → Pt → Prop} {PostX : Pt → Array Value → Addr → Pt → Prop} (hK : vx_Back l R p e below s args y 3 W9 Pre Post PostX)
    {g : JFrame} (hg : g.method = m) (hsize : g.locals.size = c.maxLocals) {argsL rest : List Value} (hlen : ∀ sig, parseMethodDescriptor y.desc = some sig → argsL.length = sig.parameters.length)
    (hstack : g.stack = argsL.reverse ++ rest) (hW : 2 * g.monitorRoom + (rest.map fun v => v.category).sum ≤ W9) (hdg : decode c.code g.pc = .ok (.invokestatic index, 3))
    (hpre : ∀ vm₁, s.WarmedH vm₁ → Pre ⟨T.setVm vm₁, locs, cells, slots⟩ argsL.toArray) :
    (∃ (v : Option Value) (vm₁ : Vm) (B : Pt), s.WarmedH vm₁ ∧ Stand p l e R s m args below meth c B.U B.locs B.cells B.slots ∧ Post ⟨T.setVm vm₁, locs, cells, slots⟩ argsL.toArray v B ∧
      ∀ target, Steps p.tables e below (B.U.setTop { g with pc := g.pc + 3, stack := v.toList ++ rest }) target → Steps p.tables e below (T.setTop g) target) ∨
    (∃ (q : Addr) (vm₁ : Vm) (B : Pt), s.WarmedH vm₁ ∧ Stand p l e R s m args below meth c B.U B.locs B.cells B.slots ∧ PostX ⟨T.setVm vm₁, locs, cells, slots⟩ argsL.toArray q B ∧
      Steps p.tables e below (T.setTop g) ((B.U.setTop { g with stack := rest }).pushFrame (.throwing q))) := by
  obtain ⟨mk, methM, cM, hnamed, hmethM, -, -, -, -, -, -, hsigM⟩ := Cond.codeWith_spec hcode
  have hstatic : methM.isStatic = true := Cond.static_spec hnamed hmethM hstat
  obtain ⟨kP, hkP, -⟩ := className_of_methodNamed hnamed
  have hinitP : kP.init = .initialized := Cond.initialized_spec (findClass_of_methodNamed hnamed) hkP hinit
  obtain ⟨vm₁, X₁, hstep₁⟩ := X.invokestatic hexec hown hlink hnamed hmethM hstatic hkP hinitP hy (g := g) hg (argsL := argsL) (rest := rest) (hlen _ hsigM) hstack hdg
  rcases hK m meth c ⟨T.setVm vm₁, locs, cells, slots⟩ { g with stack := rest } (.invokestatic index) mk argsL.toArray X₁ hg hsize hdg hW (X₁.named hnamed) (hpre vm₁ X₁.warmed) with ⟨v, B, X', hpost, hsteps⟩ | ⟨q, B, X', hpost, hsteps⟩
  · exact Or.inl ⟨v, vm₁, B, X₁.warmed, X', hpost, fun target h => hstep₁ _ fun acts => by rw [doInvoke_state]; exact hsteps.trans h⟩
  · exact Or.inr ⟨q, vm₁, B, X₁.warmed, X', hpost, hstep₁ _ fun acts => by rw [doInvoke_state]; exact hsteps⟩
theorem vx_callVW (X : Stand p l e R s m args below meth c T locs cells slots) (hexec : p.tables.exec = Jvm.exec) {own C : String} {index : Nat} {y : MethodName} {bytes : ByteArray} {maxL : Nat} {ret : Option FieldType} {hh : List (Nat × Nat × Nat × Nat)}
    (hown : s.vm.findClass own = some m.cls) (hlink : (Cond.methodLink own index y).before args s = true) (hinst : (Cond.instanceMethod y).before args s = true) (hsel : (Cond.selects C y y).before args s = true)
    (hcode : (Cond.codeWith y bytes maxL ret hh).before args s = true) (hy : y.cls ≠ "java/lang/invoke/MethodHandle" ∧ y.cls ≠ "java/lang/invoke/VarHandle")
    {W9 : Nat} {Pre : Pt → Array Value → Prop} {Post : Pt → Array Value → Option Value → Pt → Prop} (hK : Back l R p e below s args y 3 W9 Pre Post)
    {b : Addr} {cellB : Cell} (hcell : T.heap[b]? = some cellB) (hobj : cellB.vm.isStatics = false) (hcls : s.vm.findClass C = some cellB.cls)
    {g : JFrame} (hg : g.method = m) (hsize : g.locals.size = c.maxLocals) {argsL rest : List Value} (hlen : ∀ sig, parseMethodDescriptor y.desc = some sig → argsL.length = sig.parameters.length)
    (hstack : g.stack = argsL.reverse ++ .ref b :: rest) (hW : 2 * g.monitorRoom + (rest.map fun v => v.category).sum ≤ W9) (hdg : decode c.code g.pc = .ok (.invokevirtual index, 3))
    (hpre : ∀ vm₁, s.WarmedH vm₁ → Pre ⟨T.setVm vm₁, locs, cells, slots⟩ (Value.ref b :: argsL).toArray) :
    ∃ (v : Option Value) (vm₁ : Vm) (B : Pt), s.WarmedH vm₁ ∧ Stand p l e R s m args below meth c B.U B.locs B.cells B.slots ∧ Post ⟨T.setVm vm₁, locs, cells, slots⟩ (Value.ref b :: argsL).toArray v B ∧
      ∀ target, Steps p.tables e below (B.U.setTop { g with pc := g.pc + 3, stack := v.toList ++ rest }) target → Steps p.tables e below (T.setTop g) target := by
  obtain ⟨mk, methM, hnamed, hmethM, hstM, habM⟩ := Cond.instanceMethod_spec hinst
  obtain ⟨m8, methM', cM, hn8, hmethM', -, -, -, -, -, -, hsigM⟩ := Cond.codeWith_spec hcode
  cases Option.some.inj (hn8.symm.trans hnamed)
  cases hmethM.symm.trans hmethM'
  obtain ⟨c2, r2, m2, q1, q2, q3, q4, kP, hkP, hkPi⟩ := Cond.selects_spec hsel
  cases hcls.symm.trans q1
  cases (State.methodFound?_of_named hnamed hy).symm.trans q2
  cases hnamed.symm.trans q3
  have hselP : selectMethod e.platform s.vm cellB.cls mk = .method mk := by rw [Launch.admits_selectMethod X.admits]; exact q4
  obtain ⟨vm₁, X₁, hstep₁⟩ := X.invokevirtual hexec hown hlink hnamed hmethM hstM hkP hkPi hy (a := b) (cell := cellB) hcell
    (fun z h => by rw [h] at hobj; cases hobj) hselP hmethM habM hkP hkPi (g := g) hg (argsL := argsL) (rest := rest) (hlen _ hsigM) hstack hdg
  obtain ⟨v, B, X', hpost, hsteps⟩ := hK m meth c ⟨T.setVm vm₁, locs, cells, slots⟩ { g with stack := rest } (.invokevirtual index) mk (Value.ref b :: argsL).toArray X₁ hg hsize hdg hW (X₁.named hnamed) (hpre vm₁ X₁.warmed)
  exact ⟨v, vm₁, B, X₁.warmed, X', hpost, fun target h => hstep₁ _ fun acts => by rw [doInvoke_state]; exact hsteps.trans h⟩
abbrev vx_CVW (R : Room) (s : State) (args : Array Value) (own C : String) (index : Nat) (y : MethodName) (bytes : ByteArray) (maxL : Nat) (ret : Option FieldType) (hh : List (Nat × Nat × Nat × Nat)) (ws : List Cond) (rm : Room) (mc ms n : Nat) : Prop :=
  (rm.cells = mc ∧ rm.slots = ms ∧ rm.frames + 1 ≤ R.frames ∧ 8 + (maxL + 11) + rm.locals ≤ R.locals ∧ (∀ w ∈ ws, ∀ (a' : Array Value) (U : State), s.WarmedH U.vm → w.before a' U = true) ∧ Cond.codeWith y bytes maxL ret hh ∈ ws) ∧
  (Cond.codeWith y bytes maxL ret hh).before args s = true ∧ (Cond.initialized y.cls).before args s = true ∧ (y.cls ≠ "java/lang/invoke/MethodHandle" ∧ y.cls ≠ "java/lang/invoke/VarHandle") ∧
  (∀ sig, parseMethodDescriptor y.desc = some sig → n = sig.parameters.length) ∧ (Cond.methodLink own index y).before args s = true ∧ (Cond.instanceMethod y).before args s = true ∧ (Cond.selects C y y).before args s = true
theorem vx_cwVW {own C : String} {index maxL mc ms : Nat} {y : MethodName} {bytes : ByteArray} {ret : Option FieldType} {hh : List (Nat × Nat × Nat × Nat)} {Ts ws ws' : List Cond} {rm : Room} (n : Nat) (ht : ∀ w ∈ Ts, w.before args s = true) (hT : GoodIn Ts (wsV own index C y ws)) (hw : ws = Cond.codeWith y bytes maxL ret hh :: ws') (hrc : rm.cells = mc) (hrs : rm.slots = ms)
    (hd : y.cls = C ∧ y.cls ≠ "java/lang/invoke/MethodHandle" ∧ y.cls ≠ "java/lang/invoke/VarHandle" ∧ (parseMethodDescriptor y.desc).map (fun d => d.parameters.length) = some n) (hR : rm.frames + 1 ≤ R.frames ∧ 8 + (maxL + 11) + rm.locals ≤ R.locals) :
    vx_CVW R s args own C index y bytes maxL ret hh ws rm mc ms n := by
  obtain ⟨hC, hd⟩ := hd
  subst hC
  have ok : ∀ w ∈ wsV own index y.cls y ws, w.before args s = true := fun w h => ht w (hT w h).1
  have hG : GoodIn Ts ws := fun w h => hT w (by unfold wsV; exact List.mem_append_right _ h)
  have hc : Cond.codeWith y bytes maxL ret hh ∈ ws := by rw [hw]; exact List.mem_cons_self
  refine ⟨⟨hrc, hrs, hR.1, hR.2, pay_in ht hG, hc⟩, ht _ (hG _ hc).1, ok _ (by simp [wsV]), ⟨hd.1, hd.2.1⟩, fun sig h => ?_, ok _ (by simp [wsV]), ok _ (by simp [wsV]), ok _ (by simp [wsV])⟩
  have h2 := hd.2.2
  rw [h] at h2
  exact (Option.some.inj h2).symm
theorem vx_runVW {y : MethodName} {bytes cc : ByteArray} {maxL nL mc ms n index : Nat} {ret : Option FieldType} {hh : List (Nat × Nat × Nat × Nat)} {ws : List Cond} {rm : Room} {Pc : Array Value → State → Prop} {Qc : Array Value → State → Outcome → State → Prop} {free : Addr → Prop} {Ts : List Cond} {own C : String} {b : Addr} {As rest : List Value} {g : JFrame}
    (S : CallFix p m c cc nL s args Ts own) (hM : Met l y ws rm Pc Qc mc ms free) (cw : vx_CVW R s args own C index y bytes maxL ret hh ws rm mc ms n) (hp : PreV s H C b Pc As)
    (hg : g.method = m) (hn : As.length = n) (hsize : g.locals.size = nL) (hstack : g.stack = As.reverse ++ .ref b :: rest) (hW : 2 * g.monitorRoom + (rest.map fun v => v.category).sum ≤ 8) (hdg : decode cc g.pc = .ok (.invokevirtual index, 3)) (hf : cells + mc ≤ R.cells ∧ slots + ms ≤ R.slots) :
    va_Run p l e R s m args below meth c H locs cells slots mc ms g rest (Qc (Value.ref b :: As).toArray) free := by
  obtain ⟨⟨hrc, hrs, hfr, hlo, hws, hcw⟩, hcode, hini, hy, hlen, hl, hin, hse⟩ := cw
  have hK : Back l R p e below s args y 3 8 (PreOf R mc ms Pc) (PostOf Qc mc ms free) := va_backW (hh := hh) (bytes := bytes) (maxL := maxL) (ret := ret) hM hp.1 hrc hrs hfr hlo hws hcw (fun a' U hW => word_at hW (Or.inl (by first | rfl | simp [Cond.onTables, Cond.keeps, Cond.steady])) hini)
  obtain ⟨hx, hb, hml, ho, -⟩ := S
  obtain ⟨-, ⟨cellB, hcB, hoB, hclB⟩, hPc⟩ := hp
  intro T hT X
  obtain ⟨v, vm₁, ⟨U', l2, c2, s2⟩, hW₁, X', ⟨g', mk, t, L, e1, e2, hq, h1, hL, h2, h3⟩, st⟩ := vx_callVW X hx (C := C) (hh := hh) (bytes := bytes) (maxL := maxL) (ret := ret) ho hl hin hse hcode hy hK (by rw [hT]; exact hcB) hoB hclB hg (hsize.trans hml.symm) (argsL := As) (rest := rest) (fun sig h => hn.trans (hlen sig h)) hstack hW (by rw [hb]; exact hdg)
    (fun vm₁ hW₁ => ⟨hf.1, hf.2, hPc (T.setVm vm₁) hT hW₁⟩)
  dsimp only [Pt.U, Pt.locs, Pt.cells, Pt.slots] at X' e1 e2 h1 h2 h3 st
  subst h1; subst h2; subst h3
  exact ⟨v, (T.setVm vm₁).calling g' mk (Value.ref b :: As).toArray, t, U', L, hT, X', hL, e1, e2, hq, st⟩
section
variable {y : MethodName} {bytes cc : ByteArray} {maxL nL mc ms n index : Nat} {ret : Option FieldType} {ws : List Cond} {rm : Room} {Pc : Array Value → State → Prop} {Qc : Array Value → State → Outcome → State → Prop} {XC : String → State → State → Prop} {free : Addr → Prop} {Ts : List Cond} {own C : String} {b : Addr} {As rest : List Value} {g : JFrame}
theorem vx_runVX {hh : List (Nat × Nat × Nat × Nat)} (S : CallFix p m c cc nL s args Ts own) (hM : vx_Met l y ws rm Pc Qc XC mc ms free) (cw : vx_CVW R s args own C index y bytes maxL ret hh ws rm mc ms n) (hp : PreV s H C b Pc As)
    (hg : g.method = m) (hn : As.length = n) (hsize : g.locals.size = nL) (hstack : g.stack = As.reverse ++ .ref b :: rest) (hW : 2 * g.monitorRoom + (rest.map fun v => v.category).sum ≤ 8) (hdg : decode cc g.pc = .ok (.invokevirtual index, 3)) (hf : cells + mc ≤ R.cells ∧ slots + ms ≤ R.slots) :
    vx_Run p l e R s m args below meth c H locs cells slots mc ms g rest (Qc (Value.ref b :: As).toArray) XC free := by
  obtain ⟨⟨hrc, hrs, hfr, hlo, hws, hcw⟩, hcode, hini, hy, hlen, hl, hin, hse⟩ := cw
  have hK : vx_Back l R p e below s args y 3 8 (PreOf R mc ms Pc) (PostOf Qc mc ms free) (vx_Post XC mc ms free) := vx_backW (hh := hh) (bytes := bytes) (maxL := maxL) (ret := ret) hM hp.1 hrc hrs hfr hlo hws hcw (fun a' U hW => word_at hW (Or.inl (by first | rfl | simp [Cond.onTables, Cond.keeps, Cond.steady])) hini)
  obtain ⟨hx, hb, hml, ho, -⟩ := S
  obtain ⟨-, ⟨cellB, hcB, hoB, hclB⟩, hPc⟩ := hp
  intro T hT X
  rcases vx_callVX X hx (C := C) (hh := hh) (bytes := bytes) (maxL := maxL) (ret := ret) ho hl hin hse hcode hy hK (by rw [hT]; exact hcB) hoB hclB hg (hsize.trans hml.symm) (argsL := As) (rest := rest) (fun sig h => hn.trans (hlen sig h)) hstack hW (by rw [hb]; exact hdg)
    (fun vm₁ hW₁ => ⟨hf.1, hf.2, hPc (T.setVm vm₁) hT hW₁⟩) with ⟨v, vm₁, ⟨U', l2, c2, s2⟩, hW₁, X', ⟨g', mk, t, L, e1, e2, hq, h1, hL, h2, h3⟩, st⟩ | ⟨q, vm₁, ⟨U', l2, c2, s2⟩, hW₁, X', ⟨g', mk, t, L, E, ce, e1, e2, hq, hce, hcv, hcl, h1, hL, h2, h3⟩, st⟩
  · dsimp only [Pt.U, Pt.locs, Pt.cells, Pt.slots] at X' e1 e2 h1 h2 h3 st
    subst h1; subst h2; subst h3
    exact Or.inl ⟨v, (T.setVm vm₁).calling g' mk (Value.ref b :: As).toArray, t, U', L, hT, X', hL, e1, e2, hq, st⟩
  · dsimp only [Pt.U, Pt.locs, Pt.cells, Pt.slots] at X' e1 e2 h1 h2 h3 st hcl
    subst h1; subst h2; subst h3
    exact Or.inr ⟨q, (T.setVm vm₁).calling g' mk (Value.ref b :: As).toArray, t, U', L, E, ce, hT, X', hL, e1, e2, hq, hce, hcv, vx_cls hW₁ hcl, st⟩
theorem vx_runSX {hh : List (Nat × Nat × Nat × Nat)} (S : CallFix p m c cc nL s args Ts own) (hM : vx_Met l y ws rm Pc Qc XC mc ms free) (cw : vx_CSW R s args own index y bytes maxL ret hh ws rm mc ms n) (hp : PreS s H Pc As)
    (hg : g.method = m) (hn : As.length = n) (hsize : g.locals.size = nL) (hstack : g.stack = As.reverse ++ rest) (hW : 2 * g.monitorRoom + (rest.map fun v => v.category).sum ≤ 8) (hdg : decode cc g.pc = .ok (.invokestatic index, 3)) (hf : cells + mc ≤ R.cells ∧ slots + ms ≤ R.slots) :
    vx_Run p l e R s m args below meth c H locs cells slots mc ms g rest (Qc As.toArray) XC free := by
  obtain ⟨⟨hrc, hrs, hfr, hlo, hws, hcw⟩, hcode, hini, hy, hlen, hl, hstt⟩ := cw
  have hK : vx_Back l R p e below s args y 3 8 (PreOf R mc ms Pc) (PostOf Qc mc ms free) (vx_Post XC mc ms free) := vx_backW (hh := hh) (bytes := bytes) (maxL := maxL) (ret := ret) hM hp.1 hrc hrs hfr hlo hws hcw (fun a' U hW => word_at hW (Or.inl (by first | rfl | simp [Cond.onTables, Cond.keeps, Cond.steady])) hini)
  obtain ⟨hx, hb, hml, ho, -⟩ := S
  intro T hT X
  rcases vx_callSX X hx (hh := hh) (bytes := bytes) (maxL := maxL) (ret := ret) ho hl hstt hini hcode hy hK hg (hsize.trans hml.symm) (argsL := As) (rest := rest) (fun sig h => hn.trans (hlen sig h)) hstack hW (by rw [hb]; exact hdg)
    (fun vm₁ hW₁ => ⟨hf.1, hf.2, hp.2 (T.setVm vm₁) hT hW₁⟩) with ⟨v, vm₁, ⟨U', l2, c2, s2⟩, hW₁, X', ⟨g', mk, t, L, e1, e2, hq, h1, hL, h2, h3⟩, st⟩ | ⟨q, vm₁, ⟨U', l2, c2, s2⟩, hW₁, X', ⟨g', mk, t, L, E, ce, e1, e2, hq, hce, hcv, hcl, h1, hL, h2, h3⟩, st⟩
  · dsimp only [Pt.U, Pt.locs, Pt.cells, Pt.slots] at X' e1 e2 h1 h2 h3 st
    subst h1; subst h2; subst h3
    exact Or.inl ⟨v, (T.setVm vm₁).calling g' mk As.toArray, t, U', L, hT, X', hL, e1, e2, hq, st⟩
  · dsimp only [Pt.U, Pt.locs, Pt.cells, Pt.slots] at X' e1 e2 h1 h2 h3 st hcl
    subst h1; subst h2; subst h3
    exact Or.inr ⟨q, (T.setVm vm₁).calling g' mk As.toArray, t, U', L, E, ce, hT, X', hL, e1, e2, hq, hce, hcv, vx_cls hW₁ hcl, st⟩
end
end VXH
theorem vx_ofWH {l : Launch} {y : MethodName} {ws ws' : List Cond} {rm : Room} {Pc : Array Value → State → Prop} {Qc : Array Value → State → Outcome → State → Prop} {XC : String → State → State → Prop} {mc ms : Nat} {free : Addr → Prop} {cc : ByteArray} {maxL : Nat} {ret : Option FieldType} {hh : List (Nat × Nat × Nat × Nat)}
    (hy : plainName y.cls = true) (hw : ws = Cond.codeWith y cc maxL ret hh :: ws')
    (body : ∀ p e s m args below meth c s₁, BodyLoose p l y (headSpec ws rm) cc maxL ret e s m args below meth c s₁ → c.maxLocals = maxL → Pc args s →
      W p l e (headSpec ws rm).room s m args below meth c s.heap [] 0 0 (vx_MQ below Qc XC args s mc ms free) (entryFrame m args maxL)) : vx_Met l y ws rm Pc Qc XC mc ms free := by
  refine MetFree.of_bodyS (code := cc) (maxLocals := maxL) (ret := ret) hy ?_ ?_
  · intro args s m h hn
    obtain ⟨m9, meth, c, hn9, h1, h2, h3, h4, -, h5, h6, -⟩ := Cond.codeWith_spec (atoms_spec (ws := ws) h _ (by rw [hw]; exact List.mem_cons_self))
    cases hn.symm.trans hn9
    exact ⟨meth, c, h1, h2, h3, h4, h5, h6⟩
  · intro p e s m args below meth c s₁ B hml hP _
    have hh0 : s₁.heap = s.heap := by rw [B.state]; rfl
    obtain ⟨t, a1, o, b1, b2, b3⟩ := body p e s m args below meth c s₁ B hml hP s₁ hh0 (Stand.of_body B)
    exact ⟨t, o, a1, b1, b2, b3⟩
/-! ===== END ===== -/
end
section
/-! ===== BEGIN printed: names, fields, word lists, decode rows ===== -/
def RX0 : String := "Gridpeer$TradeBook"
def TX0 : u_T := fun k => match k with
  | 0 => ("Gridpeer$TradeBook", "sellers", "[I", true)
  | 1 => ("Gridpeer$TradeBook", "buyers", "[I", true)
  | 2 => ("Gridpeer$TradeBook", "units", "[I", true)
  | 3 => ("Gridpeer$TradeBook", "cuts", "[I", true)
  | 4 => ("Gridpeer$TradeBook", "prices", "[I", true)
  | _ => ("Gridpeer$TradeBook", "count", "I", false)
def tyX0 : Nat → FieldType := fun k => match k with
  | 0 => .array .int
  | 1 => .array .int
  | 2 => .array .int
  | 3 => .array .int
  | 4 => .array .int
  | _ => .int
abbrev wsX00 : List Cond := u_ws RX0 TX0 6
theorem nmX0 : ∀ a, a < 6 → ∀ b, b < 6 → a ≠ b → (TX0 a).2.1 ≠ (TX0 b).2.1 := by decide +kernel
theorem tyX0_ok : ∀ k, k < 6 → parseFieldDescriptor (TX0 k).2.2.1 = some (tyX0 k) := by decide +kernel
abbrev cX0_init : ByteArray := prog_2_method_1_code
def yX0_init : MethodName := ⟨RX0, "<init>", "()V"⟩
abbrev cX0_empty : ByteArray := prog_2_method_2_code
def yX0_empty : MethodName := ⟨RX0, "empty", "()V"⟩
abbrev cX0_add : ByteArray := prog_2_method_3_code
def yX0_add : MethodName := ⟨RX0, "add", "(IIII)V"⟩
abbrev cX0_flowOver : ByteArray := prog_2_method_4_code
def yX0_flowOver : MethodName := ⟨RX0, "flowOver", "(I)I"⟩
abbrev cX0_cutOver : ByteArray := prog_2_method_5_code
def yX0_cutOver : MethodName := ⟨RX0, "cutOver", "(II)Z"⟩
abbrev cX0_direction : ByteArray := prog_2_method_6_code
def yX0_direction : MethodName := ⟨RX0, "direction", "(III)I"⟩
def RX1 : String := "Gridpeer"
def TX1 : u_T := fun k => match k with
  | 0 => ("Gridpeer", "members", "[Z", true)
  | 1 => ("Gridpeer", "forecasts", "[I", true)
  | 2 => ("Gridpeer", "meters", "[I", true)
  | 3 => ("Gridpeer", "prices", "[I", true)
  | 4 => ("Gridpeer", "parts", "[I", true)
  | 5 => ("Gridpeer", "stores", "[I", true)
  | 6 => ("Gridpeer", "bills", "[I", true)
  | 7 => ("Gridpeer", "lefts", "[I", true)
  | 8 => ("Gridpeer", "limits", "[I", true)
  | 9 => ("Gridpeer", "flows", "[I", true)
  | 10 => ("Gridpeer", "ways", "[I", true)
  | 11 => ("Gridpeer", "book", "LGridpeer$TradeBook;", true)
  | 12 => ("Gridpeer", "sells", "I", false)
  | 13 => ("Gridpeer", "buys", "I", false)
  | 14 => ("Gridpeer", "pool", "I", false)
  | 15 => ("Gridpeer", "supplied", "I", false)
  | _ => ("Gridpeer", "quarter", "I", false)
def tyX1 : Nat → FieldType := fun k => match k with
  | 0 => .array .boolean
  | 1 => .array .int
  | 2 => .array .int
  | 3 => .array .int
  | 4 => .array .int
  | 5 => .array .int
  | 6 => .array .int
  | 7 => .array .int
  | 8 => .array .int
  | 9 => .array .int
  | 10 => .array .int
  | 11 => .object "Gridpeer$TradeBook"
  | 12 => .int
  | 13 => .int
  | 14 => .int
  | 15 => .int
  | _ => .int
abbrev wsX10 : List Cond := u_ws RX1 TX1 17
theorem nmX1 : ∀ a, a < 17 → ∀ b, b < 17 → a ≠ b → (TX1 a).2.1 ≠ (TX1 b).2.1 := by decide +kernel
theorem tyX1_ok : ∀ k, k < 17 → parseFieldDescriptor (TX1 k).2.2.1 = some (tyX1 k) := by decide +kernel
abbrev cX1_init : ByteArray := prog_1_method_1_code
def yX1_init : MethodName := ⟨RX1, "<init>", "()V"⟩
abbrev cX1_forecast : ByteArray := prog_1_method_2_code
def yX1_forecast : MethodName := ⟨RX1, "forecast", "(II)I"⟩
abbrev cX1_meter : ByteArray := prog_1_method_3_code
def yX1_meter : MethodName := ⟨RX1, "meter", "(II)I"⟩
abbrev cX1_setPrice : ByteArray := prog_1_method_4_code
def yX1_setPrice : MethodName := ⟨RX1, "setPrice", "(II)I"⟩
abbrev cX1_setLimit : ByteArray := prog_1_method_5_code
def yX1_setLimit : MethodName := ⟨RX1, "setLimit", "(II)I"⟩
abbrev cX1_setSupplier : ByteArray := prog_1_method_6_code
def yX1_setSupplier : MethodName := ⟨RX1, "setSupplier", "(II)V"⟩
abbrev cX1_rent : ByteArray := prog_1_method_7_code
def yX1_rent : MethodName := ⟨RX1, "rent", "(III)I"⟩
abbrev cX1_leave : ByteArray := prog_1_method_8_code
def yX1_leave : MethodName := ⟨RX1, "leave", "(I)I"⟩
abbrev cX1_clear : ByteArray := prog_1_method_9_code
def yX1_clear : MethodName := ⟨RX1, "clear", "()I"⟩
abbrev cX1_quarter : ByteArray := prog_1_method_10_code
def yX1_quarter : MethodName := ⟨RX1, "quarter", "()I"⟩
abbrev cX1_mostTradable : ByteArray := prog_1_method_11_code
def yX1_mostTradable : MethodName := ⟨RX1, "mostTradable", "()I"⟩
abbrev cX1_trades : ByteArray := prog_1_method_12_code
def yX1_trades : MethodName := ⟨RX1, "trades", "()I"⟩
abbrev cX1_ofTrade : ByteArray := prog_1_method_13_code
def yX1_ofTrade : MethodName := ⟨RX1, "ofTrade", "(II)I"⟩
abbrev cX1_went : ByteArray := prog_1_method_14_code
def yX1_went : MethodName := ⟨RX1, "went", "(I)I"⟩
abbrev cX1_flow : ByteArray := prog_1_method_15_code
def yX1_flow : MethodName := ⟨RX1, "flow", "(I)I"⟩
abbrev cX1_isMember : ByteArray := prog_1_method_16_code
def yX1_isMember : MethodName := ⟨RX1, "isMember", "(I)Z"⟩
abbrev cX1_stored : ByteArray := prog_1_method_17_code
def yX1_stored : MethodName := ⟨RX1, "stored", "(I)I"⟩
abbrev cX1_part : ByteArray := prog_1_method_18_code
def yX1_part : MethodName := ⟨RX1, "part", "(I)I"⟩
abbrev cX1_bill : ByteArray := prog_1_method_19_code
def yX1_bill : MethodName := ⟨RX1, "bill", "(I)I"⟩
abbrev cX1_pool : ByteArray := prog_1_method_20_code
def yX1_pool : MethodName := ⟨RX1, "pool", "()I"⟩
abbrev cX1_supplied : ByteArray := prog_1_method_21_code
def yX1_supplied : MethodName := ⟨RX1, "supplied", "()I"⟩
abbrev cX1_checkHouse : ByteArray := prog_1_method_22_code
def yX1_checkHouse : MethodName := ⟨RX1, "checkHouse", "(I)V"⟩
abbrev cX1_checkStretch : ByteArray := prog_1_method_23_code
def yX1_checkStretch : MethodName := ⟨RX1, "checkStretch", "(I)V"⟩
abbrev cX1_checkRange : ByteArray := prog_1_method_24_code
def yX1_checkRange : MethodName := ⟨RX1, "checkRange", "(III)V"⟩
abbrev cX1_checkMember : ByteArray := prog_1_method_25_code
def yX1_checkMember : MethodName := ⟨RX1, "checkMember", "(I)V"⟩
abbrev cX1_beginClearing : ByteArray := prog_1_method_26_code
def yX1_beginClearing : MethodName := ⟨RX1, "beginClearing", "()V"⟩
abbrev cX1_beginNextQuarter : ByteArray := prog_1_method_27_code
def yX1_beginNextQuarter : MethodName := ⟨RX1, "beginNextQuarter", "()V"⟩
abbrev cX1_matchBuyers : ByteArray := prog_1_method_28_code
def yX1_matchBuyers : MethodName := ⟨RX1, "matchBuyers", "()V"⟩
abbrev cX1_rankOf : ByteArray := prog_1_method_29_code
def yX1_rankOf : MethodName := ⟨RX1, "rankOf", "(I)I"⟩
abbrev cX1_serveBuyer : ByteArray := prog_1_method_30_code
def yX1_serveBuyer : MethodName := ⟨RX1, "serveBuyer", "(I)V"⟩
abbrev cX1_bestSeller : ByteArray := prog_1_method_31_code
def yX1_bestSeller : MethodName := ⟨RX1, "bestSeller", "(I)I"⟩
abbrev cX1_isBetterSeller : ByteArray := prog_1_method_32_code
def yX1_isBetterSeller : MethodName := ⟨RX1, "isBetterSeller", "(III)Z"⟩
abbrev cX1_cutOverLimits : ByteArray := prog_1_method_33_code
def yX1_cutOverLimits : MethodName := ⟨RX1, "cutOverLimits", "()V"⟩
abbrev cX1_countTrades : ByteArray := prog_1_method_34_code
def yX1_countTrades : MethodName := ⟨RX1, "countTrades", "()V"⟩
abbrev cX1_settleTrades : ByteArray := prog_1_method_35_code
def yX1_settleTrades : MethodName := ⟨RX1, "settleTrades", "(I)V"⟩
abbrev cX1_useBattery : ByteArray := prog_1_method_36_code
def yX1_useBattery : MethodName := ⟨RX1, "useBattery", "(I)V"⟩
abbrev cX1_putIn : ByteArray := prog_1_method_37_code
def yX1_putIn : MethodName := ⟨RX1, "putIn", "(II)V"⟩
abbrev cX1_takeOut : ByteArray := prog_1_method_38_code
def yX1_takeOut : MethodName := ⟨RX1, "takeOut", "(II)V"⟩
abbrev cX1_settleWithSupplier : ByteArray := prog_1_method_39_code
def yX1_settleWithSupplier : MethodName := ⟨RX1, "settleWithSupplier", "(I)V"⟩
abbrev cX1_payPool : ByteArray := prog_1_method_40_code
def yX1_payPool : MethodName := ⟨RX1, "payPool", "(II)V"⟩
abbrev cX1_boundBySet : ByteArray := prog_1_method_41_code
def yX1_boundBySet : MethodName := ⟨RX1, "boundBySet", "(I)I"⟩
abbrev cX1_sellsToSet : ByteArray := prog_1_method_42_code
def yX1_sellsToSet : MethodName := ⟨RX1, "sellsToSet", "(II)Z"⟩
abbrev cX1_isInSet : ByteArray := prog_1_method_43_code
def yX1_isInSet : MethodName := ⟨RX1, "isInSet", "(II)Z"⟩
def RX2 : String := "GridpeerModel"
def TX2 : u_T := fun k => match k with
  | 0 => ("GridpeerModel", "forecasts", "[I", true)
  | 1 => ("GridpeerModel", "meters", "[I", true)
  | 2 => ("GridpeerModel", "prices", "[I", true)
  | 3 => ("GridpeerModel", "limits", "[I", true)
  | 4 => ("GridpeerModel", "parts", "[I", true)
  | 5 => ("GridpeerModel", "stores", "[I", true)
  | 6 => ("GridpeerModel", "bills", "[I", true)
  | 7 => ("GridpeerModel", "gone", "[Z", true)
  | 8 => ("GridpeerModel", "sells", "I", false)
  | 9 => ("GridpeerModel", "buys", "I", false)
  | 10 => ("GridpeerModel", "pool", "I", false)
  | 11 => ("GridpeerModel", "supplied", "I", false)
  | 12 => ("GridpeerModel", "quarter", "I", false)
  | 13 => ("GridpeerModel", "sellers", "[I", true)
  | 14 => ("GridpeerModel", "buyers", "[I", true)
  | 15 => ("GridpeerModel", "units", "[I", true)
  | 16 => ("GridpeerModel", "costs", "[I", true)
  | 17 => ("GridpeerModel", "trades", "I", false)
  | 18 => ("GridpeerModel", "went", "[I", true)
  | 19 => ("GridpeerModel", "flows", "[I", true)
  | 20 => ("GridpeerModel", "left", "[I", true)
  | _ => ("GridpeerModel", "last", "I", false)
def tyX2 : Nat → FieldType := fun k => match k with
  | 0 => .array .int
  | 1 => .array .int
  | 2 => .array .int
  | 3 => .array .int
  | 4 => .array .int
  | 5 => .array .int
  | 6 => .array .int
  | 7 => .array .boolean
  | 8 => .int
  | 9 => .int
  | 10 => .int
  | 11 => .int
  | 12 => .int
  | 13 => .array .int
  | 14 => .array .int
  | 15 => .array .int
  | 16 => .array .int
  | 17 => .int
  | 18 => .array .int
  | 19 => .array .int
  | 20 => .array .int
  | _ => .int
abbrev wsX20 : List Cond := u_ws RX2 TX2 22
theorem nmX2 : ∀ a, a < 22 → ∀ b, b < 22 → a ≠ b → (TX2 a).2.1 ≠ (TX2 b).2.1 := by decide +kernel
theorem tyX2_ok : ∀ k, k < 22 → parseFieldDescriptor (TX2 k).2.2.1 = some (tyX2 k) := by decide +kernel
abbrev cX2_init : ByteArray := prog_4_method_1_code
def yX2_init : MethodName := ⟨RX2, "<init>", "()V"⟩
abbrev cX2_thrown : ByteArray := prog_4_method_2_code
def yX2_thrown : MethodName := ⟨RX2, "thrown", "()I"⟩
abbrev cX2_in : ByteArray := prog_4_method_3_code
def yX2_in : MethodName := ⟨RX2, "in", "(III)Z"⟩
abbrev cX2_goes : ByteArray := prog_4_method_4_code
def yX2_goes : MethodName := ⟨RX2, "goes", "(ZZZ)Z"⟩
abbrev cX2_isHouse : ByteArray := prog_4_method_5_code
def yX2_isHouse : MethodName := ⟨RX2, "isHouse", "(I)Z"⟩
abbrev cX2_belongs : ByteArray := prog_4_method_6_code
def yX2_belongs : MethodName := ⟨RX2, "belongs", "(I)Z"⟩
abbrev cX2_lesser : ByteArray := prog_4_method_7_code
def yX2_lesser : MethodName := ⟨RX2, "lesser", "(II)I"⟩
abbrev cX2_size : ByteArray := prog_4_method_8_code
def yX2_size : MethodName := ⟨RX2, "size", "(I)I"⟩
abbrev cX2_forecast : ByteArray := prog_4_method_9_code
def yX2_forecast : MethodName := ⟨RX2, "forecast", "(II)I"⟩
abbrev cX2_meter : ByteArray := prog_4_method_10_code
def yX2_meter : MethodName := ⟨RX2, "meter", "(II)I"⟩
abbrev cX2_setPrice : ByteArray := prog_4_method_11_code
def yX2_setPrice : MethodName := ⟨RX2, "setPrice", "(II)I"⟩
abbrev cX2_setLimit : ByteArray := prog_4_method_12_code
def yX2_setLimit : MethodName := ⟨RX2, "setLimit", "(II)I"⟩
abbrev cX2_setSupplier : ByteArray := prog_4_method_13_code
def yX2_setSupplier : MethodName := ⟨RX2, "setSupplier", "(II)V"⟩
abbrev cX2_rent : ByteArray := prog_4_method_14_code
def yX2_rent : MethodName := ⟨RX2, "rent", "(III)I"⟩
abbrev cX2_leave : ByteArray := prog_4_method_15_code
def yX2_leave : MethodName := ⟨RX2, "leave", "(I)I"⟩
abbrev cX2_isBuyer : ByteArray := prog_4_method_16_code
def yX2_isBuyer : MethodName := ⟨RX2, "isBuyer", "(I)Z"⟩
abbrev cX2_isSeller : ByteArray := prog_4_method_17_code
def yX2_isSeller : MethodName := ⟨RX2, "isSeller", "(I)Z"⟩
abbrev cX2_turnOf : ByteArray := prog_4_method_18_code
def yX2_turnOf : MethodName := ⟨RX2, "turnOf", "(I)I"⟩
abbrev cX2_sellerFor : ByteArray := prog_4_method_19_code
def yX2_sellerFor : MethodName := ⟨RX2, "sellerFor", "(I)I"⟩
abbrev cX2_takes : ByteArray := prog_4_method_20_code
def yX2_takes : MethodName := ⟨RX2, "takes", "(I)V"⟩
abbrev cX2_over : ByteArray := prog_4_method_21_code
def yX2_over : MethodName := ⟨RX2, "over", "(II)I"⟩
abbrev cX2_flowOver : ByteArray := prog_4_method_22_code
def yX2_flowOver : MethodName := ⟨RX2, "flowOver", "(I)I"⟩
abbrev cX2_cuts : ByteArray := prog_4_method_23_code
def yX2_cuts : MethodName := ⟨RX2, "cuts", "(I)I"⟩
abbrev cX2_keeps : ByteArray := prog_4_method_24_code
def yX2_keeps : MethodName := ⟨RX2, "keeps", "(I)V"⟩
abbrev cX2_draws : ByteArray := prog_4_method_25_code
def yX2_draws : MethodName := ⟨RX2, "draws", "(I)V"⟩
abbrev cX2_clear : ByteArray := prog_4_method_26_code
def yX2_clear : MethodName := ⟨RX2, "clear", "()I"⟩
abbrev cX2_quarter : ByteArray := prog_4_method_27_code
def yX2_quarter : MethodName := ⟨RX2, "quarter", "()I"⟩
abbrev cX2_tradable : ByteArray := prog_4_method_28_code
def yX2_tradable : MethodName := ⟨RX2, "tradable", "(I)I"⟩
abbrev cX2_mostTradable : ByteArray := prog_4_method_29_code
def yX2_mostTradable : MethodName := ⟨RX2, "mostTradable", "()I"⟩
abbrev cX2_trades : ByteArray := prog_4_method_30_code
def yX2_trades : MethodName := ⟨RX2, "trades", "()I"⟩
abbrev cX2_ofTrade : ByteArray := prog_4_method_31_code
def yX2_ofTrade : MethodName := ⟨RX2, "ofTrade", "(II)I"⟩
abbrev cX2_went : ByteArray := prog_4_method_32_code
def yX2_went : MethodName := ⟨RX2, "went", "(I)I"⟩
abbrev cX2_flow : ByteArray := prog_4_method_33_code
def yX2_flow : MethodName := ⟨RX2, "flow", "(I)I"⟩
abbrev cX2_isMember : ByteArray := prog_4_method_34_code
def yX2_isMember : MethodName := ⟨RX2, "isMember", "(I)Z"⟩
abbrev cX2_stored : ByteArray := prog_4_method_35_code
def yX2_stored : MethodName := ⟨RX2, "stored", "(I)I"⟩
abbrev cX2_part : ByteArray := prog_4_method_36_code
def yX2_part : MethodName := ⟨RX2, "part", "(I)I"⟩
abbrev cX2_bill : ByteArray := prog_4_method_37_code
def yX2_bill : MethodName := ⟨RX2, "bill", "(I)I"⟩
abbrev cX2_pool : ByteArray := prog_4_method_38_code
def yX2_pool : MethodName := ⟨RX2, "pool", "()I"⟩
abbrev cX2_supplied : ByteArray := prog_4_method_39_code
def yX2_supplied : MethodName := ⟨RX2, "supplied", "()I"⟩
def RJ9 : String := "java/lang/Math"
def TJ9 : u_T := fun k => match k with
  | _ => ("", "", "", false)
def tyJ9 : Nat → FieldType := fun k => match k with
  | _ => .int
abbrev wsJ90 : List Cond := u_ws RJ9 TJ9 0
theorem nmJ9 : ∀ a, a < 0 → ∀ b, b < 0 → a ≠ b → (TJ9 a).2.1 ≠ (TJ9 b).2.1 := by decide +kernel
theorem tyJ9_ok : ∀ k, k < 0 → parseFieldDescriptor (TJ9 k).2.2.1 = some (tyJ9 k) := by decide +kernel
abbrev cJ9_abs_0f7a4 : ByteArray := prog_9_method_59_code
def yJ9_abs_0f7a4 : MethodName := ⟨RJ9, "abs", "(I)I"⟩
abbrev cJ9_max_7cf53 : ByteArray := prog_9_method_65_code
def yJ9_max_7cf53 : MethodName := ⟨RJ9, "max", "(II)I"⟩
abbrev cJ9_min_7cf53 : ByteArray := prog_9_method_69_code
def yJ9_min_7cf53 : MethodName := ⟨RJ9, "min", "(II)I"⟩
def RJ0 : String := "java/lang/String"
def TJ0 : u_T := fun k => match k with
  | _ => ("", "", "", false)
def tyJ0 : Nat → FieldType := fun k => match k with
  | _ => .int
abbrev wsJ00 : List Cond := u_ws RJ0 TJ0 0
theorem nmJ0 : ∀ a, a < 0 → ∀ b, b < 0 → a ≠ b → (TJ0 a).2.1 ≠ (TJ0 b).2.1 := by decide +kernel
theorem tyJ0_ok : ∀ k, k < 0 → parseFieldDescriptor (TJ0 k).2.2.1 = some (tyJ0 k) := by decide +kernel
def RL : String := "GridpeerLaw"
abbrev cL_forecast : ByteArray := method_3_code
def yL_forecast : MethodName := ⟨RL, "forecast", "(LGridpeer;II[J)I"⟩
abbrev cL_meter : ByteArray := method_4_code
def yL_meter : MethodName := ⟨RL, "meter", "(LGridpeer;II[J)I"⟩
abbrev cL_setPrice : ByteArray := method_5_code
def yL_setPrice : MethodName := ⟨RL, "setPrice", "(LGridpeer;II[J)I"⟩
abbrev cL_setLimit : ByteArray := method_6_code
def yL_setLimit : MethodName := ⟨RL, "setLimit", "(LGridpeer;II[J)I"⟩
abbrev cL_setSupplier : ByteArray := method_7_code
def yL_setSupplier : MethodName := ⟨RL, "setSupplier", "(LGridpeer;II)I"⟩
abbrev cL_rent : ByteArray := method_8_code
def yL_rent : MethodName := ⟨RL, "rent", "(LGridpeer;III[J)I"⟩
abbrev cL_leave : ByteArray := method_9_code
def yL_leave : MethodName := ⟨RL, "leave", "(LGridpeer;I[J)I"⟩
abbrev cL_clear : ByteArray := method_10_code
def yL_clear : MethodName := ⟨RL, "clear", "(LGridpeer;[J)I"⟩
abbrev cL_ofTrade : ByteArray := method_11_code
def yL_ofTrade : MethodName := ⟨RL, "ofTrade", "(LGridpeer;II[J)I"⟩
abbrev cL_went : ByteArray := method_12_code
def yL_went : MethodName := ⟨RL, "went", "(LGridpeer;I[J)I"⟩
abbrev cL_flow : ByteArray := method_13_code
def yL_flow : MethodName := ⟨RL, "flow", "(LGridpeer;I[J)I"⟩
abbrev cL_isMember : ByteArray := method_14_code
def yL_isMember : MethodName := ⟨RL, "isMember", "(LGridpeer;I[J)I"⟩
abbrev cL_stored : ByteArray := method_15_code
def yL_stored : MethodName := ⟨RL, "stored", "(LGridpeer;I[J)I"⟩
abbrev cL_part : ByteArray := method_16_code
def yL_part : MethodName := ⟨RL, "part", "(LGridpeer;I[J)I"⟩
abbrev cL_bill : ByteArray := method_17_code
def yL_bill : MethodName := ⟨RL, "bill", "(LGridpeer;I[J)I"⟩
abbrev cL_law : ByteArray := code
def yL_law : MethodName := ⟨RL, "law", "([I)Z"⟩
def wsX0_init : List Cond := .code yX0_init cX0_init 1 none :: ([.methodLink RX0 3 objectInit, .instanceMethod objectInit, .code objectInit ⟨#[0xb1]⟩ 1 none, .arrayClass .int, .fieldLink RX0 9 "Gridpeer$TradeBook" "sellers" "[I", .fieldLink RX0 15 "Gridpeer$TradeBook" "buyers" "[I", .fieldLink RX0 18 "Gridpeer$TradeBook" "units" "[I", .fieldLink RX0 21 "Gridpeer$TradeBook" "cuts" "[I", .fieldLink RX0 24 "Gridpeer$TradeBook" "prices" "[I", .fieldLink RX0 27 "Gridpeer$TradeBook" "count" "I"] ++ wsX00)
def wsX0_empty : List Cond := .code yX0_empty cX0_empty 1 none :: ([.fieldLink RX0 27 "Gridpeer$TradeBook" "count" "I"] ++ wsX00)
def wsX0_add : List Cond := .code yX0_add cX0_add 5 none :: ([.fieldLink RX0 27 "Gridpeer$TradeBook" "count" "I", .fieldLink RX0 9 "Gridpeer$TradeBook" "sellers" "[I", .fieldLink RX0 15 "Gridpeer$TradeBook" "buyers" "[I", .fieldLink RX0 18 "Gridpeer$TradeBook" "units" "[I", .fieldLink RX0 21 "Gridpeer$TradeBook" "cuts" "[I", .fieldLink RX0 24 "Gridpeer$TradeBook" "prices" "[I"] ++ wsX00)
def wsX0_direction : List Cond := .code yX0_direction cX0_direction 3 (some .int) :: ([])
def wsX0_flowOver : List Cond := .code yX0_flowOver cX0_flowOver 4 (some .int) :: ([.fieldLink RX0 27 "Gridpeer$TradeBook" "count" "I", .fieldLink RX0 9 "Gridpeer$TradeBook" "sellers" "[I", .fieldLink RX0 15 "Gridpeer$TradeBook" "buyers" "[I", .fieldLink RX0 18 "Gridpeer$TradeBook" "units" "[I", .methodLink RX0 31 yX0_direction, .static yX0_direction, .initialized RX0, .code yX0_direction cX0_direction 3 (some .int)] ++ wsX00)
def wsX0_cutOver : List Cond := .code yX0_cutOver cX0_cutOver 8 (some .boolean) :: ([.methodLink RX0 39 Lib.Math.abs.name, .static Lib.Math.abs.name, .initialized "java/lang/Math", .code Lib.Math.abs.name Lib.Math.abs.code 1 (some .int), .fieldLink RX0 27 "Gridpeer$TradeBook" "count" "I", .fieldLink RX0 9 "Gridpeer$TradeBook" "sellers" "[I", .fieldLink RX0 15 "Gridpeer$TradeBook" "buyers" "[I", .fieldLink RX0 18 "Gridpeer$TradeBook" "units" "[I", .methodLink RX0 44 Lib.Math.min.name, .static Lib.Math.min.name, .code Lib.Math.min.name Lib.Math.min.code 2 (some .int), .fieldLink RX0 21 "Gridpeer$TradeBook" "cuts" "[I", .methodLink RX0 35 yX0_flowOver, .instanceMethod yX0_flowOver, .selects RX0 yX0_flowOver yX0_flowOver, .initialized RX0, .code yX0_flowOver cX0_flowOver 4 (some .int), .methodLink RX0 31 yX0_direction, .static yX0_direction, .code yX0_direction cX0_direction 3 (some .int)] ++ wsX00)
def wsX1_init_r1 : List Cond := [Cond.methodLink RX1 3 objectInit, Cond.instanceMethod objectInit, Cond.code objectInit ⟨#[0xb1]⟩ 1 none, Cond.arrayClass .boolean, Cond.fieldLink RX1 9 "Gridpeer" "members" "[Z", Cond.arrayClass .int, Cond.fieldLink RX1 13 "Gridpeer" "forecasts" "[I", Cond.fieldLink RX1 17 "Gridpeer" "meters" "[I", Cond.fieldLink RX1 20 "Gridpeer" "prices" "[I", Cond.fieldLink RX1 23 "Gridpeer" "parts" "[I", Cond.fieldLink RX1 26 "Gridpeer" "stores" "[I", Cond.fieldLink RX1 29 "Gridpeer" "bills" "[I", Cond.fieldLink RX1 32 "Gridpeer" "lefts" "[I", Cond.fieldLink RX1 35 "Gridpeer" "limits" "[I", Cond.fieldLink RX1 38 "Gridpeer" "flows" "[I", Cond.fieldLink RX1 41 "Gridpeer" "ways" "[I", Cond.classLink RX1 44 RX0, Cond.instantiable RX0 6, Cond.initialized RX0, Cond.fieldLink RX1 47 "Gridpeer" "book" "LGridpeer$TradeBook;", Cond.fieldLink RX1 51 "Gridpeer" "sells" "I", Cond.fieldLink RX1 55 "Gridpeer" "buys" "I", Cond.fieldLink RX1 58 "Gridpeer" "pool" "I", Cond.fieldLink RX1 61 "Gridpeer" "supplied" "I"]
def wsX1_init_r2 : List Cond := [Cond.fieldLink RX1 64 "Gridpeer" "quarter" "I", Cond.instanceMethod yX0_init, Cond.code yX0_init cX0_init 1 none, Cond.methodLink RX0 3 objectInit, Cond.fieldLink RX0 9 "Gridpeer$TradeBook" "sellers" "[I", Cond.fieldLink RX0 15 "Gridpeer$TradeBook" "buyers" "[I", Cond.fieldLink RX0 18 "Gridpeer$TradeBook" "units" "[I", Cond.fieldLink RX0 21 "Gridpeer$TradeBook" "cuts" "[I", Cond.fieldLink RX0 24 "Gridpeer$TradeBook" "prices" "[I", Cond.fieldLink RX0 27 "Gridpeer$TradeBook" "count" "I"]
def wsX1_init : List Cond := .code yX1_init cX1_init 2 none :: ((wsX1_init_r1 ++ wsX1_init_r2) ++ wsX10 ++ wsX00)
def wsX1_checkHouse : List Cond := .code yX1_checkHouse cX1_checkHouse 1 none :: ([.classLink RX1 139 "java/lang/IndexOutOfBoundsException", .initialized "java/lang/IndexOutOfBoundsException"] ++ (vx_atS RX1 143 "java/lang/IndexOutOfBoundsException" ["java/lang/RuntimeException", "java/lang/Exception"]).filter goodWord)
def wsX1_checkRange : List Cond := .code yX1_checkRange cX1_checkRange 3 none :: ([.classLink RX1 81 "java/lang/IllegalArgumentException", .initialized "java/lang/IllegalArgumentException"] ++ (vx_atS RX1 85 "java/lang/IllegalArgumentException" ["java/lang/RuntimeException", "java/lang/Exception"]).filter goodWord)
def wsX1_checkMember : List Cond := .code yX1_checkMember cX1_checkMember 2 none :: ([.classLink RX1 88 "java/lang/IllegalStateException", .initialized "java/lang/IllegalStateException", .fieldLink RX1 9 "Gridpeer" "members" "[Z"] ++ wsX10 ++ (vx_atS RX1 92 "java/lang/IllegalStateException" ["java/lang/RuntimeException", "java/lang/Exception"]).filter goodWord)
def wsX1_forecast : List Cond := .code yX1_forecast cX1_forecast 4 (some .int) :: ([.fieldLink RX1 13 "Gridpeer" "forecasts" "[I", .methodLink RX1 67 yX1_checkHouse, .static yX1_checkHouse, .initialized RX1, .code yX1_checkHouse cX1_checkHouse 1 none, .classLink RX1 139 "java/lang/IndexOutOfBoundsException", .initialized "java/lang/IndexOutOfBoundsException", .methodLink RX1 71 yX1_checkRange, .static yX1_checkRange, .code yX1_checkRange cX1_checkRange 3 none, .classLink RX1 81 "java/lang/IllegalArgumentException", .initialized "java/lang/IllegalArgumentException", .methodLink RX1 75 yX1_checkMember, .instanceMethod yX1_checkMember, .selects RX1 yX1_checkMember yX1_checkMember, .code yX1_checkMember cX1_checkMember 2 none, .classLink RX1 88 "java/lang/IllegalStateException", .initialized "java/lang/IllegalStateException", .fieldLink RX1 9 "Gridpeer" "members" "[Z"] ++ wsX10 ++ (vx_atS RX1 143 "java/lang/IndexOutOfBoundsException" ["java/lang/RuntimeException", "java/lang/Exception"]).filter goodWord ++ (vx_atS RX1 85 "java/lang/IllegalArgumentException" ["java/lang/RuntimeException", "java/lang/Exception"]).filter goodWord ++ (vx_atS RX1 92 "java/lang/IllegalStateException" ["java/lang/RuntimeException", "java/lang/Exception"]).filter goodWord)
def wsX1_meter : List Cond := .code yX1_meter cX1_meter 4 (some .int) :: ([.fieldLink RX1 17 "Gridpeer" "meters" "[I", .methodLink RX1 67 yX1_checkHouse, .static yX1_checkHouse, .initialized RX1, .code yX1_checkHouse cX1_checkHouse 1 none, .classLink RX1 139 "java/lang/IndexOutOfBoundsException", .initialized "java/lang/IndexOutOfBoundsException", .methodLink RX1 71 yX1_checkRange, .static yX1_checkRange, .code yX1_checkRange cX1_checkRange 3 none, .classLink RX1 81 "java/lang/IllegalArgumentException", .initialized "java/lang/IllegalArgumentException", .methodLink RX1 75 yX1_checkMember, .instanceMethod yX1_checkMember, .selects RX1 yX1_checkMember yX1_checkMember, .code yX1_checkMember cX1_checkMember 2 none, .classLink RX1 88 "java/lang/IllegalStateException", .initialized "java/lang/IllegalStateException", .fieldLink RX1 9 "Gridpeer" "members" "[Z"] ++ wsX10 ++ (vx_atS RX1 143 "java/lang/IndexOutOfBoundsException" ["java/lang/RuntimeException", "java/lang/Exception"]).filter goodWord ++ (vx_atS RX1 85 "java/lang/IllegalArgumentException" ["java/lang/RuntimeException", "java/lang/Exception"]).filter goodWord ++ (vx_atS RX1 92 "java/lang/IllegalStateException" ["java/lang/RuntimeException", "java/lang/Exception"]).filter goodWord)
def wsX1_setPrice : List Cond := .code yX1_setPrice cX1_setPrice 4 (some .int) :: ([.fieldLink RX1 20 "Gridpeer" "prices" "[I", .methodLink RX1 67 yX1_checkHouse, .static yX1_checkHouse, .initialized RX1, .code yX1_checkHouse cX1_checkHouse 1 none, .classLink RX1 139 "java/lang/IndexOutOfBoundsException", .initialized "java/lang/IndexOutOfBoundsException", .methodLink RX1 71 yX1_checkRange, .static yX1_checkRange, .code yX1_checkRange cX1_checkRange 3 none, .classLink RX1 81 "java/lang/IllegalArgumentException", .initialized "java/lang/IllegalArgumentException"] ++ wsX10 ++ (vx_atS RX1 143 "java/lang/IndexOutOfBoundsException" ["java/lang/RuntimeException", "java/lang/Exception"]).filter goodWord ++ (vx_atS RX1 85 "java/lang/IllegalArgumentException" ["java/lang/RuntimeException", "java/lang/Exception"]).filter goodWord)
def wsX1_checkStretch : List Cond := .code yX1_checkStretch cX1_checkStretch 1 none :: ([.classLink RX1 139 "java/lang/IndexOutOfBoundsException", .initialized "java/lang/IndexOutOfBoundsException"] ++ (vx_atS RX1 143 "java/lang/IndexOutOfBoundsException" ["java/lang/RuntimeException", "java/lang/Exception"]).filter goodWord)
def wsX1_setLimit : List Cond := .code yX1_setLimit cX1_setLimit 4 (some .int) :: ([.fieldLink RX1 35 "Gridpeer" "limits" "[I", .methodLink RX1 78 yX1_checkStretch, .static yX1_checkStretch, .initialized RX1, .code yX1_checkStretch cX1_checkStretch 1 none, .classLink RX1 139 "java/lang/IndexOutOfBoundsException", .initialized "java/lang/IndexOutOfBoundsException", .methodLink RX1 71 yX1_checkRange, .static yX1_checkRange, .code yX1_checkRange cX1_checkRange 3 none, .classLink RX1 81 "java/lang/IllegalArgumentException", .initialized "java/lang/IllegalArgumentException"] ++ wsX10 ++ (vx_atS RX1 143 "java/lang/IndexOutOfBoundsException" ["java/lang/RuntimeException", "java/lang/Exception"]).filter goodWord ++ (vx_atS RX1 85 "java/lang/IllegalArgumentException" ["java/lang/RuntimeException", "java/lang/Exception"]).filter goodWord)
def wsX1_setSupplier : List Cond := .code yX1_setSupplier cX1_setSupplier 3 none :: ([.fieldLink RX1 51 "Gridpeer" "sells" "I", .fieldLink RX1 55 "Gridpeer" "buys" "I", .methodLink RX1 71 yX1_checkRange, .static yX1_checkRange, .initialized RX1, .code yX1_checkRange cX1_checkRange 3 none, .classLink RX1 81 "java/lang/IllegalArgumentException", .initialized "java/lang/IllegalArgumentException"] ++ wsX10 ++ (vx_atS RX1 85 "java/lang/IllegalArgumentException" ["java/lang/RuntimeException", "java/lang/Exception"]).filter goodWord)
def wsX1_rent : List Cond := .code yX1_rent cX1_rent 4 (some .int) :: ([.classLink RX1 81 "java/lang/IllegalArgumentException", .initialized "java/lang/IllegalArgumentException", .classLink RX1 88 "java/lang/IllegalStateException", .initialized "java/lang/IllegalStateException", .fieldLink RX1 23 "Gridpeer" "parts" "[I", .fieldLink RX1 26 "Gridpeer" "stores" "[I", .methodLink RX1 67 yX1_checkHouse, .static yX1_checkHouse, .initialized RX1, .code yX1_checkHouse cX1_checkHouse 1 none, .classLink RX1 139 "java/lang/IndexOutOfBoundsException", .initialized "java/lang/IndexOutOfBoundsException", .methodLink RX1 71 yX1_checkRange, .static yX1_checkRange, .code yX1_checkRange cX1_checkRange 3 none, .methodLink RX1 75 yX1_checkMember, .instanceMethod yX1_checkMember, .selects RX1 yX1_checkMember yX1_checkMember, .code yX1_checkMember cX1_checkMember 2 none, .fieldLink RX1 9 "Gridpeer" "members" "[Z"] ++ wsX10 ++ (vx_atS RX1 85 "java/lang/IllegalArgumentException" ["java/lang/RuntimeException", "java/lang/Exception"]).filter goodWord ++ (vx_atS RX1 92 "java/lang/IllegalStateException" ["java/lang/RuntimeException", "java/lang/Exception"]).filter goodWord ++ (vx_atS RX1 143 "java/lang/IndexOutOfBoundsException" ["java/lang/RuntimeException", "java/lang/Exception"]).filter goodWord)
def wsX1_payPool : List Cond := .code yX1_payPool cX1_payPool 3 none :: ([.fieldLink RX1 29 "Gridpeer" "bills" "[I", .fieldLink RX1 58 "Gridpeer" "pool" "I"] ++ wsX10)
def wsX1_leave : List Cond := .code yX1_leave cX1_leave 3 (some .int) :: ([.fieldLink RX1 26 "Gridpeer" "stores" "[I", .fieldLink RX1 55 "Gridpeer" "buys" "I", .fieldLink RX1 9 "Gridpeer" "members" "[Z", .fieldLink RX1 13 "Gridpeer" "forecasts" "[I", .fieldLink RX1 17 "Gridpeer" "meters" "[I", .fieldLink RX1 23 "Gridpeer" "parts" "[I", .methodLink RX1 67 yX1_checkHouse, .static yX1_checkHouse, .initialized RX1, .code yX1_checkHouse cX1_checkHouse 1 none, .classLink RX1 139 "java/lang/IndexOutOfBoundsException", .initialized "java/lang/IndexOutOfBoundsException", .methodLink RX1 75 yX1_checkMember, .instanceMethod yX1_checkMember, .selects RX1 yX1_checkMember yX1_checkMember, .code yX1_checkMember cX1_checkMember 2 none, .classLink RX1 88 "java/lang/IllegalStateException", .initialized "java/lang/IllegalStateException", .methodLink RX1 93 yX1_payPool, .instanceMethod yX1_payPool, .selects RX1 yX1_payPool yX1_payPool, .code yX1_payPool cX1_payPool 3 none, .fieldLink RX1 29 "Gridpeer" "bills" "[I", .fieldLink RX1 58 "Gridpeer" "pool" "I"] ++ wsX10 ++ (vx_atS RX1 143 "java/lang/IndexOutOfBoundsException" ["java/lang/RuntimeException", "java/lang/Exception"]).filter goodWord ++ (vx_atS RX1 92 "java/lang/IllegalStateException" ["java/lang/RuntimeException", "java/lang/Exception"]).filter goodWord)
def wsX1_beginClearing : List Cond := .code yX1_beginClearing cX1_beginClearing 2 none :: ([.fieldLink RX1 47 "Gridpeer" "book" "LGridpeer$TradeBook;", .fieldLink RX1 41 "Gridpeer" "ways" "[I", .fieldLink RX1 32 "Gridpeer" "lefts" "[I", .fieldLink RX1 17 "Gridpeer" "meters" "[I", .instanceMethod yX0_empty, .initialized RX0, .selects RX0 yX0_empty yX0_empty, .code yX0_empty cX0_empty 1 none, .fieldLink RX0 27 "Gridpeer$TradeBook" "count" "I"] ++ wsX10 ++ wsX00)
def wsX1_rankOf : List Cond := .code yX1_rankOf cX1_rankOf 4 (some .int) :: ([.fieldLink RX1 20 "Gridpeer" "prices" "[I"] ++ wsX10)
def wsX1_isBetterSeller : List Cond := .code yX1_isBetterSeller cX1_isBetterSeller 4 (some .boolean) :: ([.fieldLink RX1 20 "Gridpeer" "prices" "[I", .methodLink RX1 120 Lib.Math.abs.name, .static Lib.Math.abs.name, .initialized "java/lang/Math", .code Lib.Math.abs.name Lib.Math.abs.code 1 (some .int)] ++ wsX10)
def wsX1_bestSeller : List Cond := .code yX1_bestSeller cX1_bestSeller 4 (some .int) :: ([.fieldLink RX1 32 "Gridpeer" "lefts" "[I", .fieldLink RX1 20 "Gridpeer" "prices" "[I", .methodLink RX1 182 yX1_isBetterSeller, .instanceMethod yX1_isBetterSeller, .selects RX1 yX1_isBetterSeller yX1_isBetterSeller, .initialized RX1, .code yX1_isBetterSeller cX1_isBetterSeller 4 (some .boolean), .methodLink RX1 120 Lib.Math.abs.name, .static Lib.Math.abs.name, .initialized "java/lang/Math", .code Lib.Math.abs.name Lib.Math.abs.code 1 (some .int)] ++ wsX10)
def wsX1_serveBuyer_r1 : List Cond := [Cond.fieldLink RX1 32 "Gridpeer" "lefts" "[I", Cond.methodLink RX1 132 Lib.Math.min.name, Cond.static Lib.Math.min.name, Cond.initialized "java/lang/Math", Cond.code Lib.Math.min.name Lib.Math.min.code 2 (some .int), Cond.fieldLink RX1 47 "Gridpeer" "book" "LGridpeer$TradeBook;", Cond.fieldLink RX1 20 "Gridpeer" "prices" "[I", Cond.methodLink RX1 175 yX1_bestSeller, Cond.instanceMethod yX1_bestSeller, Cond.selects RX1 yX1_bestSeller yX1_bestSeller, Cond.initialized RX1, Cond.code yX1_bestSeller cX1_bestSeller 4 (some .int), Cond.methodLink RX1 182 yX1_isBetterSeller, Cond.instanceMethod yX1_isBetterSeller, Cond.selects RX1 yX1_isBetterSeller yX1_isBetterSeller, Cond.code yX1_isBetterSeller cX1_isBetterSeller 4 (some .boolean), Cond.methodLink RX1 120 Lib.Math.abs.name, Cond.static Lib.Math.abs.name, Cond.code Lib.Math.abs.name Lib.Math.abs.code 1 (some .int), Cond.instanceMethod yX0_add, Cond.initialized RX0, Cond.selects RX0 yX0_add yX0_add, Cond.code yX0_add cX0_add 5 none, Cond.fieldLink RX0 27 "Gridpeer$TradeBook" "count" "I"]
def wsX1_serveBuyer_r2 : List Cond := [Cond.fieldLink RX0 9 "Gridpeer$TradeBook" "sellers" "[I", Cond.fieldLink RX0 15 "Gridpeer$TradeBook" "buyers" "[I", Cond.fieldLink RX0 18 "Gridpeer$TradeBook" "units" "[I", Cond.fieldLink RX0 21 "Gridpeer$TradeBook" "cuts" "[I", Cond.fieldLink RX0 24 "Gridpeer$TradeBook" "prices" "[I"]
def wsX1_serveBuyer : List Cond := .code yX1_serveBuyer cX1_serveBuyer 5 none :: ((wsX1_serveBuyer_r1 ++ wsX1_serveBuyer_r2) ++ wsX10 ++ wsX00)
def wsX1_matchBuyers_r1 : List Cond := [Cond.fieldLink RX1 32 "Gridpeer" "lefts" "[I", Cond.methodLink RX1 169 yX1_rankOf, Cond.instanceMethod yX1_rankOf, Cond.selects RX1 yX1_rankOf yX1_rankOf, Cond.initialized RX1, Cond.code yX1_rankOf cX1_rankOf 4 (some .int), Cond.fieldLink RX1 20 "Gridpeer" "prices" "[I", Cond.methodLink RX1 172 yX1_serveBuyer, Cond.instanceMethod yX1_serveBuyer, Cond.selects RX1 yX1_serveBuyer yX1_serveBuyer, Cond.code yX1_serveBuyer cX1_serveBuyer 5 none, Cond.methodLink RX1 132 Lib.Math.min.name, Cond.static Lib.Math.min.name, Cond.initialized "java/lang/Math", Cond.code Lib.Math.min.name Lib.Math.min.code 2 (some .int), Cond.fieldLink RX1 47 "Gridpeer" "book" "LGridpeer$TradeBook;", Cond.methodLink RX1 175 yX1_bestSeller, Cond.instanceMethod yX1_bestSeller, Cond.selects RX1 yX1_bestSeller yX1_bestSeller, Cond.code yX1_bestSeller cX1_bestSeller 4 (some .int), Cond.methodLink RX1 182 yX1_isBetterSeller, Cond.instanceMethod yX1_isBetterSeller, Cond.selects RX1 yX1_isBetterSeller yX1_isBetterSeller, Cond.code yX1_isBetterSeller cX1_isBetterSeller 4 (some .boolean)]
def wsX1_matchBuyers_r2 : List Cond := [Cond.methodLink RX1 120 Lib.Math.abs.name, Cond.static Lib.Math.abs.name, Cond.code Lib.Math.abs.name Lib.Math.abs.code 1 (some .int), Cond.instanceMethod yX0_add, Cond.initialized RX0, Cond.selects RX0 yX0_add yX0_add, Cond.code yX0_add cX0_add 5 none, Cond.fieldLink RX0 27 "Gridpeer$TradeBook" "count" "I", Cond.fieldLink RX0 9 "Gridpeer$TradeBook" "sellers" "[I", Cond.fieldLink RX0 15 "Gridpeer$TradeBook" "buyers" "[I", Cond.fieldLink RX0 18 "Gridpeer$TradeBook" "units" "[I", Cond.fieldLink RX0 21 "Gridpeer$TradeBook" "cuts" "[I", Cond.fieldLink RX0 24 "Gridpeer$TradeBook" "prices" "[I"]
def wsX1_matchBuyers : List Cond := .code yX1_matchBuyers cX1_matchBuyers 3 none :: ((wsX1_matchBuyers_r1 ++ wsX1_matchBuyers_r2) ++ wsX10 ++ wsX00)
def wsX1_cutOverLimits_r1 : List Cond := [Cond.fieldLink RX1 47 "Gridpeer" "book" "LGridpeer$TradeBook;", Cond.fieldLink RX1 35 "Gridpeer" "limits" "[I", Cond.instanceMethod yX0_cutOver, Cond.initialized RX0, Cond.selects RX0 yX0_cutOver yX0_cutOver, Cond.code yX0_cutOver cX0_cutOver 8 (some .boolean), Cond.methodLink RX0 39 Lib.Math.abs.name, Cond.static Lib.Math.abs.name, Cond.initialized "java/lang/Math", Cond.code Lib.Math.abs.name Lib.Math.abs.code 1 (some .int), Cond.fieldLink RX0 27 "Gridpeer$TradeBook" "count" "I", Cond.fieldLink RX0 9 "Gridpeer$TradeBook" "sellers" "[I", Cond.fieldLink RX0 15 "Gridpeer$TradeBook" "buyers" "[I", Cond.fieldLink RX0 18 "Gridpeer$TradeBook" "units" "[I", Cond.methodLink RX0 44 Lib.Math.min.name, Cond.static Lib.Math.min.name, Cond.code Lib.Math.min.name Lib.Math.min.code 2 (some .int), Cond.fieldLink RX0 21 "Gridpeer$TradeBook" "cuts" "[I", Cond.methodLink RX0 35 yX0_flowOver, Cond.instanceMethod yX0_flowOver, Cond.selects RX0 yX0_flowOver yX0_flowOver, Cond.code yX0_flowOver cX0_flowOver 4 (some .int), Cond.methodLink RX0 31 yX0_direction, Cond.static yX0_direction]
def wsX1_cutOverLimits_r2 : List Cond := [Cond.code yX0_direction cX0_direction 3 (some .int)]
def wsX1_cutOverLimits : List Cond := .code yX1_cutOverLimits cX1_cutOverLimits 4 none :: ((wsX1_cutOverLimits_r1 ++ wsX1_cutOverLimits_r2) ++ wsX10 ++ wsX00)
def wsX1_countTrades : List Cond := .code yX1_countTrades cX1_countTrades 2 none :: ([.fieldLink RX1 47 "Gridpeer" "book" "LGridpeer$TradeBook;", .fieldLink RX1 41 "Gridpeer" "ways" "[I", .fieldLink RX1 58 "Gridpeer" "pool" "I", .fieldLink RX1 38 "Gridpeer" "flows" "[I", .instanceMethod yX0_flowOver, .initialized RX0, .selects RX0 yX0_flowOver yX0_flowOver, .code yX0_flowOver cX0_flowOver 4 (some .int), .fieldLink RX0 27 "Gridpeer$TradeBook" "count" "I", .fieldLink RX0 9 "Gridpeer$TradeBook" "sellers" "[I", .fieldLink RX0 15 "Gridpeer$TradeBook" "buyers" "[I", .fieldLink RX0 18 "Gridpeer$TradeBook" "units" "[I", .methodLink RX0 31 yX0_direction, .static yX0_direction, .code yX0_direction cX0_direction 3 (some .int)] ++ wsX10 ++ wsX00)
def wsX1_settleTrades : List Cond := .code yX1_settleTrades cX1_settleTrades 4 none :: ([.fieldLink RX1 47 "Gridpeer" "book" "LGridpeer$TradeBook;", .fieldLink RX1 29 "Gridpeer" "bills" "[I", .fieldLink RX1 32 "Gridpeer" "lefts" "[I"] ++ wsX10 ++ wsX00)
def wsX1_putIn : List Cond := .code yX1_putIn cX1_putIn 3 none :: ([.fieldLink RX1 32 "Gridpeer" "lefts" "[I", .fieldLink RX1 26 "Gridpeer" "stores" "[I", .fieldLink RX1 41 "Gridpeer" "ways" "[I"] ++ wsX10)
def wsX1_takeOut : List Cond := .code yX1_takeOut cX1_takeOut 4 none :: ([.fieldLink RX1 32 "Gridpeer" "lefts" "[I", .fieldLink RX1 26 "Gridpeer" "stores" "[I", .fieldLink RX1 41 "Gridpeer" "ways" "[I", .fieldLink RX1 23 "Gridpeer" "parts" "[I", .methodLink RX1 202 Lib.Math.max.name, .static Lib.Math.max.name, .initialized "java/lang/Math", .code Lib.Math.max.name Lib.Math.max.code 2 (some .int), .methodLink RX1 93 yX1_payPool, .instanceMethod yX1_payPool, .selects RX1 yX1_payPool yX1_payPool, .initialized RX1, .code yX1_payPool cX1_payPool 3 none, .fieldLink RX1 29 "Gridpeer" "bills" "[I", .fieldLink RX1 58 "Gridpeer" "pool" "I"] ++ wsX10)
def wsX1_useBattery_r1 : List Cond := [Cond.fieldLink RX1 32 "Gridpeer" "lefts" "[I", Cond.fieldLink RX1 23 "Gridpeer" "parts" "[I", Cond.fieldLink RX1 26 "Gridpeer" "stores" "[I", Cond.methodLink RX1 132 Lib.Math.min.name, Cond.static Lib.Math.min.name, Cond.initialized "java/lang/Math", Cond.code Lib.Math.min.name Lib.Math.min.code 2 (some .int), Cond.methodLink RX1 196 yX1_putIn, Cond.instanceMethod yX1_putIn, Cond.selects RX1 yX1_putIn yX1_putIn, Cond.initialized RX1, Cond.code yX1_putIn cX1_putIn 3 none, Cond.fieldLink RX1 41 "Gridpeer" "ways" "[I", Cond.methodLink RX1 199 yX1_takeOut, Cond.instanceMethod yX1_takeOut, Cond.selects RX1 yX1_takeOut yX1_takeOut, Cond.code yX1_takeOut cX1_takeOut 4 none, Cond.methodLink RX1 202 Lib.Math.max.name, Cond.static Lib.Math.max.name, Cond.code Lib.Math.max.name Lib.Math.max.code 2 (some .int), Cond.methodLink RX1 93 yX1_payPool, Cond.instanceMethod yX1_payPool, Cond.selects RX1 yX1_payPool yX1_payPool, Cond.code yX1_payPool cX1_payPool 3 none]
def wsX1_useBattery_r2 : List Cond := [Cond.fieldLink RX1 29 "Gridpeer" "bills" "[I", Cond.fieldLink RX1 58 "Gridpeer" "pool" "I"]
def wsX1_useBattery : List Cond := .code yX1_useBattery cX1_useBattery 2 none :: ((wsX1_useBattery_r1 ++ wsX1_useBattery_r2) ++ wsX10)
def wsX1_settleWithSupplier : List Cond := .code yX1_settleWithSupplier cX1_settleWithSupplier 4 none :: ([.fieldLink RX1 32 "Gridpeer" "lefts" "[I", .fieldLink RX1 51 "Gridpeer" "sells" "I", .fieldLink RX1 55 "Gridpeer" "buys" "I", .fieldLink RX1 29 "Gridpeer" "bills" "[I", .fieldLink RX1 61 "Gridpeer" "supplied" "I", .fieldLink RX1 41 "Gridpeer" "ways" "[I"] ++ wsX10)
def wsX1_beginNextQuarter : List Cond := .code yX1_beginNextQuarter cX1_beginNextQuarter 2 none :: ([.fieldLink RX1 13 "Gridpeer" "forecasts" "[I", .fieldLink RX1 17 "Gridpeer" "meters" "[I", .fieldLink RX1 64 "Gridpeer" "quarter" "I"] ++ wsX10)
def wsX1_clear_r1 : List Cond := [Cond.classLink RX1 88 "java/lang/IllegalStateException", Cond.initialized "java/lang/IllegalStateException", Cond.fieldLink RX1 64 "Gridpeer" "quarter" "I", Cond.fieldLink RX1 17 "Gridpeer" "meters" "[I", Cond.fieldLink RX1 13 "Gridpeer" "forecasts" "[I", Cond.methodLink RX1 120 Lib.Math.abs.name, Cond.static Lib.Math.abs.name, Cond.initialized "java/lang/Math", Cond.code Lib.Math.abs.name Lib.Math.abs.code 1 (some .int), Cond.fieldLink RX1 41 "Gridpeer" "ways" "[I", Cond.methodLink RX1 99 yX1_beginClearing, Cond.instanceMethod yX1_beginClearing, Cond.selects RX1 yX1_beginClearing yX1_beginClearing, Cond.initialized RX1, Cond.code yX1_beginClearing cX1_beginClearing 2 none, Cond.fieldLink RX1 47 "Gridpeer" "book" "LGridpeer$TradeBook;", Cond.fieldLink RX1 32 "Gridpeer" "lefts" "[I", Cond.instanceMethod yX0_empty, Cond.initialized RX0, Cond.selects RX0 yX0_empty yX0_empty, Cond.code yX0_empty cX0_empty 1 none, Cond.fieldLink RX0 27 "Gridpeer$TradeBook" "count" "I", Cond.methodLink RX1 102 yX1_matchBuyers, Cond.instanceMethod yX1_matchBuyers]
def wsX1_clear_r2 : List Cond := [Cond.selects RX1 yX1_matchBuyers yX1_matchBuyers, Cond.code yX1_matchBuyers cX1_matchBuyers 3 none, Cond.methodLink RX1 169 yX1_rankOf, Cond.instanceMethod yX1_rankOf, Cond.selects RX1 yX1_rankOf yX1_rankOf, Cond.code yX1_rankOf cX1_rankOf 4 (some .int), Cond.fieldLink RX1 20 "Gridpeer" "prices" "[I", Cond.methodLink RX1 172 yX1_serveBuyer, Cond.instanceMethod yX1_serveBuyer, Cond.selects RX1 yX1_serveBuyer yX1_serveBuyer, Cond.code yX1_serveBuyer cX1_serveBuyer 5 none, Cond.methodLink RX1 132 Lib.Math.min.name, Cond.static Lib.Math.min.name, Cond.code Lib.Math.min.name Lib.Math.min.code 2 (some .int), Cond.methodLink RX1 175 yX1_bestSeller, Cond.instanceMethod yX1_bestSeller, Cond.selects RX1 yX1_bestSeller yX1_bestSeller, Cond.code yX1_bestSeller cX1_bestSeller 4 (some .int), Cond.methodLink RX1 182 yX1_isBetterSeller, Cond.instanceMethod yX1_isBetterSeller, Cond.selects RX1 yX1_isBetterSeller yX1_isBetterSeller, Cond.code yX1_isBetterSeller cX1_isBetterSeller 4 (some .boolean), Cond.instanceMethod yX0_add, Cond.selects RX0 yX0_add yX0_add]
def wsX1_clear_r3 : List Cond := [Cond.code yX0_add cX0_add 5 none, Cond.fieldLink RX0 9 "Gridpeer$TradeBook" "sellers" "[I", Cond.fieldLink RX0 15 "Gridpeer$TradeBook" "buyers" "[I", Cond.fieldLink RX0 18 "Gridpeer$TradeBook" "units" "[I", Cond.fieldLink RX0 21 "Gridpeer$TradeBook" "cuts" "[I", Cond.fieldLink RX0 24 "Gridpeer$TradeBook" "prices" "[I", Cond.methodLink RX1 105 yX1_cutOverLimits, Cond.instanceMethod yX1_cutOverLimits, Cond.selects RX1 yX1_cutOverLimits yX1_cutOverLimits, Cond.code yX1_cutOverLimits cX1_cutOverLimits 4 none, Cond.fieldLink RX1 35 "Gridpeer" "limits" "[I", Cond.instanceMethod yX0_cutOver, Cond.selects RX0 yX0_cutOver yX0_cutOver, Cond.code yX0_cutOver cX0_cutOver 8 (some .boolean), Cond.methodLink RX0 39 Lib.Math.abs.name, Cond.methodLink RX0 44 Lib.Math.min.name, Cond.methodLink RX0 35 yX0_flowOver, Cond.instanceMethod yX0_flowOver, Cond.selects RX0 yX0_flowOver yX0_flowOver, Cond.code yX0_flowOver cX0_flowOver 4 (some .int), Cond.methodLink RX0 31 yX0_direction, Cond.static yX0_direction, Cond.code yX0_direction cX0_direction 3 (some .int), Cond.methodLink RX1 108 yX1_countTrades]
def wsX1_clear_r4 : List Cond := [Cond.instanceMethod yX1_countTrades, Cond.selects RX1 yX1_countTrades yX1_countTrades, Cond.code yX1_countTrades cX1_countTrades 2 none, Cond.fieldLink RX1 58 "Gridpeer" "pool" "I", Cond.fieldLink RX1 38 "Gridpeer" "flows" "[I", Cond.methodLink RX1 111 yX1_settleTrades, Cond.instanceMethod yX1_settleTrades, Cond.selects RX1 yX1_settleTrades yX1_settleTrades, Cond.code yX1_settleTrades cX1_settleTrades 4 none, Cond.fieldLink RX1 29 "Gridpeer" "bills" "[I", Cond.methodLink RX1 114 yX1_useBattery, Cond.instanceMethod yX1_useBattery, Cond.selects RX1 yX1_useBattery yX1_useBattery, Cond.code yX1_useBattery cX1_useBattery 2 none, Cond.fieldLink RX1 23 "Gridpeer" "parts" "[I", Cond.fieldLink RX1 26 "Gridpeer" "stores" "[I", Cond.methodLink RX1 196 yX1_putIn, Cond.instanceMethod yX1_putIn, Cond.selects RX1 yX1_putIn yX1_putIn, Cond.code yX1_putIn cX1_putIn 3 none, Cond.methodLink RX1 199 yX1_takeOut, Cond.instanceMethod yX1_takeOut, Cond.selects RX1 yX1_takeOut yX1_takeOut, Cond.code yX1_takeOut cX1_takeOut 4 none]
def wsX1_clear_r5 : List Cond := [Cond.methodLink RX1 202 Lib.Math.max.name, Cond.static Lib.Math.max.name, Cond.code Lib.Math.max.name Lib.Math.max.code 2 (some .int), Cond.methodLink RX1 93 yX1_payPool, Cond.instanceMethod yX1_payPool, Cond.selects RX1 yX1_payPool yX1_payPool, Cond.code yX1_payPool cX1_payPool 3 none, Cond.methodLink RX1 117 yX1_settleWithSupplier, Cond.instanceMethod yX1_settleWithSupplier, Cond.selects RX1 yX1_settleWithSupplier yX1_settleWithSupplier, Cond.code yX1_settleWithSupplier cX1_settleWithSupplier 4 none, Cond.fieldLink RX1 51 "Gridpeer" "sells" "I", Cond.fieldLink RX1 55 "Gridpeer" "buys" "I", Cond.fieldLink RX1 61 "Gridpeer" "supplied" "I", Cond.methodLink RX1 126 yX1_beginNextQuarter, Cond.instanceMethod yX1_beginNextQuarter, Cond.selects RX1 yX1_beginNextQuarter yX1_beginNextQuarter, Cond.code yX1_beginNextQuarter cX1_beginNextQuarter 2 none]
def wsX1_clear : List Cond := .code yX1_clear cX1_clear 2 (some .int) :: ((wsX1_clear_r1 ++ (wsX1_clear_r2 ++ (wsX1_clear_r3 ++ (wsX1_clear_r4 ++ wsX1_clear_r5)))) ++ wsX10 ++ wsX00 ++ (vx_atS RX1 92 "java/lang/IllegalStateException" ["java/lang/RuntimeException", "java/lang/Exception"]).filter goodWord)
def wsX1_quarter : List Cond := .code yX1_quarter cX1_quarter 1 (some .int) :: ([.fieldLink RX1 64 "Gridpeer" "quarter" "I"] ++ wsX10)
def wsX1_isInSet : List Cond := .code yX1_isInSet cX1_isInSet 2 (some .boolean) :: ([])
def wsX1_sellsToSet : List Cond := .code yX1_sellsToSet cX1_sellsToSet 4 (some .boolean) :: ([.fieldLink RX1 17 "Gridpeer" "meters" "[I", .fieldLink RX1 20 "Gridpeer" "prices" "[I", .methodLink RX1 205 yX1_isInSet, .static yX1_isInSet, .initialized RX1, .code yX1_isInSet cX1_isInSet 2 (some .boolean)] ++ wsX10)
def wsX1_boundBySet : List Cond := .code yX1_boundBySet cX1_boundBySet 4 (some .int) :: ([.fieldLink RX1 17 "Gridpeer" "meters" "[I", .methodLink RX1 205 yX1_isInSet, .static yX1_isInSet, .initialized RX1, .code yX1_isInSet cX1_isInSet 2 (some .boolean), .methodLink RX1 208 yX1_sellsToSet, .instanceMethod yX1_sellsToSet, .selects RX1 yX1_sellsToSet yX1_sellsToSet, .code yX1_sellsToSet cX1_sellsToSet 4 (some .boolean), .fieldLink RX1 20 "Gridpeer" "prices" "[I"] ++ wsX10)
def wsX1_mostTradable : List Cond := .code yX1_mostTradable cX1_mostTradable 3 (some .int) :: ([.methodLink RX1 132 Lib.Math.min.name, .static Lib.Math.min.name, .initialized "java/lang/Math", .code Lib.Math.min.name Lib.Math.min.code 2 (some .int), .methodLink RX1 129 yX1_boundBySet, .instanceMethod yX1_boundBySet, .selects RX1 yX1_boundBySet yX1_boundBySet, .initialized RX1, .code yX1_boundBySet cX1_boundBySet 4 (some .int), .fieldLink RX1 17 "Gridpeer" "meters" "[I", .methodLink RX1 205 yX1_isInSet, .static yX1_isInSet, .code yX1_isInSet cX1_isInSet 2 (some .boolean), .methodLink RX1 208 yX1_sellsToSet, .instanceMethod yX1_sellsToSet, .selects RX1 yX1_sellsToSet yX1_sellsToSet, .code yX1_sellsToSet cX1_sellsToSet 4 (some .boolean), .fieldLink RX1 20 "Gridpeer" "prices" "[I"] ++ wsX10)
def wsX1_trades : List Cond := .code yX1_trades cX1_trades 1 (some .int) :: ([.fieldLink RX1 47 "Gridpeer" "book" "LGridpeer$TradeBook;"] ++ wsX10 ++ wsX00)
def wsX1_ofTrade : List Cond := .code yX1_ofTrade cX1_ofTrade 3 (some .int) :: ([.classLink RX1 139 "java/lang/IndexOutOfBoundsException", .initialized "java/lang/IndexOutOfBoundsException", .fieldLink RX1 47 "Gridpeer" "book" "LGridpeer$TradeBook;"] ++ wsX10 ++ wsX00 ++ (vx_atS RX1 143 "java/lang/IndexOutOfBoundsException" ["java/lang/RuntimeException", "java/lang/Exception"]).filter goodWord)
def wsX1_went : List Cond := .code yX1_went cX1_went 2 (some .int) :: ([.classLink RX1 139 "java/lang/IndexOutOfBoundsException", .initialized "java/lang/IndexOutOfBoundsException", .fieldLink RX1 41 "Gridpeer" "ways" "[I"] ++ wsX10 ++ (vx_atS RX1 143 "java/lang/IndexOutOfBoundsException" ["java/lang/RuntimeException", "java/lang/Exception"]).filter goodWord)
def wsX1_flow : List Cond := .code yX1_flow cX1_flow 2 (some .int) :: ([.fieldLink RX1 38 "Gridpeer" "flows" "[I", .methodLink RX1 78 yX1_checkStretch, .static yX1_checkStretch, .initialized RX1, .code yX1_checkStretch cX1_checkStretch 1 none, .classLink RX1 139 "java/lang/IndexOutOfBoundsException", .initialized "java/lang/IndexOutOfBoundsException"] ++ wsX10 ++ (vx_atS RX1 143 "java/lang/IndexOutOfBoundsException" ["java/lang/RuntimeException", "java/lang/Exception"]).filter goodWord)
def wsX1_isMember : List Cond := .code yX1_isMember cX1_isMember 2 (some .boolean) :: ([.fieldLink RX1 9 "Gridpeer" "members" "[Z", .methodLink RX1 67 yX1_checkHouse, .static yX1_checkHouse, .initialized RX1, .code yX1_checkHouse cX1_checkHouse 1 none, .classLink RX1 139 "java/lang/IndexOutOfBoundsException", .initialized "java/lang/IndexOutOfBoundsException"] ++ wsX10 ++ (vx_atS RX1 143 "java/lang/IndexOutOfBoundsException" ["java/lang/RuntimeException", "java/lang/Exception"]).filter goodWord)
def wsX1_stored : List Cond := .code yX1_stored cX1_stored 2 (some .int) :: ([.fieldLink RX1 26 "Gridpeer" "stores" "[I", .methodLink RX1 67 yX1_checkHouse, .static yX1_checkHouse, .initialized RX1, .code yX1_checkHouse cX1_checkHouse 1 none, .classLink RX1 139 "java/lang/IndexOutOfBoundsException", .initialized "java/lang/IndexOutOfBoundsException"] ++ wsX10 ++ (vx_atS RX1 143 "java/lang/IndexOutOfBoundsException" ["java/lang/RuntimeException", "java/lang/Exception"]).filter goodWord)
def wsX1_part : List Cond := .code yX1_part cX1_part 2 (some .int) :: ([.fieldLink RX1 23 "Gridpeer" "parts" "[I", .methodLink RX1 67 yX1_checkHouse, .static yX1_checkHouse, .initialized RX1, .code yX1_checkHouse cX1_checkHouse 1 none, .classLink RX1 139 "java/lang/IndexOutOfBoundsException", .initialized "java/lang/IndexOutOfBoundsException"] ++ wsX10 ++ (vx_atS RX1 143 "java/lang/IndexOutOfBoundsException" ["java/lang/RuntimeException", "java/lang/Exception"]).filter goodWord)
def wsX1_bill : List Cond := .code yX1_bill cX1_bill 2 (some .int) :: ([.fieldLink RX1 29 "Gridpeer" "bills" "[I", .methodLink RX1 67 yX1_checkHouse, .static yX1_checkHouse, .initialized RX1, .code yX1_checkHouse cX1_checkHouse 1 none, .classLink RX1 139 "java/lang/IndexOutOfBoundsException", .initialized "java/lang/IndexOutOfBoundsException"] ++ wsX10 ++ (vx_atS RX1 143 "java/lang/IndexOutOfBoundsException" ["java/lang/RuntimeException", "java/lang/Exception"]).filter goodWord)
def wsX1_pool : List Cond := .code yX1_pool cX1_pool 1 (some .int) :: ([.fieldLink RX1 58 "Gridpeer" "pool" "I"] ++ wsX10)
def wsX1_supplied : List Cond := .code yX1_supplied cX1_supplied 1 (some .int) :: ([.fieldLink RX1 61 "Gridpeer" "supplied" "I"] ++ wsX10)
def wsX2_init : List Cond := .code yX2_init cX2_init 2 none :: ([.methodLink RX2 1 objectInit, .instanceMethod objectInit, .code objectInit ⟨#[0xb1]⟩ 1 none, .arrayClass .int, .fieldLink RX2 7 "GridpeerModel" "forecasts" "[I", .fieldLink RX2 13 "GridpeerModel" "meters" "[I", .fieldLink RX2 16 "GridpeerModel" "prices" "[I", .fieldLink RX2 19 "GridpeerModel" "limits" "[I", .fieldLink RX2 22 "GridpeerModel" "parts" "[I", .fieldLink RX2 25 "GridpeerModel" "stores" "[I", .fieldLink RX2 28 "GridpeerModel" "bills" "[I", .arrayClass .boolean, .fieldLink RX2 31 "GridpeerModel" "gone" "[Z", .fieldLink RX2 35 "GridpeerModel" "sells" "I", .fieldLink RX2 39 "GridpeerModel" "buys" "I", .fieldLink RX2 42 "GridpeerModel" "sellers" "[I", .fieldLink RX2 45 "GridpeerModel" "buyers" "[I", .fieldLink RX2 48 "GridpeerModel" "units" "[I", .fieldLink RX2 51 "GridpeerModel" "costs" "[I", .fieldLink RX2 54 "GridpeerModel" "went" "[I", .fieldLink RX2 57 "GridpeerModel" "flows" "[I", .fieldLink RX2 60 "GridpeerModel" "left" "[I"] ++ wsX20)
def wsX2_thrown : List Cond := .code yX2_thrown cX2_thrown 1 (some .int) :: ([.fieldLink RX2 63 "GridpeerModel" "last" "I"] ++ wsX20)
def wsX2_in : List Cond := .code yX2_in cX2_in 3 (some .boolean) :: ([])
def wsX2_goes : List Cond := .code yX2_goes cX2_goes 4 (some .boolean) :: ([.fieldLink RX2 63 "GridpeerModel" "last" "I"] ++ wsX20)
def wsX2_isHouse : List Cond := .code yX2_isHouse cX2_isHouse 1 (some .boolean) :: ([.methodLink RX2 66 yX2_in, .static yX2_in, .initialized RX2, .code yX2_in cX2_in 3 (some .boolean)])
def wsX2_belongs : List Cond := .code yX2_belongs cX2_belongs 2 (some .boolean) :: ([.fieldLink RX2 31 "GridpeerModel" "gone" "[Z", .methodLink RX2 70 yX2_isHouse, .static yX2_isHouse, .initialized RX2, .code yX2_isHouse cX2_isHouse 1 (some .boolean), .methodLink RX2 66 yX2_in, .static yX2_in, .code yX2_in cX2_in 3 (some .boolean)] ++ wsX20)
def wsX2_lesser : List Cond := .code yX2_lesser cX2_lesser 2 (some .int) :: ([])
def wsX2_size : List Cond := .code yX2_size cX2_size 1 (some .int) :: ([])
def wsX2_forecast : List Cond := .code yX2_forecast cX2_forecast 4 (some .int) :: ([.fieldLink RX2 7 "GridpeerModel" "forecasts" "[I", .methodLink RX2 70 yX2_isHouse, .static yX2_isHouse, .initialized RX2, .code yX2_isHouse cX2_isHouse 1 (some .boolean), .methodLink RX2 66 yX2_in, .static yX2_in, .code yX2_in cX2_in 3 (some .boolean), .methodLink RX2 74 yX2_belongs, .instanceMethod yX2_belongs, .selects RX2 yX2_belongs yX2_belongs, .code yX2_belongs cX2_belongs 2 (some .boolean), .fieldLink RX2 31 "GridpeerModel" "gone" "[Z", .methodLink RX2 77 yX2_goes, .instanceMethod yX2_goes, .selects RX2 yX2_goes yX2_goes, .code yX2_goes cX2_goes 4 (some .boolean), .fieldLink RX2 63 "GridpeerModel" "last" "I"] ++ wsX20)
def wsX2_meter : List Cond := .code yX2_meter cX2_meter 4 (some .int) :: ([.fieldLink RX2 13 "GridpeerModel" "meters" "[I", .methodLink RX2 70 yX2_isHouse, .static yX2_isHouse, .initialized RX2, .code yX2_isHouse cX2_isHouse 1 (some .boolean), .methodLink RX2 66 yX2_in, .static yX2_in, .code yX2_in cX2_in 3 (some .boolean), .methodLink RX2 74 yX2_belongs, .instanceMethod yX2_belongs, .selects RX2 yX2_belongs yX2_belongs, .code yX2_belongs cX2_belongs 2 (some .boolean), .fieldLink RX2 31 "GridpeerModel" "gone" "[Z", .methodLink RX2 77 yX2_goes, .instanceMethod yX2_goes, .selects RX2 yX2_goes yX2_goes, .code yX2_goes cX2_goes 4 (some .boolean), .fieldLink RX2 63 "GridpeerModel" "last" "I"] ++ wsX20)
def wsX2_setPrice : List Cond := .code yX2_setPrice cX2_setPrice 4 (some .int) :: ([.fieldLink RX2 16 "GridpeerModel" "prices" "[I", .methodLink RX2 70 yX2_isHouse, .static yX2_isHouse, .initialized RX2, .code yX2_isHouse cX2_isHouse 1 (some .boolean), .methodLink RX2 66 yX2_in, .static yX2_in, .code yX2_in cX2_in 3 (some .boolean), .methodLink RX2 77 yX2_goes, .instanceMethod yX2_goes, .selects RX2 yX2_goes yX2_goes, .code yX2_goes cX2_goes 4 (some .boolean), .fieldLink RX2 63 "GridpeerModel" "last" "I"] ++ wsX20)
def wsX2_setLimit : List Cond := .code yX2_setLimit cX2_setLimit 4 (some .int) :: ([.fieldLink RX2 19 "GridpeerModel" "limits" "[I", .methodLink RX2 66 yX2_in, .static yX2_in, .initialized RX2, .code yX2_in cX2_in 3 (some .boolean), .methodLink RX2 77 yX2_goes, .instanceMethod yX2_goes, .selects RX2 yX2_goes yX2_goes, .code yX2_goes cX2_goes 4 (some .boolean), .fieldLink RX2 63 "GridpeerModel" "last" "I"] ++ wsX20)
def wsX2_setSupplier : List Cond := .code yX2_setSupplier cX2_setSupplier 3 none :: ([.fieldLink RX2 35 "GridpeerModel" "sells" "I", .fieldLink RX2 39 "GridpeerModel" "buys" "I", .methodLink RX2 66 yX2_in, .static yX2_in, .initialized RX2, .code yX2_in cX2_in 3 (some .boolean), .methodLink RX2 77 yX2_goes, .instanceMethod yX2_goes, .selects RX2 yX2_goes yX2_goes, .code yX2_goes cX2_goes 4 (some .boolean), .fieldLink RX2 63 "GridpeerModel" "last" "I"] ++ wsX20)
def wsX2_rent : List Cond := .code yX2_rent cX2_rent 6 (some .int) :: ([.fieldLink RX2 22 "GridpeerModel" "parts" "[I", .fieldLink RX2 25 "GridpeerModel" "stores" "[I", .methodLink RX2 70 yX2_isHouse, .static yX2_isHouse, .initialized RX2, .code yX2_isHouse cX2_isHouse 1 (some .boolean), .methodLink RX2 66 yX2_in, .static yX2_in, .code yX2_in cX2_in 3 (some .boolean), .methodLink RX2 74 yX2_belongs, .instanceMethod yX2_belongs, .selects RX2 yX2_belongs yX2_belongs, .code yX2_belongs cX2_belongs 2 (some .boolean), .fieldLink RX2 31 "GridpeerModel" "gone" "[Z", .methodLink RX2 77 yX2_goes, .instanceMethod yX2_goes, .selects RX2 yX2_goes yX2_goes, .code yX2_goes cX2_goes 4 (some .boolean), .fieldLink RX2 63 "GridpeerModel" "last" "I"] ++ wsX20)
def wsX2_leave : List Cond := .code yX2_leave cX2_leave 3 (some .int) :: ([.fieldLink RX2 25 "GridpeerModel" "stores" "[I", .fieldLink RX2 39 "GridpeerModel" "buys" "I", .fieldLink RX2 28 "GridpeerModel" "bills" "[I", .fieldLink RX2 81 "GridpeerModel" "pool" "I", .fieldLink RX2 22 "GridpeerModel" "parts" "[I", .fieldLink RX2 31 "GridpeerModel" "gone" "[Z", .methodLink RX2 70 yX2_isHouse, .static yX2_isHouse, .initialized RX2, .code yX2_isHouse cX2_isHouse 1 (some .boolean), .methodLink RX2 66 yX2_in, .static yX2_in, .code yX2_in cX2_in 3 (some .boolean), .methodLink RX2 74 yX2_belongs, .instanceMethod yX2_belongs, .selects RX2 yX2_belongs yX2_belongs, .code yX2_belongs cX2_belongs 2 (some .boolean), .methodLink RX2 77 yX2_goes, .instanceMethod yX2_goes, .selects RX2 yX2_goes yX2_goes, .code yX2_goes cX2_goes 4 (some .boolean), .fieldLink RX2 63 "GridpeerModel" "last" "I"] ++ wsX20)
def wsX2_isBuyer : List Cond := .code yX2_isBuyer cX2_isBuyer 2 (some .boolean) :: ([.fieldLink RX2 31 "GridpeerModel" "gone" "[Z", .fieldLink RX2 13 "GridpeerModel" "meters" "[I"] ++ wsX20)
def wsX2_isSeller : List Cond := .code yX2_isSeller cX2_isSeller 2 (some .boolean) :: ([.fieldLink RX2 31 "GridpeerModel" "gone" "[Z", .fieldLink RX2 13 "GridpeerModel" "meters" "[I"] ++ wsX20)
def wsX2_turnOf : List Cond := .code yX2_turnOf cX2_turnOf 4 (some .int) :: ([.fieldLink RX2 16 "GridpeerModel" "prices" "[I", .methodLink RX2 84 yX2_isBuyer, .instanceMethod yX2_isBuyer, .selects RX2 yX2_isBuyer yX2_isBuyer, .initialized RX2, .code yX2_isBuyer cX2_isBuyer 2 (some .boolean), .fieldLink RX2 31 "GridpeerModel" "gone" "[Z", .fieldLink RX2 13 "GridpeerModel" "meters" "[I"] ++ wsX20)
def wsX2_sellerFor : List Cond := .code yX2_sellerFor cX2_sellerFor 6 (some .int) :: ([.fieldLink RX2 60 "GridpeerModel" "left" "[I", .fieldLink RX2 16 "GridpeerModel" "prices" "[I", .methodLink RX2 87 yX2_isSeller, .instanceMethod yX2_isSeller, .selects RX2 yX2_isSeller yX2_isSeller, .initialized RX2, .code yX2_isSeller cX2_isSeller 2 (some .boolean), .fieldLink RX2 31 "GridpeerModel" "gone" "[Z", .fieldLink RX2 13 "GridpeerModel" "meters" "[I", .methodLink RX2 90 yX2_size, .static yX2_size, .code yX2_size cX2_size 1 (some .int)] ++ wsX20)
def wsX2_takes : List Cond := .code yX2_takes cX2_takes 4 none :: ([.fieldLink RX2 60 "GridpeerModel" "left" "[I", .fieldLink RX2 42 "GridpeerModel" "sellers" "[I", .fieldLink RX2 101 "GridpeerModel" "trades" "I", .fieldLink RX2 45 "GridpeerModel" "buyers" "[I", .fieldLink RX2 48 "GridpeerModel" "units" "[I", .fieldLink RX2 51 "GridpeerModel" "costs" "[I", .fieldLink RX2 16 "GridpeerModel" "prices" "[I", .methodLink RX2 94 yX2_sellerFor, .instanceMethod yX2_sellerFor, .selects RX2 yX2_sellerFor yX2_sellerFor, .initialized RX2, .code yX2_sellerFor cX2_sellerFor 6 (some .int), .methodLink RX2 87 yX2_isSeller, .instanceMethod yX2_isSeller, .selects RX2 yX2_isSeller yX2_isSeller, .code yX2_isSeller cX2_isSeller 2 (some .boolean), .fieldLink RX2 31 "GridpeerModel" "gone" "[Z", .fieldLink RX2 13 "GridpeerModel" "meters" "[I", .methodLink RX2 90 yX2_size, .static yX2_size, .code yX2_size cX2_size 1 (some .int), .methodLink RX2 97 yX2_lesser, .static yX2_lesser, .code yX2_lesser cX2_lesser 2 (some .int)] ++ wsX20)
def wsX2_over : List Cond := .code yX2_over cX2_over 5 (some .int) :: ([.fieldLink RX2 42 "GridpeerModel" "sellers" "[I", .fieldLink RX2 45 "GridpeerModel" "buyers" "[I", .methodLink RX2 97 yX2_lesser, .static yX2_lesser, .initialized RX2, .code yX2_lesser cX2_lesser 2 (some .int)] ++ wsX20)
def wsX2_flowOver : List Cond := .code yX2_flowOver cX2_flowOver 4 (some .int) :: ([.fieldLink RX2 101 "GridpeerModel" "trades" "I", .fieldLink RX2 48 "GridpeerModel" "units" "[I", .methodLink RX2 104 yX2_over, .instanceMethod yX2_over, .selects RX2 yX2_over yX2_over, .initialized RX2, .code yX2_over cX2_over 5 (some .int), .fieldLink RX2 42 "GridpeerModel" "sellers" "[I", .fieldLink RX2 45 "GridpeerModel" "buyers" "[I", .methodLink RX2 97 yX2_lesser, .static yX2_lesser, .code yX2_lesser cX2_lesser 2 (some .int)] ++ wsX20)
def wsX2_cuts : List Cond := .code yX2_cuts cX2_cuts 6 (some .int) :: ([.fieldLink RX2 19 "GridpeerModel" "limits" "[I", .fieldLink RX2 101 "GridpeerModel" "trades" "I", .fieldLink RX2 48 "GridpeerModel" "units" "[I", .fieldLink RX2 60 "GridpeerModel" "left" "[I", .fieldLink RX2 42 "GridpeerModel" "sellers" "[I", .fieldLink RX2 45 "GridpeerModel" "buyers" "[I", .fieldLink RX2 28 "GridpeerModel" "bills" "[I", .fieldLink RX2 81 "GridpeerModel" "pool" "I", .methodLink RX2 107 yX2_flowOver, .instanceMethod yX2_flowOver, .selects RX2 yX2_flowOver yX2_flowOver, .initialized RX2, .code yX2_flowOver cX2_flowOver 4 (some .int), .methodLink RX2 104 yX2_over, .instanceMethod yX2_over, .selects RX2 yX2_over yX2_over, .code yX2_over cX2_over 5 (some .int), .methodLink RX2 97 yX2_lesser, .static yX2_lesser, .code yX2_lesser cX2_lesser 2 (some .int), .methodLink RX2 90 yX2_size, .static yX2_size, .code yX2_size cX2_size 1 (some .int)] ++ wsX20)
def wsX2_keeps : List Cond := .code yX2_keeps cX2_keeps 3 none :: ([.fieldLink RX2 60 "GridpeerModel" "left" "[I", .fieldLink RX2 22 "GridpeerModel" "parts" "[I", .fieldLink RX2 25 "GridpeerModel" "stores" "[I", .fieldLink RX2 54 "GridpeerModel" "went" "[I", .fieldLink RX2 28 "GridpeerModel" "bills" "[I", .fieldLink RX2 39 "GridpeerModel" "buys" "I", .fieldLink RX2 110 "GridpeerModel" "supplied" "I", .methodLink RX2 97 yX2_lesser, .static yX2_lesser, .initialized RX2, .code yX2_lesser cX2_lesser 2 (some .int)] ++ wsX20)
def wsX2_draws : List Cond := .code yX2_draws cX2_draws 5 none :: ([.fieldLink RX2 60 "GridpeerModel" "left" "[I", .fieldLink RX2 25 "GridpeerModel" "stores" "[I", .fieldLink RX2 22 "GridpeerModel" "parts" "[I", .fieldLink RX2 28 "GridpeerModel" "bills" "[I", .fieldLink RX2 81 "GridpeerModel" "pool" "I", .fieldLink RX2 54 "GridpeerModel" "went" "[I", .fieldLink RX2 35 "GridpeerModel" "sells" "I", .fieldLink RX2 110 "GridpeerModel" "supplied" "I", .methodLink RX2 97 yX2_lesser, .static yX2_lesser, .initialized RX2, .code yX2_lesser cX2_lesser 2 (some .int)] ++ wsX20)
def wsX2_clear_r1 : List Cond := [Cond.fieldLink RX2 113 "GridpeerModel" "quarter" "I", Cond.fieldLink RX2 101 "GridpeerModel" "trades" "I", Cond.fieldLink RX2 54 "GridpeerModel" "went" "[I", Cond.fieldLink RX2 60 "GridpeerModel" "left" "[I", Cond.fieldLink RX2 31 "GridpeerModel" "gone" "[Z", Cond.fieldLink RX2 13 "GridpeerModel" "meters" "[I", Cond.fieldLink RX2 28 "GridpeerModel" "bills" "[I", Cond.fieldLink RX2 45 "GridpeerModel" "buyers" "[I", Cond.fieldLink RX2 48 "GridpeerModel" "units" "[I", Cond.fieldLink RX2 51 "GridpeerModel" "costs" "[I", Cond.fieldLink RX2 42 "GridpeerModel" "sellers" "[I", Cond.fieldLink RX2 7 "GridpeerModel" "forecasts" "[I", Cond.fieldLink RX2 81 "GridpeerModel" "pool" "I", Cond.fieldLink RX2 57 "GridpeerModel" "flows" "[I", Cond.methodLink RX2 77 yX2_goes, Cond.instanceMethod yX2_goes, Cond.selects RX2 yX2_goes yX2_goes, Cond.initialized RX2, Cond.code yX2_goes cX2_goes 4 (some .boolean), Cond.fieldLink RX2 63 "GridpeerModel" "last" "I", Cond.methodLink RX2 90 yX2_size, Cond.static yX2_size, Cond.code yX2_size cX2_size 1 (some .int), Cond.methodLink RX2 84 yX2_isBuyer]
def wsX2_clear_r2 : List Cond := [Cond.instanceMethod yX2_isBuyer, Cond.selects RX2 yX2_isBuyer yX2_isBuyer, Cond.code yX2_isBuyer cX2_isBuyer 2 (some .boolean), Cond.methodLink RX2 116 yX2_turnOf, Cond.instanceMethod yX2_turnOf, Cond.selects RX2 yX2_turnOf yX2_turnOf, Cond.code yX2_turnOf cX2_turnOf 4 (some .int), Cond.fieldLink RX2 16 "GridpeerModel" "prices" "[I", Cond.methodLink RX2 119 yX2_takes, Cond.instanceMethod yX2_takes, Cond.selects RX2 yX2_takes yX2_takes, Cond.code yX2_takes cX2_takes 4 none, Cond.methodLink RX2 94 yX2_sellerFor, Cond.instanceMethod yX2_sellerFor, Cond.selects RX2 yX2_sellerFor yX2_sellerFor, Cond.code yX2_sellerFor cX2_sellerFor 6 (some .int), Cond.methodLink RX2 87 yX2_isSeller, Cond.instanceMethod yX2_isSeller, Cond.selects RX2 yX2_isSeller yX2_isSeller, Cond.code yX2_isSeller cX2_isSeller 2 (some .boolean), Cond.methodLink RX2 97 yX2_lesser, Cond.static yX2_lesser, Cond.code yX2_lesser cX2_lesser 2 (some .int), Cond.methodLink RX2 123 yX2_cuts]
def wsX2_clear_r3 : List Cond := [Cond.instanceMethod yX2_cuts, Cond.selects RX2 yX2_cuts yX2_cuts, Cond.code yX2_cuts cX2_cuts 6 (some .int), Cond.fieldLink RX2 19 "GridpeerModel" "limits" "[I", Cond.methodLink RX2 107 yX2_flowOver, Cond.instanceMethod yX2_flowOver, Cond.selects RX2 yX2_flowOver yX2_flowOver, Cond.code yX2_flowOver cX2_flowOver 4 (some .int), Cond.methodLink RX2 104 yX2_over, Cond.instanceMethod yX2_over, Cond.selects RX2 yX2_over yX2_over, Cond.code yX2_over cX2_over 5 (some .int), Cond.methodLink RX2 126 yX2_keeps, Cond.instanceMethod yX2_keeps, Cond.selects RX2 yX2_keeps yX2_keeps, Cond.code yX2_keeps cX2_keeps 3 none, Cond.fieldLink RX2 22 "GridpeerModel" "parts" "[I", Cond.fieldLink RX2 25 "GridpeerModel" "stores" "[I", Cond.fieldLink RX2 39 "GridpeerModel" "buys" "I", Cond.fieldLink RX2 110 "GridpeerModel" "supplied" "I", Cond.methodLink RX2 129 yX2_draws, Cond.instanceMethod yX2_draws, Cond.selects RX2 yX2_draws yX2_draws, Cond.code yX2_draws cX2_draws 5 none]
def wsX2_clear_r4 : List Cond := [Cond.fieldLink RX2 35 "GridpeerModel" "sells" "I"]
def wsX2_clear : List Cond := .code yX2_clear cX2_clear 4 (some .int) :: ((wsX2_clear_r1 ++ (wsX2_clear_r2 ++ (wsX2_clear_r3 ++ wsX2_clear_r4))) ++ wsX20)
def wsX2_quarter : List Cond := .code yX2_quarter cX2_quarter 1 (some .int) :: ([.fieldLink RX2 63 "GridpeerModel" "last" "I", .fieldLink RX2 113 "GridpeerModel" "quarter" "I"] ++ wsX20)
def wsX2_tradable : List Cond := .code yX2_tradable cX2_tradable 4 (some .int) :: ([.fieldLink RX2 16 "GridpeerModel" "prices" "[I", .fieldLink RX2 13 "GridpeerModel" "meters" "[I", .methodLink RX2 84 yX2_isBuyer, .instanceMethod yX2_isBuyer, .selects RX2 yX2_isBuyer yX2_isBuyer, .initialized RX2, .code yX2_isBuyer cX2_isBuyer 2 (some .boolean), .fieldLink RX2 31 "GridpeerModel" "gone" "[Z", .methodLink RX2 87 yX2_isSeller, .instanceMethod yX2_isSeller, .selects RX2 yX2_isSeller yX2_isSeller, .code yX2_isSeller cX2_isSeller 2 (some .boolean)] ++ wsX20)
def wsX2_mostTradable : List Cond := .code yX2_mostTradable cX2_mostTradable 3 (some .int) :: ([.fieldLink RX2 63 "GridpeerModel" "last" "I", .fieldLink RX2 16 "GridpeerModel" "prices" "[I", .methodLink RX2 132 yX2_tradable, .instanceMethod yX2_tradable, .selects RX2 yX2_tradable yX2_tradable, .initialized RX2, .code yX2_tradable cX2_tradable 4 (some .int), .fieldLink RX2 13 "GridpeerModel" "meters" "[I", .methodLink RX2 84 yX2_isBuyer, .instanceMethod yX2_isBuyer, .selects RX2 yX2_isBuyer yX2_isBuyer, .code yX2_isBuyer cX2_isBuyer 2 (some .boolean), .fieldLink RX2 31 "GridpeerModel" "gone" "[Z", .methodLink RX2 87 yX2_isSeller, .instanceMethod yX2_isSeller, .selects RX2 yX2_isSeller yX2_isSeller, .code yX2_isSeller cX2_isSeller 2 (some .boolean), .methodLink RX2 97 yX2_lesser, .static yX2_lesser, .code yX2_lesser cX2_lesser 2 (some .int)] ++ wsX20)
def wsX2_trades : List Cond := .code yX2_trades cX2_trades 1 (some .int) :: ([.fieldLink RX2 63 "GridpeerModel" "last" "I", .fieldLink RX2 101 "GridpeerModel" "trades" "I"] ++ wsX20)
def wsX2_ofTrade : List Cond := .code yX2_ofTrade cX2_ofTrade 3 (some .int) :: ([.fieldLink RX2 101 "GridpeerModel" "trades" "I", .fieldLink RX2 42 "GridpeerModel" "sellers" "[I", .fieldLink RX2 45 "GridpeerModel" "buyers" "[I", .fieldLink RX2 48 "GridpeerModel" "units" "[I", .fieldLink RX2 51 "GridpeerModel" "costs" "[I", .methodLink RX2 66 yX2_in, .static yX2_in, .initialized RX2, .code yX2_in cX2_in 3 (some .boolean), .methodLink RX2 77 yX2_goes, .instanceMethod yX2_goes, .selects RX2 yX2_goes yX2_goes, .code yX2_goes cX2_goes 4 (some .boolean), .fieldLink RX2 63 "GridpeerModel" "last" "I"] ++ wsX20)
def wsX2_went : List Cond := .code yX2_went cX2_went 2 (some .int) :: ([.fieldLink RX2 54 "GridpeerModel" "went" "[I", .methodLink RX2 66 yX2_in, .static yX2_in, .initialized RX2, .code yX2_in cX2_in 3 (some .boolean), .methodLink RX2 77 yX2_goes, .instanceMethod yX2_goes, .selects RX2 yX2_goes yX2_goes, .code yX2_goes cX2_goes 4 (some .boolean), .fieldLink RX2 63 "GridpeerModel" "last" "I"] ++ wsX20)
def wsX2_flow : List Cond := .code yX2_flow cX2_flow 2 (some .int) :: ([.fieldLink RX2 57 "GridpeerModel" "flows" "[I", .methodLink RX2 66 yX2_in, .static yX2_in, .initialized RX2, .code yX2_in cX2_in 3 (some .boolean), .methodLink RX2 77 yX2_goes, .instanceMethod yX2_goes, .selects RX2 yX2_goes yX2_goes, .code yX2_goes cX2_goes 4 (some .boolean), .fieldLink RX2 63 "GridpeerModel" "last" "I"] ++ wsX20)
def wsX2_isMember : List Cond := .code yX2_isMember cX2_isMember 2 (some .boolean) :: ([.fieldLink RX2 31 "GridpeerModel" "gone" "[Z", .methodLink RX2 70 yX2_isHouse, .static yX2_isHouse, .initialized RX2, .code yX2_isHouse cX2_isHouse 1 (some .boolean), .methodLink RX2 66 yX2_in, .static yX2_in, .code yX2_in cX2_in 3 (some .boolean), .methodLink RX2 77 yX2_goes, .instanceMethod yX2_goes, .selects RX2 yX2_goes yX2_goes, .code yX2_goes cX2_goes 4 (some .boolean), .fieldLink RX2 63 "GridpeerModel" "last" "I"] ++ wsX20)
def wsX2_stored : List Cond := .code yX2_stored cX2_stored 2 (some .int) :: ([.fieldLink RX2 25 "GridpeerModel" "stores" "[I", .methodLink RX2 70 yX2_isHouse, .static yX2_isHouse, .initialized RX2, .code yX2_isHouse cX2_isHouse 1 (some .boolean), .methodLink RX2 66 yX2_in, .static yX2_in, .code yX2_in cX2_in 3 (some .boolean), .methodLink RX2 77 yX2_goes, .instanceMethod yX2_goes, .selects RX2 yX2_goes yX2_goes, .code yX2_goes cX2_goes 4 (some .boolean), .fieldLink RX2 63 "GridpeerModel" "last" "I"] ++ wsX20)
def wsX2_part : List Cond := .code yX2_part cX2_part 2 (some .int) :: ([.fieldLink RX2 22 "GridpeerModel" "parts" "[I", .methodLink RX2 70 yX2_isHouse, .static yX2_isHouse, .initialized RX2, .code yX2_isHouse cX2_isHouse 1 (some .boolean), .methodLink RX2 66 yX2_in, .static yX2_in, .code yX2_in cX2_in 3 (some .boolean), .methodLink RX2 77 yX2_goes, .instanceMethod yX2_goes, .selects RX2 yX2_goes yX2_goes, .code yX2_goes cX2_goes 4 (some .boolean), .fieldLink RX2 63 "GridpeerModel" "last" "I"] ++ wsX20)
def wsX2_bill : List Cond := .code yX2_bill cX2_bill 2 (some .int) :: ([.fieldLink RX2 28 "GridpeerModel" "bills" "[I", .methodLink RX2 70 yX2_isHouse, .static yX2_isHouse, .initialized RX2, .code yX2_isHouse cX2_isHouse 1 (some .boolean), .methodLink RX2 66 yX2_in, .static yX2_in, .code yX2_in cX2_in 3 (some .boolean), .methodLink RX2 77 yX2_goes, .instanceMethod yX2_goes, .selects RX2 yX2_goes yX2_goes, .code yX2_goes cX2_goes 4 (some .boolean), .fieldLink RX2 63 "GridpeerModel" "last" "I"] ++ wsX20)
def wsX2_pool : List Cond := .code yX2_pool cX2_pool 1 (some .int) :: ([.fieldLink RX2 63 "GridpeerModel" "last" "I", .fieldLink RX2 81 "GridpeerModel" "pool" "I"] ++ wsX20)
def wsX2_supplied : List Cond := .code yX2_supplied cX2_supplied 1 (some .int) :: ([.fieldLink RX2 63 "GridpeerModel" "last" "I", .fieldLink RX2 110 "GridpeerModel" "supplied" "I"] ++ wsX20)
def wsJ9_abs_0f7a4 : List Cond := .code yJ9_abs_0f7a4 cJ9_abs_0f7a4 1 (some .int) :: ([])
def wsJ9_max_7cf53 : List Cond := .code yJ9_max_7cf53 cJ9_max_7cf53 2 (some .int) :: ([])
def wsJ9_min_7cf53 : List Cond := .code yJ9_min_7cf53 cJ9_min_7cf53 2 (some .int) :: ([])
def wsL_forecast_r1 : List Cond := [Cond.classLink RL 13 "java/lang/IndexOutOfBoundsException", Cond.classLink RL 15 "java/lang/IllegalArgumentException", Cond.classLink RL 17 "java/lang/IllegalStateException", Cond.methodLink RL 7 yX1_forecast, Cond.instanceMethod yX1_forecast, Cond.selects RX1 yX1_forecast yX1_forecast, Cond.initialized RX1, Cond.code yX1_forecast cX1_forecast 4 (some .int), Cond.fieldLink RX1 13 "Gridpeer" "forecasts" "[I", Cond.methodLink RX1 67 yX1_checkHouse, Cond.static yX1_checkHouse, Cond.code yX1_checkHouse cX1_checkHouse 1 none, Cond.classLink RX1 139 "java/lang/IndexOutOfBoundsException", Cond.initialized "java/lang/IndexOutOfBoundsException", Cond.methodLink RX1 71 yX1_checkRange, Cond.static yX1_checkRange, Cond.code yX1_checkRange cX1_checkRange 3 none, Cond.classLink RX1 81 "java/lang/IllegalArgumentException", Cond.initialized "java/lang/IllegalArgumentException", Cond.methodLink RX1 75 yX1_checkMember, Cond.instanceMethod yX1_checkMember, Cond.selects RX1 yX1_checkMember yX1_checkMember, Cond.code yX1_checkMember cX1_checkMember 2 none, Cond.classLink RX1 88 "java/lang/IllegalStateException"]
def wsL_forecast_r2 : List Cond := [Cond.initialized "java/lang/IllegalStateException", Cond.fieldLink RX1 9 "Gridpeer" "members" "[Z"]
def wsL_forecast : List Cond := .codeWith yL_forecast cL_forecast 5 (some .int) [(0, 10, 13, 13), (0, 10, 17, 15), (0, 10, 21, 17)] :: ((wsL_forecast_r1 ++ wsL_forecast_r2) ++ wsX10 ++ (vx_atS RX1 143 "java/lang/IndexOutOfBoundsException" ["java/lang/RuntimeException", "java/lang/Exception"]).filter goodWord ++ (vx_atS RX1 85 "java/lang/IllegalArgumentException" ["java/lang/RuntimeException", "java/lang/Exception"]).filter goodWord ++ (vx_atS RX1 92 "java/lang/IllegalStateException" ["java/lang/RuntimeException", "java/lang/Exception"]).filter goodWord)
def wsL_meter_r1 : List Cond := [Cond.classLink RL 13 "java/lang/IndexOutOfBoundsException", Cond.classLink RL 15 "java/lang/IllegalArgumentException", Cond.classLink RL 17 "java/lang/IllegalStateException", Cond.methodLink RL 19 yX1_meter, Cond.instanceMethod yX1_meter, Cond.selects RX1 yX1_meter yX1_meter, Cond.initialized RX1, Cond.code yX1_meter cX1_meter 4 (some .int), Cond.fieldLink RX1 17 "Gridpeer" "meters" "[I", Cond.methodLink RX1 67 yX1_checkHouse, Cond.static yX1_checkHouse, Cond.code yX1_checkHouse cX1_checkHouse 1 none, Cond.classLink RX1 139 "java/lang/IndexOutOfBoundsException", Cond.initialized "java/lang/IndexOutOfBoundsException", Cond.methodLink RX1 71 yX1_checkRange, Cond.static yX1_checkRange, Cond.code yX1_checkRange cX1_checkRange 3 none, Cond.classLink RX1 81 "java/lang/IllegalArgumentException", Cond.initialized "java/lang/IllegalArgumentException", Cond.methodLink RX1 75 yX1_checkMember, Cond.instanceMethod yX1_checkMember, Cond.selects RX1 yX1_checkMember yX1_checkMember, Cond.code yX1_checkMember cX1_checkMember 2 none, Cond.classLink RX1 88 "java/lang/IllegalStateException"]
def wsL_meter_r2 : List Cond := [Cond.initialized "java/lang/IllegalStateException", Cond.fieldLink RX1 9 "Gridpeer" "members" "[Z"]
def wsL_meter : List Cond := .codeWith yL_meter cL_meter 5 (some .int) [(0, 10, 13, 13), (0, 10, 17, 15), (0, 10, 21, 17)] :: ((wsL_meter_r1 ++ wsL_meter_r2) ++ wsX10 ++ (vx_atS RX1 143 "java/lang/IndexOutOfBoundsException" ["java/lang/RuntimeException", "java/lang/Exception"]).filter goodWord ++ (vx_atS RX1 85 "java/lang/IllegalArgumentException" ["java/lang/RuntimeException", "java/lang/Exception"]).filter goodWord ++ (vx_atS RX1 92 "java/lang/IllegalStateException" ["java/lang/RuntimeException", "java/lang/Exception"]).filter goodWord)
def wsL_setPrice : List Cond := .codeWith yL_setPrice cL_setPrice 5 (some .int) [(0, 10, 13, 13), (0, 10, 17, 15)] :: ([.classLink RL 13 "java/lang/IndexOutOfBoundsException", .classLink RL 15 "java/lang/IllegalArgumentException", .methodLink RL 22 yX1_setPrice, .instanceMethod yX1_setPrice, .selects RX1 yX1_setPrice yX1_setPrice, .initialized RX1, .code yX1_setPrice cX1_setPrice 4 (some .int), .fieldLink RX1 20 "Gridpeer" "prices" "[I", .methodLink RX1 67 yX1_checkHouse, .static yX1_checkHouse, .code yX1_checkHouse cX1_checkHouse 1 none, .classLink RX1 139 "java/lang/IndexOutOfBoundsException", .initialized "java/lang/IndexOutOfBoundsException", .methodLink RX1 71 yX1_checkRange, .static yX1_checkRange, .code yX1_checkRange cX1_checkRange 3 none, .classLink RX1 81 "java/lang/IllegalArgumentException", .initialized "java/lang/IllegalArgumentException"] ++ wsX10 ++ (vx_atS RX1 143 "java/lang/IndexOutOfBoundsException" ["java/lang/RuntimeException", "java/lang/Exception"]).filter goodWord ++ (vx_atS RX1 85 "java/lang/IllegalArgumentException" ["java/lang/RuntimeException", "java/lang/Exception"]).filter goodWord)
def wsL_setLimit : List Cond := .codeWith yL_setLimit cL_setLimit 5 (some .int) [(0, 10, 13, 13), (0, 10, 17, 15)] :: ([.classLink RL 13 "java/lang/IndexOutOfBoundsException", .classLink RL 15 "java/lang/IllegalArgumentException", .methodLink RL 25 yX1_setLimit, .instanceMethod yX1_setLimit, .selects RX1 yX1_setLimit yX1_setLimit, .initialized RX1, .code yX1_setLimit cX1_setLimit 4 (some .int), .fieldLink RX1 35 "Gridpeer" "limits" "[I", .methodLink RX1 78 yX1_checkStretch, .static yX1_checkStretch, .code yX1_checkStretch cX1_checkStretch 1 none, .classLink RX1 139 "java/lang/IndexOutOfBoundsException", .initialized "java/lang/IndexOutOfBoundsException", .methodLink RX1 71 yX1_checkRange, .static yX1_checkRange, .code yX1_checkRange cX1_checkRange 3 none, .classLink RX1 81 "java/lang/IllegalArgumentException", .initialized "java/lang/IllegalArgumentException"] ++ wsX10 ++ (vx_atS RX1 143 "java/lang/IndexOutOfBoundsException" ["java/lang/RuntimeException", "java/lang/Exception"]).filter goodWord ++ (vx_atS RX1 85 "java/lang/IllegalArgumentException" ["java/lang/RuntimeException", "java/lang/Exception"]).filter goodWord)
def wsL_setSupplier : List Cond := .codeWith yL_setSupplier cL_setSupplier 4 (some .int) [(0, 6, 9, 15)] :: ([.classLink RL 15 "java/lang/IllegalArgumentException", .methodLink RL 28 yX1_setSupplier, .instanceMethod yX1_setSupplier, .selects RX1 yX1_setSupplier yX1_setSupplier, .initialized RX1, .code yX1_setSupplier cX1_setSupplier 3 none, .fieldLink RX1 51 "Gridpeer" "sells" "I", .fieldLink RX1 55 "Gridpeer" "buys" "I", .methodLink RX1 71 yX1_checkRange, .static yX1_checkRange, .code yX1_checkRange cX1_checkRange 3 none, .classLink RX1 81 "java/lang/IllegalArgumentException", .initialized "java/lang/IllegalArgumentException"] ++ wsX10 ++ (vx_atS RX1 85 "java/lang/IllegalArgumentException" ["java/lang/RuntimeException", "java/lang/Exception"]).filter goodWord)
def wsL_rent_r1 : List Cond := [Cond.classLink RL 13 "java/lang/IndexOutOfBoundsException", Cond.classLink RL 15 "java/lang/IllegalArgumentException", Cond.classLink RL 17 "java/lang/IllegalStateException", Cond.methodLink RL 32 yX1_rent, Cond.instanceMethod yX1_rent, Cond.selects RX1 yX1_rent yX1_rent, Cond.initialized RX1, Cond.code yX1_rent cX1_rent 4 (some .int), Cond.classLink RX1 81 "java/lang/IllegalArgumentException", Cond.initialized "java/lang/IllegalArgumentException", Cond.classLink RX1 88 "java/lang/IllegalStateException", Cond.initialized "java/lang/IllegalStateException", Cond.fieldLink RX1 23 "Gridpeer" "parts" "[I", Cond.fieldLink RX1 26 "Gridpeer" "stores" "[I", Cond.methodLink RX1 67 yX1_checkHouse, Cond.static yX1_checkHouse, Cond.code yX1_checkHouse cX1_checkHouse 1 none, Cond.classLink RX1 139 "java/lang/IndexOutOfBoundsException", Cond.initialized "java/lang/IndexOutOfBoundsException", Cond.methodLink RX1 71 yX1_checkRange, Cond.static yX1_checkRange, Cond.code yX1_checkRange cX1_checkRange 3 none, Cond.methodLink RX1 75 yX1_checkMember, Cond.instanceMethod yX1_checkMember]
def wsL_rent_r2 : List Cond := [Cond.selects RX1 yX1_checkMember yX1_checkMember, Cond.code yX1_checkMember cX1_checkMember 2 none, Cond.fieldLink RX1 9 "Gridpeer" "members" "[Z"]
def wsL_rent : List Cond := .codeWith yL_rent cL_rent 6 (some .int) [(0, 12, 15, 13), (0, 12, 19, 15), (0, 12, 23, 17)] :: ((wsL_rent_r1 ++ wsL_rent_r2) ++ wsX10 ++ (vx_atS RX1 85 "java/lang/IllegalArgumentException" ["java/lang/RuntimeException", "java/lang/Exception"]).filter goodWord ++ (vx_atS RX1 92 "java/lang/IllegalStateException" ["java/lang/RuntimeException", "java/lang/Exception"]).filter goodWord ++ (vx_atS RX1 143 "java/lang/IndexOutOfBoundsException" ["java/lang/RuntimeException", "java/lang/Exception"]).filter goodWord)
def wsL_leave_r1 : List Cond := [Cond.classLink RL 13 "java/lang/IndexOutOfBoundsException", Cond.classLink RL 17 "java/lang/IllegalStateException", Cond.methodLink RL 36 yX1_leave, Cond.instanceMethod yX1_leave, Cond.selects RX1 yX1_leave yX1_leave, Cond.initialized RX1, Cond.code yX1_leave cX1_leave 3 (some .int), Cond.fieldLink RX1 26 "Gridpeer" "stores" "[I", Cond.fieldLink RX1 55 "Gridpeer" "buys" "I", Cond.fieldLink RX1 9 "Gridpeer" "members" "[Z", Cond.fieldLink RX1 13 "Gridpeer" "forecasts" "[I", Cond.fieldLink RX1 17 "Gridpeer" "meters" "[I", Cond.fieldLink RX1 23 "Gridpeer" "parts" "[I", Cond.methodLink RX1 67 yX1_checkHouse, Cond.static yX1_checkHouse, Cond.code yX1_checkHouse cX1_checkHouse 1 none, Cond.classLink RX1 139 "java/lang/IndexOutOfBoundsException", Cond.initialized "java/lang/IndexOutOfBoundsException", Cond.methodLink RX1 75 yX1_checkMember, Cond.instanceMethod yX1_checkMember, Cond.selects RX1 yX1_checkMember yX1_checkMember, Cond.code yX1_checkMember cX1_checkMember 2 none, Cond.classLink RX1 88 "java/lang/IllegalStateException", Cond.initialized "java/lang/IllegalStateException"]
def wsL_leave_r2 : List Cond := [Cond.methodLink RX1 93 yX1_payPool, Cond.instanceMethod yX1_payPool, Cond.selects RX1 yX1_payPool yX1_payPool, Cond.code yX1_payPool cX1_payPool 3 none, Cond.fieldLink RX1 29 "Gridpeer" "bills" "[I", Cond.fieldLink RX1 58 "Gridpeer" "pool" "I"]
def wsL_leave : List Cond := .codeWith yL_leave cL_leave 4 (some .int) [(0, 9, 12, 13), (0, 9, 15, 17)] :: ((wsL_leave_r1 ++ wsL_leave_r2) ++ wsX10 ++ (vx_atS RX1 143 "java/lang/IndexOutOfBoundsException" ["java/lang/RuntimeException", "java/lang/Exception"]).filter goodWord ++ (vx_atS RX1 92 "java/lang/IllegalStateException" ["java/lang/RuntimeException", "java/lang/Exception"]).filter goodWord)
def wsL_clear_r1 : List Cond := [Cond.classLink RL 17 "java/lang/IllegalStateException", Cond.methodLink RL 40 yX1_clear, Cond.instanceMethod yX1_clear, Cond.selects RX1 yX1_clear yX1_clear, Cond.initialized RX1, Cond.code yX1_clear cX1_clear 2 (some .int), Cond.classLink RX1 88 "java/lang/IllegalStateException", Cond.initialized "java/lang/IllegalStateException", Cond.fieldLink RX1 64 "Gridpeer" "quarter" "I", Cond.fieldLink RX1 17 "Gridpeer" "meters" "[I", Cond.fieldLink RX1 13 "Gridpeer" "forecasts" "[I", Cond.methodLink RX1 120 Lib.Math.abs.name, Cond.static Lib.Math.abs.name, Cond.initialized "java/lang/Math", Cond.code Lib.Math.abs.name Lib.Math.abs.code 1 (some .int), Cond.fieldLink RX1 41 "Gridpeer" "ways" "[I", Cond.methodLink RX1 99 yX1_beginClearing, Cond.instanceMethod yX1_beginClearing, Cond.selects RX1 yX1_beginClearing yX1_beginClearing, Cond.code yX1_beginClearing cX1_beginClearing 2 none, Cond.fieldLink RX1 47 "Gridpeer" "book" "LGridpeer$TradeBook;", Cond.fieldLink RX1 32 "Gridpeer" "lefts" "[I", Cond.instanceMethod yX0_empty, Cond.initialized RX0]
def wsL_clear_r2 : List Cond := [Cond.selects RX0 yX0_empty yX0_empty, Cond.code yX0_empty cX0_empty 1 none, Cond.fieldLink RX0 27 "Gridpeer$TradeBook" "count" "I", Cond.methodLink RX1 102 yX1_matchBuyers, Cond.instanceMethod yX1_matchBuyers, Cond.selects RX1 yX1_matchBuyers yX1_matchBuyers, Cond.code yX1_matchBuyers cX1_matchBuyers 3 none, Cond.methodLink RX1 169 yX1_rankOf, Cond.instanceMethod yX1_rankOf, Cond.selects RX1 yX1_rankOf yX1_rankOf, Cond.code yX1_rankOf cX1_rankOf 4 (some .int), Cond.fieldLink RX1 20 "Gridpeer" "prices" "[I", Cond.methodLink RX1 172 yX1_serveBuyer, Cond.instanceMethod yX1_serveBuyer, Cond.selects RX1 yX1_serveBuyer yX1_serveBuyer, Cond.code yX1_serveBuyer cX1_serveBuyer 5 none, Cond.methodLink RX1 132 Lib.Math.min.name, Cond.static Lib.Math.min.name, Cond.code Lib.Math.min.name Lib.Math.min.code 2 (some .int), Cond.methodLink RX1 175 yX1_bestSeller, Cond.instanceMethod yX1_bestSeller, Cond.selects RX1 yX1_bestSeller yX1_bestSeller, Cond.code yX1_bestSeller cX1_bestSeller 4 (some .int), Cond.methodLink RX1 182 yX1_isBetterSeller]
def wsL_clear_r3 : List Cond := [Cond.instanceMethod yX1_isBetterSeller, Cond.selects RX1 yX1_isBetterSeller yX1_isBetterSeller, Cond.code yX1_isBetterSeller cX1_isBetterSeller 4 (some .boolean), Cond.instanceMethod yX0_add, Cond.selects RX0 yX0_add yX0_add, Cond.code yX0_add cX0_add 5 none, Cond.fieldLink RX0 9 "Gridpeer$TradeBook" "sellers" "[I", Cond.fieldLink RX0 15 "Gridpeer$TradeBook" "buyers" "[I", Cond.fieldLink RX0 18 "Gridpeer$TradeBook" "units" "[I", Cond.fieldLink RX0 21 "Gridpeer$TradeBook" "cuts" "[I", Cond.fieldLink RX0 24 "Gridpeer$TradeBook" "prices" "[I", Cond.methodLink RX1 105 yX1_cutOverLimits, Cond.instanceMethod yX1_cutOverLimits, Cond.selects RX1 yX1_cutOverLimits yX1_cutOverLimits, Cond.code yX1_cutOverLimits cX1_cutOverLimits 4 none, Cond.fieldLink RX1 35 "Gridpeer" "limits" "[I", Cond.instanceMethod yX0_cutOver, Cond.selects RX0 yX0_cutOver yX0_cutOver, Cond.code yX0_cutOver cX0_cutOver 8 (some .boolean), Cond.methodLink RX0 39 Lib.Math.abs.name, Cond.methodLink RX0 44 Lib.Math.min.name, Cond.methodLink RX0 35 yX0_flowOver, Cond.instanceMethod yX0_flowOver, Cond.selects RX0 yX0_flowOver yX0_flowOver]
def wsL_clear_r4 : List Cond := [Cond.code yX0_flowOver cX0_flowOver 4 (some .int), Cond.methodLink RX0 31 yX0_direction, Cond.static yX0_direction, Cond.code yX0_direction cX0_direction 3 (some .int), Cond.methodLink RX1 108 yX1_countTrades, Cond.instanceMethod yX1_countTrades, Cond.selects RX1 yX1_countTrades yX1_countTrades, Cond.code yX1_countTrades cX1_countTrades 2 none, Cond.fieldLink RX1 58 "Gridpeer" "pool" "I", Cond.fieldLink RX1 38 "Gridpeer" "flows" "[I", Cond.methodLink RX1 111 yX1_settleTrades, Cond.instanceMethod yX1_settleTrades, Cond.selects RX1 yX1_settleTrades yX1_settleTrades, Cond.code yX1_settleTrades cX1_settleTrades 4 none, Cond.fieldLink RX1 29 "Gridpeer" "bills" "[I", Cond.methodLink RX1 114 yX1_useBattery, Cond.instanceMethod yX1_useBattery, Cond.selects RX1 yX1_useBattery yX1_useBattery, Cond.code yX1_useBattery cX1_useBattery 2 none, Cond.fieldLink RX1 23 "Gridpeer" "parts" "[I", Cond.fieldLink RX1 26 "Gridpeer" "stores" "[I", Cond.methodLink RX1 196 yX1_putIn, Cond.instanceMethod yX1_putIn, Cond.selects RX1 yX1_putIn yX1_putIn]
def wsL_clear_r5 : List Cond := [Cond.code yX1_putIn cX1_putIn 3 none, Cond.methodLink RX1 199 yX1_takeOut, Cond.instanceMethod yX1_takeOut, Cond.selects RX1 yX1_takeOut yX1_takeOut, Cond.code yX1_takeOut cX1_takeOut 4 none, Cond.methodLink RX1 202 Lib.Math.max.name, Cond.static Lib.Math.max.name, Cond.code Lib.Math.max.name Lib.Math.max.code 2 (some .int), Cond.methodLink RX1 93 yX1_payPool, Cond.instanceMethod yX1_payPool, Cond.selects RX1 yX1_payPool yX1_payPool, Cond.code yX1_payPool cX1_payPool 3 none, Cond.methodLink RX1 117 yX1_settleWithSupplier, Cond.instanceMethod yX1_settleWithSupplier, Cond.selects RX1 yX1_settleWithSupplier yX1_settleWithSupplier, Cond.code yX1_settleWithSupplier cX1_settleWithSupplier 4 none, Cond.fieldLink RX1 51 "Gridpeer" "sells" "I", Cond.fieldLink RX1 55 "Gridpeer" "buys" "I", Cond.fieldLink RX1 61 "Gridpeer" "supplied" "I", Cond.methodLink RX1 126 yX1_beginNextQuarter, Cond.instanceMethod yX1_beginNextQuarter, Cond.selects RX1 yX1_beginNextQuarter yX1_beginNextQuarter, Cond.code yX1_beginNextQuarter cX1_beginNextQuarter 2 none]
def wsL_clear : List Cond := .codeWith yL_clear cL_clear 3 (some .int) [(0, 8, 11, 17)] :: ((wsL_clear_r1 ++ (wsL_clear_r2 ++ (wsL_clear_r3 ++ (wsL_clear_r4 ++ wsL_clear_r5)))) ++ wsX10 ++ wsX00 ++ (vx_atS RX1 92 "java/lang/IllegalStateException" ["java/lang/RuntimeException", "java/lang/Exception"]).filter goodWord)
def wsL_ofTrade : List Cond := .codeWith yL_ofTrade cL_ofTrade 5 (some .int) [(0, 10, 13, 13)] :: ([.classLink RL 13 "java/lang/IndexOutOfBoundsException", .methodLink RL 44 yX1_ofTrade, .instanceMethod yX1_ofTrade, .selects RX1 yX1_ofTrade yX1_ofTrade, .initialized RX1, .code yX1_ofTrade cX1_ofTrade 3 (some .int), .classLink RX1 139 "java/lang/IndexOutOfBoundsException", .initialized "java/lang/IndexOutOfBoundsException", .fieldLink RX1 47 "Gridpeer" "book" "LGridpeer$TradeBook;"] ++ wsX10 ++ wsX00 ++ (vx_atS RX1 143 "java/lang/IndexOutOfBoundsException" ["java/lang/RuntimeException", "java/lang/Exception"]).filter goodWord)
def wsL_went : List Cond := .codeWith yL_went cL_went 4 (some .int) [(0, 9, 12, 13)] :: ([.classLink RL 13 "java/lang/IndexOutOfBoundsException", .methodLink RL 47 yX1_went, .instanceMethod yX1_went, .selects RX1 yX1_went yX1_went, .initialized RX1, .code yX1_went cX1_went 2 (some .int), .classLink RX1 139 "java/lang/IndexOutOfBoundsException", .initialized "java/lang/IndexOutOfBoundsException", .fieldLink RX1 41 "Gridpeer" "ways" "[I"] ++ wsX10 ++ (vx_atS RX1 143 "java/lang/IndexOutOfBoundsException" ["java/lang/RuntimeException", "java/lang/Exception"]).filter goodWord)
def wsL_flow : List Cond := .codeWith yL_flow cL_flow 4 (some .int) [(0, 9, 12, 13)] :: ([.classLink RL 13 "java/lang/IndexOutOfBoundsException", .methodLink RL 50 yX1_flow, .instanceMethod yX1_flow, .selects RX1 yX1_flow yX1_flow, .initialized RX1, .code yX1_flow cX1_flow 2 (some .int), .fieldLink RX1 38 "Gridpeer" "flows" "[I", .methodLink RX1 78 yX1_checkStretch, .static yX1_checkStretch, .code yX1_checkStretch cX1_checkStretch 1 none, .classLink RX1 139 "java/lang/IndexOutOfBoundsException", .initialized "java/lang/IndexOutOfBoundsException"] ++ wsX10 ++ (vx_atS RX1 143 "java/lang/IndexOutOfBoundsException" ["java/lang/RuntimeException", "java/lang/Exception"]).filter goodWord)
def wsL_isMember : List Cond := .codeWith yL_isMember cL_isMember 4 (some .int) [(0, 16, 19, 13)] :: ([.classLink RL 13 "java/lang/IndexOutOfBoundsException", .methodLink RL 53 yX1_isMember, .instanceMethod yX1_isMember, .selects RX1 yX1_isMember yX1_isMember, .initialized RX1, .code yX1_isMember cX1_isMember 2 (some .boolean), .fieldLink RX1 9 "Gridpeer" "members" "[Z", .methodLink RX1 67 yX1_checkHouse, .static yX1_checkHouse, .code yX1_checkHouse cX1_checkHouse 1 none, .classLink RX1 139 "java/lang/IndexOutOfBoundsException", .initialized "java/lang/IndexOutOfBoundsException"] ++ wsX10 ++ (vx_atS RX1 143 "java/lang/IndexOutOfBoundsException" ["java/lang/RuntimeException", "java/lang/Exception"]).filter goodWord)
def wsL_stored : List Cond := .codeWith yL_stored cL_stored 4 (some .int) [(0, 9, 12, 13)] :: ([.classLink RL 13 "java/lang/IndexOutOfBoundsException", .methodLink RL 57 yX1_stored, .instanceMethod yX1_stored, .selects RX1 yX1_stored yX1_stored, .initialized RX1, .code yX1_stored cX1_stored 2 (some .int), .fieldLink RX1 26 "Gridpeer" "stores" "[I", .methodLink RX1 67 yX1_checkHouse, .static yX1_checkHouse, .code yX1_checkHouse cX1_checkHouse 1 none, .classLink RX1 139 "java/lang/IndexOutOfBoundsException", .initialized "java/lang/IndexOutOfBoundsException"] ++ wsX10 ++ (vx_atS RX1 143 "java/lang/IndexOutOfBoundsException" ["java/lang/RuntimeException", "java/lang/Exception"]).filter goodWord)
def wsL_part : List Cond := .codeWith yL_part cL_part 4 (some .int) [(0, 9, 12, 13)] :: ([.classLink RL 13 "java/lang/IndexOutOfBoundsException", .methodLink RL 60 yX1_part, .instanceMethod yX1_part, .selects RX1 yX1_part yX1_part, .initialized RX1, .code yX1_part cX1_part 2 (some .int), .fieldLink RX1 23 "Gridpeer" "parts" "[I", .methodLink RX1 67 yX1_checkHouse, .static yX1_checkHouse, .code yX1_checkHouse cX1_checkHouse 1 none, .classLink RX1 139 "java/lang/IndexOutOfBoundsException", .initialized "java/lang/IndexOutOfBoundsException"] ++ wsX10 ++ (vx_atS RX1 143 "java/lang/IndexOutOfBoundsException" ["java/lang/RuntimeException", "java/lang/Exception"]).filter goodWord)
def wsL_bill : List Cond := .codeWith yL_bill cL_bill 4 (some .int) [(0, 9, 12, 13)] :: ([.classLink RL 13 "java/lang/IndexOutOfBoundsException", .methodLink RL 63 yX1_bill, .instanceMethod yX1_bill, .selects RX1 yX1_bill yX1_bill, .initialized RX1, .code yX1_bill cX1_bill 2 (some .int), .fieldLink RX1 29 "Gridpeer" "bills" "[I", .methodLink RX1 67 yX1_checkHouse, .static yX1_checkHouse, .code yX1_checkHouse cX1_checkHouse 1 none, .classLink RX1 139 "java/lang/IndexOutOfBoundsException", .initialized "java/lang/IndexOutOfBoundsException"] ++ wsX10 ++ (vx_atS RX1 143 "java/lang/IndexOutOfBoundsException" ["java/lang/RuntimeException", "java/lang/Exception"]).filter goodWord)
def wsL_law0_r1 : List Cond := [Cond.classLink RL 8 RX1, Cond.instantiable RX1 17, Cond.initialized RX1, Cond.classLink RL 67 RX2, Cond.instantiable RX2 22, Cond.initialized RX2, Cond.arrayClass .long, Cond.methodLink RL 66 yX1_init, Cond.instanceMethod yX1_init, Cond.code yX1_init cX1_init 2 none, Cond.methodLink RX1 3 objectInit, Cond.instanceMethod objectInit, Cond.code objectInit ⟨#[0xb1]⟩ 1 none, Cond.arrayClass .boolean, Cond.fieldLink RX1 9 "Gridpeer" "members" "[Z", Cond.arrayClass .int, Cond.fieldLink RX1 13 "Gridpeer" "forecasts" "[I", Cond.fieldLink RX1 17 "Gridpeer" "meters" "[I", Cond.fieldLink RX1 20 "Gridpeer" "prices" "[I", Cond.fieldLink RX1 23 "Gridpeer" "parts" "[I", Cond.fieldLink RX1 26 "Gridpeer" "stores" "[I", Cond.fieldLink RX1 29 "Gridpeer" "bills" "[I", Cond.fieldLink RX1 32 "Gridpeer" "lefts" "[I", Cond.fieldLink RX1 35 "Gridpeer" "limits" "[I"]
def wsL_law0_r2 : List Cond := [Cond.fieldLink RX1 38 "Gridpeer" "flows" "[I", Cond.fieldLink RX1 41 "Gridpeer" "ways" "[I", Cond.classLink RX1 44 RX0, Cond.instantiable RX0 6, Cond.initialized RX0, Cond.fieldLink RX1 47 "Gridpeer" "book" "LGridpeer$TradeBook;", Cond.fieldLink RX1 51 "Gridpeer" "sells" "I", Cond.fieldLink RX1 55 "Gridpeer" "buys" "I", Cond.fieldLink RX1 58 "Gridpeer" "pool" "I", Cond.fieldLink RX1 61 "Gridpeer" "supplied" "I", Cond.fieldLink RX1 64 "Gridpeer" "quarter" "I", Cond.instanceMethod yX0_init, Cond.code yX0_init cX0_init 1 none, Cond.methodLink RX0 3 objectInit, Cond.fieldLink RX0 9 "Gridpeer$TradeBook" "sellers" "[I", Cond.fieldLink RX0 15 "Gridpeer$TradeBook" "buyers" "[I", Cond.fieldLink RX0 18 "Gridpeer$TradeBook" "units" "[I", Cond.fieldLink RX0 21 "Gridpeer$TradeBook" "cuts" "[I", Cond.fieldLink RX0 24 "Gridpeer$TradeBook" "prices" "[I", Cond.fieldLink RX0 27 "Gridpeer$TradeBook" "count" "I", Cond.methodLink RL 69 yX2_init, Cond.instanceMethod yX2_init, Cond.code yX2_init cX2_init 2 none, Cond.methodLink RX2 1 objectInit]
def wsL_law0_r3 : List Cond := [Cond.fieldLink RX2 7 "GridpeerModel" "forecasts" "[I", Cond.fieldLink RX2 13 "GridpeerModel" "meters" "[I", Cond.fieldLink RX2 16 "GridpeerModel" "prices" "[I", Cond.fieldLink RX2 19 "GridpeerModel" "limits" "[I", Cond.fieldLink RX2 22 "GridpeerModel" "parts" "[I", Cond.fieldLink RX2 25 "GridpeerModel" "stores" "[I", Cond.fieldLink RX2 28 "GridpeerModel" "bills" "[I", Cond.fieldLink RX2 31 "GridpeerModel" "gone" "[Z", Cond.fieldLink RX2 35 "GridpeerModel" "sells" "I", Cond.fieldLink RX2 39 "GridpeerModel" "buys" "I", Cond.fieldLink RX2 42 "GridpeerModel" "sellers" "[I", Cond.fieldLink RX2 45 "GridpeerModel" "buyers" "[I", Cond.fieldLink RX2 48 "GridpeerModel" "units" "[I", Cond.fieldLink RX2 51 "GridpeerModel" "costs" "[I", Cond.fieldLink RX2 54 "GridpeerModel" "went" "[I", Cond.fieldLink RX2 57 "GridpeerModel" "flows" "[I", Cond.fieldLink RX2 60 "GridpeerModel" "left" "[I", Cond.methodLink RL 70 yL_forecast, Cond.static yL_forecast, Cond.initialized RL, Cond.codeWith yL_forecast cL_forecast 5 (some .int) [(0, 10, 13, 13), (0, 10, 17, 15), (0, 10, 21, 17)], Cond.classLink RL 13 "java/lang/IndexOutOfBoundsException", Cond.classLink RL 15 "java/lang/IllegalArgumentException", Cond.classLink RL 17 "java/lang/IllegalStateException"]
def wsL_law0_r4 : List Cond := [Cond.methodLink RL 7 yX1_forecast, Cond.instanceMethod yX1_forecast, Cond.selects RX1 yX1_forecast yX1_forecast, Cond.code yX1_forecast cX1_forecast 4 (some .int), Cond.methodLink RX1 67 yX1_checkHouse, Cond.static yX1_checkHouse, Cond.code yX1_checkHouse cX1_checkHouse 1 none, Cond.classLink RX1 139 "java/lang/IndexOutOfBoundsException", Cond.initialized "java/lang/IndexOutOfBoundsException", Cond.methodLink RX1 71 yX1_checkRange, Cond.static yX1_checkRange, Cond.code yX1_checkRange cX1_checkRange 3 none, Cond.classLink RX1 81 "java/lang/IllegalArgumentException", Cond.initialized "java/lang/IllegalArgumentException", Cond.methodLink RX1 75 yX1_checkMember, Cond.instanceMethod yX1_checkMember, Cond.selects RX1 yX1_checkMember yX1_checkMember, Cond.code yX1_checkMember cX1_checkMember 2 none, Cond.classLink RX1 88 "java/lang/IllegalStateException", Cond.initialized "java/lang/IllegalStateException", Cond.methodLink RL 75 yX2_forecast, Cond.instanceMethod yX2_forecast, Cond.selects RX2 yX2_forecast yX2_forecast, Cond.code yX2_forecast cX2_forecast 4 (some .int)]
def wsL_law0_r5 : List Cond := [Cond.methodLink RX2 70 yX2_isHouse, Cond.static yX2_isHouse, Cond.code yX2_isHouse cX2_isHouse 1 (some .boolean), Cond.methodLink RX2 66 yX2_in, Cond.static yX2_in, Cond.code yX2_in cX2_in 3 (some .boolean), Cond.methodLink RX2 74 yX2_belongs, Cond.instanceMethod yX2_belongs, Cond.selects RX2 yX2_belongs yX2_belongs, Cond.code yX2_belongs cX2_belongs 2 (some .boolean), Cond.methodLink RX2 77 yX2_goes, Cond.instanceMethod yX2_goes, Cond.selects RX2 yX2_goes yX2_goes, Cond.code yX2_goes cX2_goes 4 (some .boolean), Cond.fieldLink RX2 63 "GridpeerModel" "last" "I", Cond.methodLink RL 76 yX2_thrown, Cond.instanceMethod yX2_thrown, Cond.selects RX2 yX2_thrown yX2_thrown, Cond.code yX2_thrown cX2_thrown 1 (some .int), Cond.methodLink RL 79 yL_meter, Cond.static yL_meter, Cond.codeWith yL_meter cL_meter 5 (some .int) [(0, 10, 13, 13), (0, 10, 17, 15), (0, 10, 21, 17)], Cond.methodLink RL 19 yX1_meter, Cond.instanceMethod yX1_meter]
def wsL_law0_r6 : List Cond := [Cond.selects RX1 yX1_meter yX1_meter, Cond.code yX1_meter cX1_meter 4 (some .int), Cond.methodLink RL 81 yX2_meter, Cond.instanceMethod yX2_meter, Cond.selects RX2 yX2_meter yX2_meter, Cond.code yX2_meter cX2_meter 4 (some .int), Cond.methodLink RL 82 yL_setPrice, Cond.static yL_setPrice, Cond.codeWith yL_setPrice cL_setPrice 5 (some .int) [(0, 10, 13, 13), (0, 10, 17, 15)], Cond.methodLink RL 22 yX1_setPrice, Cond.instanceMethod yX1_setPrice, Cond.selects RX1 yX1_setPrice yX1_setPrice, Cond.code yX1_setPrice cX1_setPrice 4 (some .int), Cond.methodLink RL 84 yX2_setPrice, Cond.instanceMethod yX2_setPrice, Cond.selects RX2 yX2_setPrice yX2_setPrice, Cond.code yX2_setPrice cX2_setPrice 4 (some .int), Cond.methodLink RL 85 yL_setLimit, Cond.static yL_setLimit, Cond.codeWith yL_setLimit cL_setLimit 5 (some .int) [(0, 10, 13, 13), (0, 10, 17, 15)], Cond.methodLink RL 25 yX1_setLimit, Cond.instanceMethod yX1_setLimit, Cond.selects RX1 yX1_setLimit yX1_setLimit, Cond.code yX1_setLimit cX1_setLimit 4 (some .int)]
def wsL_law0_r7 : List Cond := [Cond.methodLink RX1 78 yX1_checkStretch, Cond.static yX1_checkStretch, Cond.code yX1_checkStretch cX1_checkStretch 1 none, Cond.methodLink RL 87 yX2_setLimit, Cond.instanceMethod yX2_setLimit, Cond.selects RX2 yX2_setLimit yX2_setLimit, Cond.code yX2_setLimit cX2_setLimit 4 (some .int), Cond.methodLink RL 88 yL_setSupplier, Cond.static yL_setSupplier, Cond.codeWith yL_setSupplier cL_setSupplier 4 (some .int) [(0, 6, 9, 15)], Cond.methodLink RL 28 yX1_setSupplier, Cond.instanceMethod yX1_setSupplier, Cond.selects RX1 yX1_setSupplier yX1_setSupplier, Cond.code yX1_setSupplier cX1_setSupplier 3 none, Cond.methodLink RL 91 yX2_setSupplier, Cond.instanceMethod yX2_setSupplier, Cond.selects RX2 yX2_setSupplier yX2_setSupplier, Cond.code yX2_setSupplier cX2_setSupplier 3 none, Cond.methodLink RL 92 yL_rent, Cond.static yL_rent, Cond.codeWith yL_rent cL_rent 6 (some .int) [(0, 12, 15, 13), (0, 12, 19, 15), (0, 12, 23, 17)], Cond.methodLink RL 32 yX1_rent, Cond.instanceMethod yX1_rent, Cond.selects RX1 yX1_rent yX1_rent]
def wsL_law0_r8 : List Cond := [Cond.code yX1_rent cX1_rent 4 (some .int), Cond.methodLink RL 95 yX2_rent, Cond.instanceMethod yX2_rent, Cond.selects RX2 yX2_rent yX2_rent, Cond.code yX2_rent cX2_rent 6 (some .int), Cond.methodLink RL 96 yL_leave, Cond.static yL_leave, Cond.codeWith yL_leave cL_leave 4 (some .int) [(0, 9, 12, 13), (0, 9, 15, 17)], Cond.methodLink RL 36 yX1_leave, Cond.instanceMethod yX1_leave, Cond.selects RX1 yX1_leave yX1_leave, Cond.code yX1_leave cX1_leave 3 (some .int), Cond.methodLink RX1 93 yX1_payPool, Cond.instanceMethod yX1_payPool, Cond.selects RX1 yX1_payPool yX1_payPool, Cond.code yX1_payPool cX1_payPool 3 none, Cond.methodLink RL 99 yX2_leave, Cond.instanceMethod yX2_leave, Cond.selects RX2 yX2_leave yX2_leave, Cond.code yX2_leave cX2_leave 3 (some .int), Cond.fieldLink RX2 81 "GridpeerModel" "pool" "I", Cond.methodLink RL 100 yL_clear, Cond.static yL_clear, Cond.codeWith yL_clear cL_clear 3 (some .int) [(0, 8, 11, 17)]]
def wsL_law0_r9 : List Cond := [Cond.methodLink RL 40 yX1_clear, Cond.instanceMethod yX1_clear, Cond.selects RX1 yX1_clear yX1_clear, Cond.code yX1_clear cX1_clear 2 (some .int), Cond.methodLink RX1 120 Lib.Math.abs.name, Cond.static Lib.Math.abs.name, Cond.initialized "java/lang/Math", Cond.code Lib.Math.abs.name Lib.Math.abs.code 1 (some .int), Cond.methodLink RX1 99 yX1_beginClearing, Cond.instanceMethod yX1_beginClearing, Cond.selects RX1 yX1_beginClearing yX1_beginClearing, Cond.code yX1_beginClearing cX1_beginClearing 2 none, Cond.instanceMethod yX0_empty, Cond.selects RX0 yX0_empty yX0_empty, Cond.code yX0_empty cX0_empty 1 none, Cond.methodLink RX1 102 yX1_matchBuyers, Cond.instanceMethod yX1_matchBuyers, Cond.selects RX1 yX1_matchBuyers yX1_matchBuyers, Cond.code yX1_matchBuyers cX1_matchBuyers 3 none, Cond.methodLink RX1 169 yX1_rankOf, Cond.instanceMethod yX1_rankOf, Cond.selects RX1 yX1_rankOf yX1_rankOf, Cond.code yX1_rankOf cX1_rankOf 4 (some .int), Cond.methodLink RX1 172 yX1_serveBuyer]
def wsL_law0_r10 : List Cond := [Cond.instanceMethod yX1_serveBuyer, Cond.selects RX1 yX1_serveBuyer yX1_serveBuyer, Cond.code yX1_serveBuyer cX1_serveBuyer 5 none, Cond.methodLink RX1 132 Lib.Math.min.name, Cond.static Lib.Math.min.name, Cond.code Lib.Math.min.name Lib.Math.min.code 2 (some .int), Cond.methodLink RX1 175 yX1_bestSeller, Cond.instanceMethod yX1_bestSeller, Cond.selects RX1 yX1_bestSeller yX1_bestSeller, Cond.code yX1_bestSeller cX1_bestSeller 4 (some .int), Cond.methodLink RX1 182 yX1_isBetterSeller, Cond.instanceMethod yX1_isBetterSeller, Cond.selects RX1 yX1_isBetterSeller yX1_isBetterSeller, Cond.code yX1_isBetterSeller cX1_isBetterSeller 4 (some .boolean), Cond.instanceMethod yX0_add, Cond.selects RX0 yX0_add yX0_add, Cond.code yX0_add cX0_add 5 none, Cond.methodLink RX1 105 yX1_cutOverLimits, Cond.instanceMethod yX1_cutOverLimits, Cond.selects RX1 yX1_cutOverLimits yX1_cutOverLimits, Cond.code yX1_cutOverLimits cX1_cutOverLimits 4 none, Cond.instanceMethod yX0_cutOver, Cond.selects RX0 yX0_cutOver yX0_cutOver, Cond.code yX0_cutOver cX0_cutOver 8 (some .boolean)]
def wsL_law0_r11 : List Cond := [Cond.methodLink RX0 39 Lib.Math.abs.name, Cond.methodLink RX0 44 Lib.Math.min.name, Cond.methodLink RX0 35 yX0_flowOver, Cond.instanceMethod yX0_flowOver, Cond.selects RX0 yX0_flowOver yX0_flowOver, Cond.code yX0_flowOver cX0_flowOver 4 (some .int), Cond.methodLink RX0 31 yX0_direction, Cond.static yX0_direction, Cond.code yX0_direction cX0_direction 3 (some .int), Cond.methodLink RX1 108 yX1_countTrades, Cond.instanceMethod yX1_countTrades, Cond.selects RX1 yX1_countTrades yX1_countTrades, Cond.code yX1_countTrades cX1_countTrades 2 none, Cond.methodLink RX1 111 yX1_settleTrades, Cond.instanceMethod yX1_settleTrades, Cond.selects RX1 yX1_settleTrades yX1_settleTrades, Cond.code yX1_settleTrades cX1_settleTrades 4 none, Cond.methodLink RX1 114 yX1_useBattery, Cond.instanceMethod yX1_useBattery, Cond.selects RX1 yX1_useBattery yX1_useBattery, Cond.code yX1_useBattery cX1_useBattery 2 none, Cond.methodLink RX1 196 yX1_putIn, Cond.instanceMethod yX1_putIn, Cond.selects RX1 yX1_putIn yX1_putIn]
def wsL_law0_r12 : List Cond := [Cond.code yX1_putIn cX1_putIn 3 none, Cond.methodLink RX1 199 yX1_takeOut, Cond.instanceMethod yX1_takeOut, Cond.selects RX1 yX1_takeOut yX1_takeOut, Cond.code yX1_takeOut cX1_takeOut 4 none, Cond.methodLink RX1 202 Lib.Math.max.name, Cond.static Lib.Math.max.name, Cond.code Lib.Math.max.name Lib.Math.max.code 2 (some .int), Cond.methodLink RX1 117 yX1_settleWithSupplier, Cond.instanceMethod yX1_settleWithSupplier, Cond.selects RX1 yX1_settleWithSupplier yX1_settleWithSupplier, Cond.code yX1_settleWithSupplier cX1_settleWithSupplier 4 none, Cond.methodLink RX1 126 yX1_beginNextQuarter, Cond.instanceMethod yX1_beginNextQuarter, Cond.selects RX1 yX1_beginNextQuarter yX1_beginNextQuarter, Cond.code yX1_beginNextQuarter cX1_beginNextQuarter 2 none, Cond.methodLink RL 103 yX2_clear, Cond.instanceMethod yX2_clear, Cond.selects RX2 yX2_clear yX2_clear, Cond.code yX2_clear cX2_clear 4 (some .int), Cond.fieldLink RX2 113 "GridpeerModel" "quarter" "I", Cond.fieldLink RX2 101 "GridpeerModel" "trades" "I", Cond.methodLink RX2 90 yX2_size, Cond.static yX2_size]
def wsL_law0_r13 : List Cond := [Cond.code yX2_size cX2_size 1 (some .int), Cond.methodLink RX2 84 yX2_isBuyer, Cond.instanceMethod yX2_isBuyer, Cond.selects RX2 yX2_isBuyer yX2_isBuyer, Cond.code yX2_isBuyer cX2_isBuyer 2 (some .boolean), Cond.methodLink RX2 116 yX2_turnOf, Cond.instanceMethod yX2_turnOf, Cond.selects RX2 yX2_turnOf yX2_turnOf, Cond.code yX2_turnOf cX2_turnOf 4 (some .int), Cond.methodLink RX2 119 yX2_takes, Cond.instanceMethod yX2_takes, Cond.selects RX2 yX2_takes yX2_takes, Cond.code yX2_takes cX2_takes 4 none, Cond.methodLink RX2 94 yX2_sellerFor, Cond.instanceMethod yX2_sellerFor, Cond.selects RX2 yX2_sellerFor yX2_sellerFor, Cond.code yX2_sellerFor cX2_sellerFor 6 (some .int), Cond.methodLink RX2 87 yX2_isSeller, Cond.instanceMethod yX2_isSeller, Cond.selects RX2 yX2_isSeller yX2_isSeller, Cond.code yX2_isSeller cX2_isSeller 2 (some .boolean), Cond.methodLink RX2 97 yX2_lesser, Cond.static yX2_lesser, Cond.code yX2_lesser cX2_lesser 2 (some .int)]
def wsL_law0_r14 : List Cond := [Cond.methodLink RX2 123 yX2_cuts, Cond.instanceMethod yX2_cuts, Cond.selects RX2 yX2_cuts yX2_cuts, Cond.code yX2_cuts cX2_cuts 6 (some .int), Cond.methodLink RX2 107 yX2_flowOver, Cond.instanceMethod yX2_flowOver, Cond.selects RX2 yX2_flowOver yX2_flowOver, Cond.code yX2_flowOver cX2_flowOver 4 (some .int), Cond.methodLink RX2 104 yX2_over, Cond.instanceMethod yX2_over, Cond.selects RX2 yX2_over yX2_over, Cond.code yX2_over cX2_over 5 (some .int), Cond.methodLink RX2 126 yX2_keeps, Cond.instanceMethod yX2_keeps, Cond.selects RX2 yX2_keeps yX2_keeps, Cond.code yX2_keeps cX2_keeps 3 none, Cond.fieldLink RX2 110 "GridpeerModel" "supplied" "I", Cond.methodLink RX2 129 yX2_draws, Cond.instanceMethod yX2_draws, Cond.selects RX2 yX2_draws yX2_draws, Cond.code yX2_draws cX2_draws 5 none, Cond.methodLink RL 104 yX1_quarter, Cond.instanceMethod yX1_quarter, Cond.selects RX1 yX1_quarter yX1_quarter]
def wsL_law0_r15 : List Cond := [Cond.code yX1_quarter cX1_quarter 1 (some .int), Cond.methodLink RL 107 yX2_quarter, Cond.instanceMethod yX2_quarter, Cond.selects RX2 yX2_quarter yX2_quarter, Cond.code yX2_quarter cX2_quarter 1 (some .int), Cond.methodLink RL 108 yX1_mostTradable, Cond.instanceMethod yX1_mostTradable, Cond.selects RX1 yX1_mostTradable yX1_mostTradable, Cond.code yX1_mostTradable cX1_mostTradable 3 (some .int), Cond.methodLink RX1 129 yX1_boundBySet, Cond.instanceMethod yX1_boundBySet, Cond.selects RX1 yX1_boundBySet yX1_boundBySet, Cond.code yX1_boundBySet cX1_boundBySet 4 (some .int), Cond.methodLink RX1 205 yX1_isInSet, Cond.static yX1_isInSet, Cond.code yX1_isInSet cX1_isInSet 2 (some .boolean), Cond.methodLink RX1 208 yX1_sellsToSet, Cond.instanceMethod yX1_sellsToSet, Cond.selects RX1 yX1_sellsToSet yX1_sellsToSet, Cond.code yX1_sellsToSet cX1_sellsToSet 4 (some .boolean), Cond.methodLink RL 111 yX2_mostTradable, Cond.instanceMethod yX2_mostTradable, Cond.selects RX2 yX2_mostTradable yX2_mostTradable, Cond.code yX2_mostTradable cX2_mostTradable 3 (some .int)]
def wsL_law0_r16 : List Cond := [Cond.methodLink RX2 132 yX2_tradable, Cond.instanceMethod yX2_tradable, Cond.selects RX2 yX2_tradable yX2_tradable, Cond.code yX2_tradable cX2_tradable 4 (some .int), Cond.methodLink RL 112 yX1_trades, Cond.instanceMethod yX1_trades, Cond.selects RX1 yX1_trades yX1_trades, Cond.code yX1_trades cX1_trades 1 (some .int), Cond.methodLink RL 115 yX2_trades, Cond.instanceMethod yX2_trades, Cond.selects RX2 yX2_trades yX2_trades, Cond.code yX2_trades cX2_trades 1 (some .int), Cond.methodLink RL 116 yL_ofTrade, Cond.static yL_ofTrade, Cond.codeWith yL_ofTrade cL_ofTrade 5 (some .int) [(0, 10, 13, 13)], Cond.methodLink RL 44 yX1_ofTrade, Cond.instanceMethod yX1_ofTrade, Cond.selects RX1 yX1_ofTrade yX1_ofTrade, Cond.code yX1_ofTrade cX1_ofTrade 3 (some .int), Cond.methodLink RL 118 yX2_ofTrade, Cond.instanceMethod yX2_ofTrade, Cond.selects RX2 yX2_ofTrade yX2_ofTrade, Cond.code yX2_ofTrade cX2_ofTrade 3 (some .int), Cond.methodLink RL 119 yL_went]
def wsL_law0_r17 : List Cond := [Cond.static yL_went, Cond.codeWith yL_went cL_went 4 (some .int) [(0, 9, 12, 13)], Cond.methodLink RL 47 yX1_went, Cond.instanceMethod yX1_went, Cond.selects RX1 yX1_went yX1_went, Cond.code yX1_went cX1_went 2 (some .int), Cond.methodLink RL 121 yX2_went, Cond.instanceMethod yX2_went, Cond.selects RX2 yX2_went yX2_went, Cond.code yX2_went cX2_went 2 (some .int), Cond.methodLink RL 122 yL_flow, Cond.static yL_flow, Cond.codeWith yL_flow cL_flow 4 (some .int) [(0, 9, 12, 13)], Cond.methodLink RL 50 yX1_flow, Cond.instanceMethod yX1_flow, Cond.selects RX1 yX1_flow yX1_flow, Cond.code yX1_flow cX1_flow 2 (some .int), Cond.methodLink RL 124 yX2_flow, Cond.instanceMethod yX2_flow, Cond.selects RX2 yX2_flow yX2_flow, Cond.code yX2_flow cX2_flow 2 (some .int), Cond.methodLink RL 125 yL_isMember, Cond.static yL_isMember, Cond.codeWith yL_isMember cL_isMember 4 (some .int) [(0, 16, 19, 13)]]
def wsL_law0_r18 : List Cond := [Cond.methodLink RL 53 yX1_isMember, Cond.instanceMethod yX1_isMember, Cond.selects RX1 yX1_isMember yX1_isMember, Cond.code yX1_isMember cX1_isMember 2 (some .boolean), Cond.methodLink RL 127 yX2_isMember, Cond.instanceMethod yX2_isMember, Cond.selects RX2 yX2_isMember yX2_isMember, Cond.code yX2_isMember cX2_isMember 2 (some .boolean), Cond.methodLink RL 128 yL_stored, Cond.static yL_stored, Cond.codeWith yL_stored cL_stored 4 (some .int) [(0, 9, 12, 13)], Cond.methodLink RL 57 yX1_stored, Cond.instanceMethod yX1_stored, Cond.selects RX1 yX1_stored yX1_stored, Cond.code yX1_stored cX1_stored 2 (some .int), Cond.methodLink RL 130 yX2_stored, Cond.instanceMethod yX2_stored, Cond.selects RX2 yX2_stored yX2_stored, Cond.code yX2_stored cX2_stored 2 (some .int), Cond.methodLink RL 131 yL_part, Cond.static yL_part, Cond.codeWith yL_part cL_part 4 (some .int) [(0, 9, 12, 13)], Cond.methodLink RL 60 yX1_part, Cond.instanceMethod yX1_part]
def wsL_law0_r19 : List Cond := [Cond.selects RX1 yX1_part yX1_part, Cond.code yX1_part cX1_part 2 (some .int), Cond.methodLink RL 133 yX2_part, Cond.instanceMethod yX2_part, Cond.selects RX2 yX2_part yX2_part, Cond.code yX2_part cX2_part 2 (some .int), Cond.methodLink RL 134 yL_bill, Cond.static yL_bill, Cond.codeWith yL_bill cL_bill 4 (some .int) [(0, 9, 12, 13)], Cond.methodLink RL 63 yX1_bill, Cond.instanceMethod yX1_bill, Cond.selects RX1 yX1_bill yX1_bill, Cond.code yX1_bill cX1_bill 2 (some .int), Cond.methodLink RL 136 yX2_bill, Cond.instanceMethod yX2_bill, Cond.selects RX2 yX2_bill yX2_bill, Cond.code yX2_bill cX2_bill 2 (some .int), Cond.methodLink RL 137 yX1_pool, Cond.instanceMethod yX1_pool, Cond.selects RX1 yX1_pool yX1_pool, Cond.code yX1_pool cX1_pool 1 (some .int), Cond.methodLink RL 140 yX2_pool, Cond.instanceMethod yX2_pool, Cond.selects RX2 yX2_pool yX2_pool]
def wsL_law0_r20 : List Cond := [Cond.code yX2_pool cX2_pool 1 (some .int), Cond.methodLink RL 141 yX1_supplied, Cond.instanceMethod yX1_supplied, Cond.selects RX1 yX1_supplied yX1_supplied, Cond.code yX1_supplied cX1_supplied 1 (some .int), Cond.methodLink RL 144 yX2_supplied, Cond.instanceMethod yX2_supplied, Cond.selects RX2 yX2_supplied yX2_supplied, Cond.code yX2_supplied cX2_supplied 1 (some .int)]
def wsL_law0 : List Cond := (wsL_law0_r1 ++ (wsL_law0_r2 ++ (wsL_law0_r3 ++ (wsL_law0_r4 ++ (wsL_law0_r5 ++ (wsL_law0_r6 ++ (wsL_law0_r7 ++ (wsL_law0_r8 ++ (wsL_law0_r9 ++ (wsL_law0_r10 ++ (wsL_law0_r11 ++ (wsL_law0_r12 ++ (wsL_law0_r13 ++ (wsL_law0_r14 ++ (wsL_law0_r15 ++ (wsL_law0_r16 ++ (wsL_law0_r17 ++ (wsL_law0_r18 ++ (wsL_law0_r19 ++ wsL_law0_r20))))))))))))))))))) ++ wsX10 ++ wsX20 ++ wsX00 ++ ([] : List Cond)
def wsL_law : List Cond := wsL_law0 ++ (vx_atS RX1 143 "java/lang/IndexOutOfBoundsException" ["java/lang/RuntimeException", "java/lang/Exception"]).filter goodWord ++ (vx_atS RX1 85 "java/lang/IllegalArgumentException" ["java/lang/RuntimeException", "java/lang/Exception"]).filter goodWord ++ (vx_atS RX1 92 "java/lang/IllegalStateException" ["java/lang/RuntimeException", "java/lang/Exception"]).filter goodWord
set_option maxRecDepth 20000 in
theorem zin_r1 : ∀ w ∈ wsL_law0_r1, w ∈ lw_tbl := fun w h => (goodIn_p wsL_law0_r1 [51, 54] (by decide +kernel) (by decide +kernel) w h).1
set_option maxRecDepth 20000 in
theorem zin_r2 : ∀ w ∈ wsL_law0_r2, w ∈ lw_tbl := fun w h => (goodIn_p wsL_law0_r2 [59, 494] (by decide +kernel) (by decide +kernel) w h).1
set_option maxRecDepth 20000 in
theorem zin_r3 : ∀ w ∈ wsL_law0_r3, w ∈ lw_tbl := fun w h => (goodIn_p wsL_law0_r3 [] (by decide +kernel) (by decide +kernel) w h).1
set_option maxRecDepth 20000 in
theorem zin_r4 : ∀ w ∈ wsL_law0_r4, w ∈ lw_tbl := fun w h => (goodIn_p wsL_law0_r4 [183, 186, 257, 277, 570] (by decide +kernel) (by decide +kernel) w h).1
set_option maxRecDepth 20000 in
theorem zin_r5 : ∀ w ∈ wsL_law0_r5, w ∈ lw_tbl := fun w h => (goodIn_p wsL_law0_r5 [573, 576, 580, 584, 566] (by decide +kernel) (by decide +kernel) w h).1
set_option maxRecDepth 20000 in
theorem zin_r6 : ∀ w ∈ wsL_law0_r6, w ∈ lw_tbl := fun w h => (goodIn_p wsL_law0_r6 [300, 588, 307, 592, 314] (by decide +kernel) (by decide +kernel) w h).1
set_option maxRecDepth 20000 in
theorem zin_r7 : ∀ w ∈ wsL_law0_r7, w ∈ lw_tbl := fun w h => (goodIn_p wsL_law0_r7 [317, 596, 325, 600] (by decide +kernel) (by decide +kernel) w h).1
set_option maxRecDepth 20000 in
theorem zin_r8 : ∀ w ∈ wsL_law0_r8, w ∈ lw_tbl := fun w h => (goodIn_p wsL_law0_r8 [332, 604, 341, 345, 608] (by decide +kernel) (by decide +kernel) w h).1
set_option maxRecDepth 20000 in
theorem zin_r9 : ∀ w ∈ wsL_law0_r9, w ∈ lw_tbl := fun w h => (goodIn_p wsL_law0_r9 [352, 384, 357, 361, 365, 369] (by decide +kernel) (by decide +kernel) w h).1
set_option maxRecDepth 20000 in
theorem zin_r10 : ∀ w ∈ wsL_law0_r10, w ∈ lw_tbl := fun w h => (goodIn_p wsL_law0_r10 [373, 161, 377, 381, 388, 392, 396] (by decide +kernel) (by decide +kernel) w h).1
set_option maxRecDepth 20000 in
theorem zin_r11 : ∀ w ∈ wsL_law0_r11, w ∈ lw_tbl := fun w h => (goodIn_p wsL_law0_r11 [400, 403, 409, 414, 418] (by decide +kernel) (by decide +kernel) w h).1
set_option maxRecDepth 20000 in
theorem zin_r12 : ∀ w ∈ wsL_law0_r12, w ∈ lw_tbl := fun w h => (goodIn_p wsL_law0_r12 [422, 426, 429, 433, 437, 612] (by decide +kernel) (by decide +kernel) w h).1
set_option maxRecDepth 20000 in
theorem zin_r13 : ∀ w ∈ wsL_law0_r13, w ∈ lw_tbl := fun w h => (goodIn_p wsL_law0_r13 [615, 619, 623, 627, 631, 635, 638] (by decide +kernel) (by decide +kernel) w h).1
set_option maxRecDepth 20000 in
theorem zin_r14 : ∀ w ∈ wsL_law0_r14, w ∈ lw_tbl := fun w h => (goodIn_p wsL_law0_r14 [642, 646, 650, 654, 658] (by decide +kernel) (by decide +kernel) w h).1
set_option maxRecDepth 20000 in
theorem zin_r15 : ∀ w ∈ wsL_law0_r15, w ∈ lw_tbl := fun w h => (goodIn_p wsL_law0_r15 [143, 662, 147, 151, 154, 158, 666] (by decide +kernel) (by decide +kernel) w h).1
set_option maxRecDepth 20000 in
theorem zin_r16 : ∀ w ∈ wsL_law0_r16, w ∈ lw_tbl := fun w h => (goodIn_p wsL_law0_r16 [670, 165, 674, 444, 678] (by decide +kernel) (by decide +kernel) w h).1
set_option maxRecDepth 20000 in
theorem zin_r17 : ∀ w ∈ wsL_law0_r17, w ∈ lw_tbl := fun w h => (goodIn_p wsL_law0_r17 [453, 682, 461, 686] (by decide +kernel) (by decide +kernel) w h).1
set_option maxRecDepth 20000 in
theorem zin_r18 : ∀ w ∈ wsL_law0_r18, w ∈ lw_tbl := fun w h => (goodIn_p wsL_law0_r18 [468, 690, 475, 694] (by decide +kernel) (by decide +kernel) w h).1
set_option maxRecDepth 20000 in
theorem zin_r19 : ∀ w ∈ wsL_law0_r19, w ∈ lw_tbl := fun w h => (goodIn_p wsL_law0_r19 [482, 698, 489, 702, 169] (by decide +kernel) (by decide +kernel) w h).1
set_option maxRecDepth 20000 in
theorem zin_r20 : ∀ w ∈ wsL_law0_r20, w ∈ lw_tbl := fun w h => (goodIn_p wsL_law0_r20 [706, 173, 710] (by decide +kernel) (by decide +kernel) w h).1
set_option maxRecDepth 20000 in
theorem zin_wsX10 : ∀ w ∈ wsX10, w ∈ lw_tbl := by decide +kernel
set_option maxRecDepth 20000 in
theorem zin_wsX20 : ∀ w ∈ wsX20, w ∈ lw_tbl := by decide +kernel
set_option maxRecDepth 20000 in
theorem zin_wsX00 : ∀ w ∈ wsX00, w ∈ lw_tbl := by decide +kernel
theorem zin_rs : ∀ w ∈ (wsL_law0_r1 ++ (wsL_law0_r2 ++ (wsL_law0_r3 ++ (wsL_law0_r4 ++ (wsL_law0_r5 ++ (wsL_law0_r6 ++ (wsL_law0_r7 ++ (wsL_law0_r8 ++ (wsL_law0_r9 ++ (wsL_law0_r10 ++ (wsL_law0_r11 ++ (wsL_law0_r12 ++ (wsL_law0_r13 ++ (wsL_law0_r14 ++ (wsL_law0_r15 ++ (wsL_law0_r16 ++ (wsL_law0_r17 ++ (wsL_law0_r18 ++ (wsL_law0_r19 ++ (wsL_law0_r20)))))))))))))))))))), w ∈ lw_tbl := fun w h => (List.mem_append.mp h).elim (fun h => zin_r1 w h) (fun h => (List.mem_append.mp h).elim (fun h => zin_r2 w h) (fun h => (List.mem_append.mp h).elim (fun h => zin_r3 w h) (fun h => (List.mem_append.mp h).elim (fun h => zin_r4 w h) (fun h => (List.mem_append.mp h).elim (fun h => zin_r5 w h) (fun h => (List.mem_append.mp h).elim (fun h => zin_r6 w h) (fun h => (List.mem_append.mp h).elim (fun h => zin_r7 w h) (fun h => (List.mem_append.mp h).elim (fun h => zin_r8 w h) (fun h => (List.mem_append.mp h).elim (fun h => zin_r9 w h) (fun h => (List.mem_append.mp h).elim (fun h => zin_r10 w h) (fun h => (List.mem_append.mp h).elim (fun h => zin_r11 w h) (fun h => (List.mem_append.mp h).elim (fun h => zin_r12 w h) (fun h => (List.mem_append.mp h).elim (fun h => zin_r13 w h) (fun h => (List.mem_append.mp h).elim (fun h => zin_r14 w h) (fun h => (List.mem_append.mp h).elim (fun h => zin_r15 w h) (fun h => (List.mem_append.mp h).elim (fun h => zin_r16 w h) (fun h => (List.mem_append.mp h).elim (fun h => zin_r17 w h) (fun h => (List.mem_append.mp h).elim (fun h => zin_r18 w h) (fun h => (List.mem_append.mp h).elim (fun h => zin_r19 w h) (fun h => zin_r20 w h)))))))))))))))))))
theorem wsL_law_in0 : ∀ w ∈ wsL_law0, w ∈ lw_tbl := fun w h => (List.mem_append.mp h).elim (fun h => (List.mem_append.mp h).elim (fun h => (List.mem_append.mp h).elim (fun h => (List.mem_append.mp h).elim (fun h => zin_rs w h) (fun h => zin_wsX10 w h)) (fun h => zin_wsX20 w h)) (fun h => zin_wsX00 w h)) (fun h => absurd h List.not_mem_nil)
theorem wsL_law_x0 : ∀ w ∈ (vx_atS RX1 143 "java/lang/IndexOutOfBoundsException" ["java/lang/RuntimeException", "java/lang/Exception"]).filter goodWord, w ∈ lw_tbl := by decide +kernel
theorem wsL_law_x1 : ∀ w ∈ (vx_atS RX1 85 "java/lang/IllegalArgumentException" ["java/lang/RuntimeException", "java/lang/Exception"]).filter goodWord, w ∈ lw_tbl := by decide +kernel
theorem wsL_law_x2 : ∀ w ∈ (vx_atS RX1 92 "java/lang/IllegalStateException" ["java/lang/RuntimeException", "java/lang/Exception"]).filter goodWord, w ∈ lw_tbl := by decide +kernel
theorem wsL_law_in : ∀ w ∈ wsL_law, w ∈ lw_tbl := fun w h => (List.mem_append.mp h).elim (fun h => (List.mem_append.mp h).elim (fun h => (List.mem_append.mp h).elim (fun h => wsL_law_in0 w h) (fun h => wsL_law_x0 w h)) (fun h => wsL_law_x1 w h)) (fun h => wsL_law_x2 w h)
theorem inlX0 : ∀ w ∈ wsX00, w ∈ wsL_law := fun _ h => List.mem_append_left _ (List.mem_append_left _ (List.mem_append_left _ (List.mem_append_left _ (List.mem_append_right _ h))))
theorem inX0 : ∀ w ∈ wsX00, w ∈ lw_tbl := fun w h => wsL_law_in w (inlX0 w h)
theorem inlX1 : ∀ w ∈ wsX10, w ∈ wsL_law := fun _ h => List.mem_append_left _ (List.mem_append_left _ (List.mem_append_left _ (List.mem_append_left _ (List.mem_append_left _ (List.mem_append_left _ (List.mem_append_right _ h))))))
theorem inX1 : ∀ w ∈ wsX10, w ∈ lw_tbl := fun w h => wsL_law_in w (inlX1 w h)
theorem inlX2 : ∀ w ∈ wsX20, w ∈ wsL_law := fun _ h => List.mem_append_left _ (List.mem_append_left _ (List.mem_append_left _ (List.mem_append_left _ (List.mem_append_left _ (List.mem_append_right _ h)))))
theorem inX2 : ∀ w ∈ wsX20, w ∈ lw_tbl := fun w h => wsL_law_in w (inlX2 w h)
theorem inJ9 : ∀ w ∈ wsJ90, w ∈ lw_tbl := by decide +kernel
theorem inJ0 : ∀ w ∈ wsJ00, w ∈ lw_tbl := by decide +kernel
abbrev vwCl : List vw_C := [(RX0, TX0, 6), (RX1, TX1, 17), (RX2, TX2, 22)]
end
section
theorem dX0_init_0 : decode cX0_init 0 = .ok (.aload_n 0, 1) := by decide +kernel
theorem dX0_init_1 : decode cX0_init 1 = .ok (.invokespecial 3, 3) := by decide +kernel
theorem dX0_init_4 : decode cX0_init 4 = .ok (.aload_n 0, 1) := by decide +kernel
theorem dX0_init_5 : decode cX0_init 5 = .ok (.bipush 6, 2) := by decide +kernel
theorem dX0_init_7 : decode cX0_init 7 = .ok (.newarray .int, 2) := by decide +kernel
theorem dX0_init_9 : decode cX0_init 9 = .ok (.putfield 9, 3) := by decide +kernel
theorem dX0_init_12 : decode cX0_init 12 = .ok (.aload_n 0, 1) := by decide +kernel
theorem dX0_init_13 : decode cX0_init 13 = .ok (.bipush 6, 2) := by decide +kernel
theorem dX0_init_15 : decode cX0_init 15 = .ok (.newarray .int, 2) := by decide +kernel
theorem dX0_init_17 : decode cX0_init 17 = .ok (.putfield 15, 3) := by decide +kernel
theorem dX0_init_20 : decode cX0_init 20 = .ok (.aload_n 0, 1) := by decide +kernel
theorem dX0_init_21 : decode cX0_init 21 = .ok (.bipush 6, 2) := by decide +kernel
theorem dX0_init_23 : decode cX0_init 23 = .ok (.newarray .int, 2) := by decide +kernel
theorem dX0_init_25 : decode cX0_init 25 = .ok (.putfield 18, 3) := by decide +kernel
theorem dX0_init_28 : decode cX0_init 28 = .ok (.aload_n 0, 1) := by decide +kernel
theorem dX0_init_29 : decode cX0_init 29 = .ok (.bipush 6, 2) := by decide +kernel
theorem dX0_init_31 : decode cX0_init 31 = .ok (.newarray .int, 2) := by decide +kernel
theorem dX0_init_33 : decode cX0_init 33 = .ok (.putfield 21, 3) := by decide +kernel
theorem dX0_init_36 : decode cX0_init 36 = .ok (.aload_n 0, 1) := by decide +kernel
theorem dX0_init_37 : decode cX0_init 37 = .ok (.bipush 6, 2) := by decide +kernel
theorem dX0_init_39 : decode cX0_init 39 = .ok (.newarray .int, 2) := by decide +kernel
theorem dX0_init_41 : decode cX0_init 41 = .ok (.putfield 24, 3) := by decide +kernel
theorem dX0_init_44 : decode cX0_init 44 = .ok (.aload_n 0, 1) := by decide +kernel
theorem dX0_init_45 : decode cX0_init 45 = .ok (.iconst 0, 1) := by decide +kernel
theorem dX0_init_46 : decode cX0_init 46 = .ok (.putfield 27, 3) := by decide +kernel
theorem dX0_init_49 : decode cX0_init 49 = .ok (.return_, 1) := by decide +kernel
theorem dX0_empty_0 : decode cX0_empty 0 = .ok (.aload_n 0, 1) := by decide +kernel
theorem dX0_empty_1 : decode cX0_empty 1 = .ok (.iconst 0, 1) := by decide +kernel
theorem dX0_empty_2 : decode cX0_empty 2 = .ok (.putfield 27, 3) := by decide +kernel
theorem dX0_empty_5 : decode cX0_empty 5 = .ok (.return_, 1) := by decide +kernel
theorem dX0_add_0 : decode cX0_add 0 = .ok (.aload_n 0, 1) := by decide +kernel
theorem dX0_add_1 : decode cX0_add 1 = .ok (.getfield 27, 3) := by decide +kernel
theorem dX0_add_4 : decode cX0_add 4 = .ok (.bipush 6, 2) := by decide +kernel
theorem dX0_add_6 : decode cX0_add 6 = .ok (.if_icmp .lt 4, 3) := by decide +kernel
theorem dX0_add_9 : decode cX0_add 9 = .ok (.return_, 1) := by decide +kernel
theorem dX0_add_10 : decode cX0_add 10 = .ok (.aload_n 0, 1) := by decide +kernel
theorem dX0_add_11 : decode cX0_add 11 = .ok (.getfield 9, 3) := by decide +kernel
theorem dX0_add_14 : decode cX0_add 14 = .ok (.aload_n 0, 1) := by decide +kernel
theorem dX0_add_15 : decode cX0_add 15 = .ok (.getfield 27, 3) := by decide +kernel
theorem dX0_add_18 : decode cX0_add 18 = .ok (.iload_n 1, 1) := by decide +kernel
theorem dX0_add_19 : decode cX0_add 19 = .ok (.iastore, 1) := by decide +kernel
theorem dX0_add_20 : decode cX0_add 20 = .ok (.aload_n 0, 1) := by decide +kernel
theorem dX0_add_21 : decode cX0_add 21 = .ok (.getfield 15, 3) := by decide +kernel
theorem dX0_add_24 : decode cX0_add 24 = .ok (.aload_n 0, 1) := by decide +kernel
theorem dX0_add_25 : decode cX0_add 25 = .ok (.getfield 27, 3) := by decide +kernel
theorem dX0_add_28 : decode cX0_add 28 = .ok (.iload_n 2, 1) := by decide +kernel
theorem dX0_add_29 : decode cX0_add 29 = .ok (.iastore, 1) := by decide +kernel
theorem dX0_add_30 : decode cX0_add 30 = .ok (.aload_n 0, 1) := by decide +kernel
theorem dX0_add_31 : decode cX0_add 31 = .ok (.getfield 18, 3) := by decide +kernel
theorem dX0_add_34 : decode cX0_add 34 = .ok (.aload_n 0, 1) := by decide +kernel
theorem dX0_add_35 : decode cX0_add 35 = .ok (.getfield 27, 3) := by decide +kernel
theorem dX0_add_38 : decode cX0_add 38 = .ok (.iload_n 3, 1) := by decide +kernel
theorem dX0_add_39 : decode cX0_add 39 = .ok (.iastore, 1) := by decide +kernel
theorem dX0_add_40 : decode cX0_add 40 = .ok (.aload_n 0, 1) := by decide +kernel
theorem dX0_add_41 : decode cX0_add 41 = .ok (.getfield 21, 3) := by decide +kernel
theorem dX0_add_44 : decode cX0_add 44 = .ok (.aload_n 0, 1) := by decide +kernel
theorem dX0_add_45 : decode cX0_add 45 = .ok (.getfield 27, 3) := by decide +kernel
theorem dX0_add_48 : decode cX0_add 48 = .ok (.iconst 0, 1) := by decide +kernel
theorem dX0_add_49 : decode cX0_add 49 = .ok (.iastore, 1) := by decide +kernel
theorem dX0_add_50 : decode cX0_add 50 = .ok (.aload_n 0, 1) := by decide +kernel
theorem dX0_add_51 : decode cX0_add 51 = .ok (.getfield 24, 3) := by decide +kernel
theorem dX0_add_54 : decode cX0_add 54 = .ok (.aload_n 0, 1) := by decide +kernel
theorem dX0_add_55 : decode cX0_add 55 = .ok (.getfield 27, 3) := by decide +kernel
theorem dX0_add_58 : decode cX0_add 58 = .ok (.iload 4, 2) := by decide +kernel
theorem dX0_add_60 : decode cX0_add 60 = .ok (.iastore, 1) := by decide +kernel
theorem dX0_add_61 : decode cX0_add 61 = .ok (.aload_n 0, 1) := by decide +kernel
theorem dX0_add_62 : decode cX0_add 62 = .ok (.dup, 1) := by decide +kernel
theorem dX0_add_63 : decode cX0_add 63 = .ok (.getfield 27, 3) := by decide +kernel
theorem dX0_add_66 : decode cX0_add 66 = .ok (.iconst 1, 1) := by decide +kernel
theorem dX0_add_67 : decode cX0_add 67 = .ok (.iadd, 1) := by decide +kernel
theorem dX0_add_68 : decode cX0_add 68 = .ok (.putfield 27, 3) := by decide +kernel
theorem dX0_add_71 : decode cX0_add 71 = .ok (.return_, 1) := by decide +kernel
set_option maxRecDepth 20000 in
theorem ggX0_flowOver_X0_direction : GoodIn wsX0_flowOver wsX0_direction := goodIn_r _ [8] (by decide +kernel) (by decide +kernel)
set_option maxRecDepth 20000 in
theorem gX0_flowOver_X0_direction : GoodIn wsX0_flowOver (va_wsS RX0 31 yX0_direction wsX0_direction) := goodIn_app (goodIn_of _ (by decide +kernel)) ggX0_flowOver_X0_direction
theorem dX0_flowOver_0 : decode cX0_flowOver 0 = .ok (.iconst 0, 1) := by decide +kernel
theorem dX0_flowOver_1 : decode cX0_flowOver 1 = .ok (.istore_n 2, 1) := by decide +kernel
theorem dX0_flowOver_2 : decode cX0_flowOver 2 = .ok (.iconst 0, 1) := by decide +kernel
theorem dX0_flowOver_3 : decode cX0_flowOver 3 = .ok (.istore_n 3, 1) := by decide +kernel
theorem dX0_flowOver_4 : decode cX0_flowOver 4 = .ok (.iload_n 3, 1) := by decide +kernel
theorem dX0_flowOver_5 : decode cX0_flowOver 5 = .ok (.aload_n 0, 1) := by decide +kernel
theorem dX0_flowOver_6 : decode cX0_flowOver 6 = .ok (.getfield 27, 3) := by decide +kernel
theorem dX0_flowOver_9 : decode cX0_flowOver 9 = .ok (.if_icmp .ge 35, 3) := by decide +kernel
theorem dX0_flowOver_12 : decode cX0_flowOver 12 = .ok (.iload_n 2, 1) := by decide +kernel
theorem dX0_flowOver_13 : decode cX0_flowOver 13 = .ok (.aload_n 0, 1) := by decide +kernel
theorem dX0_flowOver_14 : decode cX0_flowOver 14 = .ok (.getfield 9, 3) := by decide +kernel
theorem dX0_flowOver_17 : decode cX0_flowOver 17 = .ok (.iload_n 3, 1) := by decide +kernel
theorem dX0_flowOver_18 : decode cX0_flowOver 18 = .ok (.iaload, 1) := by decide +kernel
theorem dX0_flowOver_19 : decode cX0_flowOver 19 = .ok (.aload_n 0, 1) := by decide +kernel
theorem dX0_flowOver_20 : decode cX0_flowOver 20 = .ok (.getfield 15, 3) := by decide +kernel
theorem dX0_flowOver_23 : decode cX0_flowOver 23 = .ok (.iload_n 3, 1) := by decide +kernel
theorem dX0_flowOver_24 : decode cX0_flowOver 24 = .ok (.iaload, 1) := by decide +kernel
theorem dX0_flowOver_25 : decode cX0_flowOver 25 = .ok (.iload_n 1, 1) := by decide +kernel
theorem dX0_flowOver_26 : decode cX0_flowOver 26 = .ok (.invokestatic 31, 3) := by decide +kernel
theorem dX0_flowOver_29 : decode cX0_flowOver 29 = .ok (.aload_n 0, 1) := by decide +kernel
theorem dX0_flowOver_30 : decode cX0_flowOver 30 = .ok (.getfield 18, 3) := by decide +kernel
theorem dX0_flowOver_33 : decode cX0_flowOver 33 = .ok (.iload_n 3, 1) := by decide +kernel
theorem dX0_flowOver_34 : decode cX0_flowOver 34 = .ok (.iaload, 1) := by decide +kernel
theorem dX0_flowOver_35 : decode cX0_flowOver 35 = .ok (.imul, 1) := by decide +kernel
theorem dX0_flowOver_36 : decode cX0_flowOver 36 = .ok (.iadd, 1) := by decide +kernel
theorem dX0_flowOver_37 : decode cX0_flowOver 37 = .ok (.istore_n 2, 1) := by decide +kernel
theorem dX0_flowOver_38 : decode cX0_flowOver 38 = .ok (.iinc 3 1, 3) := by decide +kernel
theorem dX0_flowOver_41 : decode cX0_flowOver 41 = .ok (.goto (-37), 3) := by decide +kernel
theorem dX0_flowOver_44 : decode cX0_flowOver 44 = .ok (.iload_n 2, 1) := by decide +kernel
theorem dX0_flowOver_45 : decode cX0_flowOver 45 = .ok (.ireturn, 1) := by decide +kernel
set_option maxRecDepth 20000 in
theorem ggX0_cutOver_X0_flowOver : GoodIn wsX0_cutOver wsX0_flowOver := goodIn_r _ [17, 5, 6, 7, 8, 18, 19, 16, 20, 21, 22, 23, 24, 25, 26] (by decide +kernel) (by decide +kernel)
set_option maxRecDepth 20000 in
theorem gX0_cutOver_X0_flowOver : GoodIn wsX0_cutOver (wsV RX0 35 RX0 yX0_flowOver wsX0_flowOver) := goodIn_app (goodIn_of _ (by decide +kernel)) ggX0_cutOver_X0_flowOver
set_option maxRecDepth 20000 in
theorem ggX0_cutOver_X0_direction : GoodIn wsX0_cutOver wsX0_direction := goodIn_r _ [20] (by decide +kernel) (by decide +kernel)
set_option maxRecDepth 20000 in
theorem gX0_cutOver_X0_direction : GoodIn wsX0_cutOver (va_wsS RX0 31 yX0_direction wsX0_direction) := goodIn_app (goodIn_of _ (by decide +kernel)) ggX0_cutOver_X0_direction
theorem dX0_cutOver_0 : decode cX0_cutOver 0 = .ok (.aload_n 0, 1) := by decide +kernel
theorem dX0_cutOver_1 : decode cX0_cutOver 1 = .ok (.iload_n 1, 1) := by decide +kernel
theorem dX0_cutOver_2 : decode cX0_cutOver 2 = .ok (.invokevirtual 35, 3) := by decide +kernel
theorem dX0_cutOver_5 : decode cX0_cutOver 5 = .ok (.istore_n 3, 1) := by decide +kernel
theorem dX0_cutOver_6 : decode cX0_cutOver 6 = .ok (.iload_n 3, 1) := by decide +kernel
theorem dX0_cutOver_7 : decode cX0_cutOver 7 = .ok (.invokestatic 39, 3) := by decide +kernel
theorem dX0_cutOver_10 : decode cX0_cutOver 10 = .ok (.iload_n 2, 1) := by decide +kernel
theorem dX0_cutOver_11 : decode cX0_cutOver 11 = .ok (.isub, 1) := by decide +kernel
theorem dX0_cutOver_12 : decode cX0_cutOver 12 = .ok (.istore 4, 2) := by decide +kernel
theorem dX0_cutOver_14 : decode cX0_cutOver 14 = .ok (.iload 4, 2) := by decide +kernel
theorem dX0_cutOver_16 : decode cX0_cutOver 16 = .ok (.ifCond .gt 5, 3) := by decide +kernel
theorem dX0_cutOver_19 : decode cX0_cutOver 19 = .ok (.iconst 0, 1) := by decide +kernel
theorem dX0_cutOver_20 : decode cX0_cutOver 20 = .ok (.ireturn, 1) := by decide +kernel
theorem dX0_cutOver_21 : decode cX0_cutOver 21 = .ok (.iload_n 3, 1) := by decide +kernel
theorem dX0_cutOver_22 : decode cX0_cutOver 22 = .ok (.ifCond .le 7, 3) := by decide +kernel
theorem dX0_cutOver_25 : decode cX0_cutOver 25 = .ok (.iconst 1, 1) := by decide +kernel
theorem dX0_cutOver_26 : decode cX0_cutOver 26 = .ok (.goto 4, 3) := by decide +kernel
theorem dX0_cutOver_29 : decode cX0_cutOver 29 = .ok (.iconst (-1), 1) := by decide +kernel
theorem dX0_cutOver_30 : decode cX0_cutOver 30 = .ok (.istore 5, 2) := by decide +kernel
theorem dX0_cutOver_32 : decode cX0_cutOver 32 = .ok (.aload_n 0, 1) := by decide +kernel
theorem dX0_cutOver_33 : decode cX0_cutOver 33 = .ok (.getfield 27, 3) := by decide +kernel
theorem dX0_cutOver_36 : decode cX0_cutOver 36 = .ok (.iconst 1, 1) := by decide +kernel
theorem dX0_cutOver_37 : decode cX0_cutOver 37 = .ok (.isub, 1) := by decide +kernel
theorem dX0_cutOver_38 : decode cX0_cutOver 38 = .ok (.istore 6, 2) := by decide +kernel
theorem dX0_cutOver_40 : decode cX0_cutOver 40 = .ok (.iload 6, 2) := by decide +kernel
theorem dX0_cutOver_42 : decode cX0_cutOver 42 = .ok (.ifCond .lt 82, 3) := by decide +kernel
theorem dX0_cutOver_45 : decode cX0_cutOver 45 = .ok (.iload 4, 2) := by decide +kernel
theorem dX0_cutOver_47 : decode cX0_cutOver 47 = .ok (.ifCond .le 77, 3) := by decide +kernel
theorem dX0_cutOver_50 : decode cX0_cutOver 50 = .ok (.aload_n 0, 1) := by decide +kernel
theorem dX0_cutOver_51 : decode cX0_cutOver 51 = .ok (.getfield 9, 3) := by decide +kernel
theorem dX0_cutOver_54 : decode cX0_cutOver 54 = .ok (.iload 6, 2) := by decide +kernel
theorem dX0_cutOver_56 : decode cX0_cutOver 56 = .ok (.iaload, 1) := by decide +kernel
theorem dX0_cutOver_57 : decode cX0_cutOver 57 = .ok (.aload_n 0, 1) := by decide +kernel
theorem dX0_cutOver_58 : decode cX0_cutOver 58 = .ok (.getfield 15, 3) := by decide +kernel
theorem dX0_cutOver_61 : decode cX0_cutOver 61 = .ok (.iload 6, 2) := by decide +kernel
theorem dX0_cutOver_63 : decode cX0_cutOver 63 = .ok (.iaload, 1) := by decide +kernel
theorem dX0_cutOver_64 : decode cX0_cutOver 64 = .ok (.iload_n 1, 1) := by decide +kernel
theorem dX0_cutOver_65 : decode cX0_cutOver 65 = .ok (.invokestatic 31, 3) := by decide +kernel
theorem dX0_cutOver_68 : decode cX0_cutOver 68 = .ok (.iload 5, 2) := by decide +kernel
theorem dX0_cutOver_70 : decode cX0_cutOver 70 = .ok (.if_icmp .ne 48, 3) := by decide +kernel
theorem dX0_cutOver_73 : decode cX0_cutOver 73 = .ok (.aload_n 0, 1) := by decide +kernel
theorem dX0_cutOver_74 : decode cX0_cutOver 74 = .ok (.getfield 18, 3) := by decide +kernel
theorem dX0_cutOver_77 : decode cX0_cutOver 77 = .ok (.iload 6, 2) := by decide +kernel
theorem dX0_cutOver_79 : decode cX0_cutOver 79 = .ok (.iaload, 1) := by decide +kernel
theorem dX0_cutOver_80 : decode cX0_cutOver 80 = .ok (.iload 4, 2) := by decide +kernel
theorem dX0_cutOver_82 : decode cX0_cutOver 82 = .ok (.invokestatic 44, 3) := by decide +kernel
theorem dX0_cutOver_85 : decode cX0_cutOver 85 = .ok (.istore 7, 2) := by decide +kernel
theorem dX0_cutOver_87 : decode cX0_cutOver 87 = .ok (.aload_n 0, 1) := by decide +kernel
theorem dX0_cutOver_88 : decode cX0_cutOver 88 = .ok (.getfield 18, 3) := by decide +kernel
theorem dX0_cutOver_91 : decode cX0_cutOver 91 = .ok (.iload 6, 2) := by decide +kernel
theorem dX0_cutOver_93 : decode cX0_cutOver 93 = .ok (.dup2, 1) := by decide +kernel
theorem dX0_cutOver_94 : decode cX0_cutOver 94 = .ok (.iaload, 1) := by decide +kernel
theorem dX0_cutOver_95 : decode cX0_cutOver 95 = .ok (.iload 7, 2) := by decide +kernel
theorem dX0_cutOver_97 : decode cX0_cutOver 97 = .ok (.isub, 1) := by decide +kernel
theorem dX0_cutOver_98 : decode cX0_cutOver 98 = .ok (.iastore, 1) := by decide +kernel
theorem dX0_cutOver_99 : decode cX0_cutOver 99 = .ok (.aload_n 0, 1) := by decide +kernel
theorem dX0_cutOver_100 : decode cX0_cutOver 100 = .ok (.getfield 21, 3) := by decide +kernel
theorem dX0_cutOver_103 : decode cX0_cutOver 103 = .ok (.iload 6, 2) := by decide +kernel
theorem dX0_cutOver_105 : decode cX0_cutOver 105 = .ok (.dup2, 1) := by decide +kernel
theorem dX0_cutOver_106 : decode cX0_cutOver 106 = .ok (.iaload, 1) := by decide +kernel
theorem dX0_cutOver_107 : decode cX0_cutOver 107 = .ok (.iload 7, 2) := by decide +kernel
theorem dX0_cutOver_109 : decode cX0_cutOver 109 = .ok (.iadd, 1) := by decide +kernel
theorem dX0_cutOver_110 : decode cX0_cutOver 110 = .ok (.iastore, 1) := by decide +kernel
theorem dX0_cutOver_111 : decode cX0_cutOver 111 = .ok (.iload 4, 2) := by decide +kernel
theorem dX0_cutOver_113 : decode cX0_cutOver 113 = .ok (.iload 7, 2) := by decide +kernel
theorem dX0_cutOver_115 : decode cX0_cutOver 115 = .ok (.isub, 1) := by decide +kernel
theorem dX0_cutOver_116 : decode cX0_cutOver 116 = .ok (.istore 4, 2) := by decide +kernel
theorem dX0_cutOver_118 : decode cX0_cutOver 118 = .ok (.iinc 6 (-1), 3) := by decide +kernel
theorem dX0_cutOver_121 : decode cX0_cutOver 121 = .ok (.goto (-81), 3) := by decide +kernel
theorem dX0_cutOver_124 : decode cX0_cutOver 124 = .ok (.iconst 1, 1) := by decide +kernel
theorem dX0_cutOver_125 : decode cX0_cutOver 125 = .ok (.ireturn, 1) := by decide +kernel
theorem dX0_direction_0 : decode cX0_direction 0 = .ok (.iload_n 0, 1) := by decide +kernel
theorem dX0_direction_1 : decode cX0_direction 1 = .ok (.iload_n 2, 1) := by decide +kernel
theorem dX0_direction_2 : decode cX0_direction 2 = .ok (.if_icmp .gt 10, 3) := by decide +kernel
theorem dX0_direction_5 : decode cX0_direction 5 = .ok (.iload_n 2, 1) := by decide +kernel
theorem dX0_direction_6 : decode cX0_direction 6 = .ok (.iload_n 1, 1) := by decide +kernel
theorem dX0_direction_7 : decode cX0_direction 7 = .ok (.if_icmp .ge 5, 3) := by decide +kernel
theorem dX0_direction_10 : decode cX0_direction 10 = .ok (.iconst 1, 1) := by decide +kernel
theorem dX0_direction_11 : decode cX0_direction 11 = .ok (.ireturn, 1) := by decide +kernel
theorem dX0_direction_12 : decode cX0_direction 12 = .ok (.iload_n 1, 1) := by decide +kernel
theorem dX0_direction_13 : decode cX0_direction 13 = .ok (.iload_n 2, 1) := by decide +kernel
theorem dX0_direction_14 : decode cX0_direction 14 = .ok (.if_icmp .gt 10, 3) := by decide +kernel
theorem dX0_direction_17 : decode cX0_direction 17 = .ok (.iload_n 2, 1) := by decide +kernel
theorem dX0_direction_18 : decode cX0_direction 18 = .ok (.iload_n 0, 1) := by decide +kernel
theorem dX0_direction_19 : decode cX0_direction 19 = .ok (.if_icmp .ge 5, 3) := by decide +kernel
theorem dX0_direction_22 : decode cX0_direction 22 = .ok (.iconst (-1), 1) := by decide +kernel
theorem dX0_direction_23 : decode cX0_direction 23 = .ok (.ireturn, 1) := by decide +kernel
theorem dX0_direction_24 : decode cX0_direction 24 = .ok (.iconst 0, 1) := by decide +kernel
theorem dX0_direction_25 : decode cX0_direction 25 = .ok (.ireturn, 1) := by decide +kernel
set_option maxRecDepth 20000 in
theorem ggX1_init_X0_init : GoodIn wsX1_init wsX0_init := goodIn_r _ [27, 28, 2, 3, 6, 29, 30, 31, 32, 33, 34, 52, 53, 54, 55, 56, 57] (by decide +kernel) (by decide +kernel)
set_option maxRecDepth 20000 in
theorem gX1_init_X0_init_n46 : GoodIn wsX1_init (wsX0_init) := ggX1_init_X0_init
theorem dX1_init_0 : decode cX1_init 0 = .ok (.aload_n 0, 1) := by decide +kernel
theorem dX1_init_1 : decode cX1_init 1 = .ok (.invokespecial 3, 3) := by decide +kernel
theorem dX1_init_4 : decode cX1_init 4 = .ok (.aload_n 0, 1) := by decide +kernel
theorem dX1_init_5 : decode cX1_init 5 = .ok (.bipush 6, 2) := by decide +kernel
theorem dX1_init_7 : decode cX1_init 7 = .ok (.newarray .boolean, 2) := by decide +kernel
theorem dX1_init_9 : decode cX1_init 9 = .ok (.putfield 9, 3) := by decide +kernel
theorem dX1_init_12 : decode cX1_init 12 = .ok (.aload_n 0, 1) := by decide +kernel
theorem dX1_init_13 : decode cX1_init 13 = .ok (.bipush 6, 2) := by decide +kernel
theorem dX1_init_15 : decode cX1_init 15 = .ok (.newarray .int, 2) := by decide +kernel
theorem dX1_init_17 : decode cX1_init 17 = .ok (.putfield 13, 3) := by decide +kernel
theorem dX1_init_20 : decode cX1_init 20 = .ok (.aload_n 0, 1) := by decide +kernel
theorem dX1_init_21 : decode cX1_init 21 = .ok (.bipush 6, 2) := by decide +kernel
theorem dX1_init_23 : decode cX1_init 23 = .ok (.newarray .int, 2) := by decide +kernel
theorem dX1_init_25 : decode cX1_init 25 = .ok (.putfield 17, 3) := by decide +kernel
theorem dX1_init_28 : decode cX1_init 28 = .ok (.aload_n 0, 1) := by decide +kernel
theorem dX1_init_29 : decode cX1_init 29 = .ok (.bipush 6, 2) := by decide +kernel
theorem dX1_init_31 : decode cX1_init 31 = .ok (.newarray .int, 2) := by decide +kernel
theorem dX1_init_33 : decode cX1_init 33 = .ok (.putfield 20, 3) := by decide +kernel
theorem dX1_init_36 : decode cX1_init 36 = .ok (.aload_n 0, 1) := by decide +kernel
theorem dX1_init_37 : decode cX1_init 37 = .ok (.bipush 6, 2) := by decide +kernel
theorem dX1_init_39 : decode cX1_init 39 = .ok (.newarray .int, 2) := by decide +kernel
theorem dX1_init_41 : decode cX1_init 41 = .ok (.putfield 23, 3) := by decide +kernel
theorem dX1_init_44 : decode cX1_init 44 = .ok (.aload_n 0, 1) := by decide +kernel
theorem dX1_init_45 : decode cX1_init 45 = .ok (.bipush 6, 2) := by decide +kernel
theorem dX1_init_47 : decode cX1_init 47 = .ok (.newarray .int, 2) := by decide +kernel
theorem dX1_init_49 : decode cX1_init 49 = .ok (.putfield 26, 3) := by decide +kernel
theorem dX1_init_52 : decode cX1_init 52 = .ok (.aload_n 0, 1) := by decide +kernel
theorem dX1_init_53 : decode cX1_init 53 = .ok (.bipush 6, 2) := by decide +kernel
theorem dX1_init_55 : decode cX1_init 55 = .ok (.newarray .int, 2) := by decide +kernel
theorem dX1_init_57 : decode cX1_init 57 = .ok (.putfield 29, 3) := by decide +kernel
theorem dX1_init_60 : decode cX1_init 60 = .ok (.aload_n 0, 1) := by decide +kernel
theorem dX1_init_61 : decode cX1_init 61 = .ok (.bipush 6, 2) := by decide +kernel
theorem dX1_init_63 : decode cX1_init 63 = .ok (.newarray .int, 2) := by decide +kernel
theorem dX1_init_65 : decode cX1_init 65 = .ok (.putfield 32, 3) := by decide +kernel
theorem dX1_init_68 : decode cX1_init 68 = .ok (.aload_n 0, 1) := by decide +kernel
theorem dX1_init_69 : decode cX1_init 69 = .ok (.iconst 5, 1) := by decide +kernel
theorem dX1_init_70 : decode cX1_init 70 = .ok (.newarray .int, 2) := by decide +kernel
theorem dX1_init_72 : decode cX1_init 72 = .ok (.putfield 35, 3) := by decide +kernel
theorem dX1_init_75 : decode cX1_init 75 = .ok (.aload_n 0, 1) := by decide +kernel
theorem dX1_init_76 : decode cX1_init 76 = .ok (.iconst 5, 1) := by decide +kernel
theorem dX1_init_77 : decode cX1_init 77 = .ok (.newarray .int, 2) := by decide +kernel
theorem dX1_init_79 : decode cX1_init 79 = .ok (.putfield 38, 3) := by decide +kernel
theorem dX1_init_82 : decode cX1_init 82 = .ok (.aload_n 0, 1) := by decide +kernel
theorem dX1_init_83 : decode cX1_init 83 = .ok (.bipush 6, 2) := by decide +kernel
theorem dX1_init_85 : decode cX1_init 85 = .ok (.newarray .int, 2) := by decide +kernel
theorem dX1_init_87 : decode cX1_init 87 = .ok (.putfield 41, 3) := by decide +kernel
theorem dX1_init_90 : decode cX1_init 90 = .ok (.aload_n 0, 1) := by decide +kernel
theorem dX1_init_91 : decode cX1_init 91 = .ok (.new 44, 3) := by decide +kernel
theorem dX1_init_94 : decode cX1_init 94 = .ok (.dup, 1) := by decide +kernel
theorem dX1_init_95 : decode cX1_init 95 = .ok (.invokespecial 46, 3) := by decide +kernel
theorem dX1_init_98 : decode cX1_init 98 = .ok (.putfield 47, 3) := by decide +kernel
theorem dX1_init_101 : decode cX1_init 101 = .ok (.aload_n 0, 1) := by decide +kernel
theorem dX1_init_102 : decode cX1_init 102 = .ok (.bipush 30, 2) := by decide +kernel
theorem dX1_init_104 : decode cX1_init 104 = .ok (.putfield 51, 3) := by decide +kernel
theorem dX1_init_107 : decode cX1_init 107 = .ok (.aload_n 0, 1) := by decide +kernel
theorem dX1_init_108 : decode cX1_init 108 = .ok (.iconst 4, 1) := by decide +kernel
theorem dX1_init_109 : decode cX1_init 109 = .ok (.putfield 55, 3) := by decide +kernel
theorem dX1_init_112 : decode cX1_init 112 = .ok (.aload_n 0, 1) := by decide +kernel
theorem dX1_init_113 : decode cX1_init 113 = .ok (.iconst 0, 1) := by decide +kernel
theorem dX1_init_114 : decode cX1_init 114 = .ok (.putfield 58, 3) := by decide +kernel
theorem dX1_init_117 : decode cX1_init 117 = .ok (.aload_n 0, 1) := by decide +kernel
theorem dX1_init_118 : decode cX1_init 118 = .ok (.iconst 0, 1) := by decide +kernel
theorem dX1_init_119 : decode cX1_init 119 = .ok (.putfield 61, 3) := by decide +kernel
theorem dX1_init_122 : decode cX1_init 122 = .ok (.aload_n 0, 1) := by decide +kernel
theorem dX1_init_123 : decode cX1_init 123 = .ok (.iconst 0, 1) := by decide +kernel
theorem dX1_init_124 : decode cX1_init 124 = .ok (.putfield 64, 3) := by decide +kernel
theorem dX1_init_127 : decode cX1_init 127 = .ok (.iconst 0, 1) := by decide +kernel
theorem dX1_init_128 : decode cX1_init 128 = .ok (.istore_n 1, 1) := by decide +kernel
theorem dX1_init_129 : decode cX1_init 129 = .ok (.iload_n 1, 1) := by decide +kernel
theorem dX1_init_130 : decode cX1_init 130 = .ok (.bipush 6, 2) := by decide +kernel
theorem dX1_init_132 : decode cX1_init 132 = .ok (.if_icmp .ge 32, 3) := by decide +kernel
theorem dX1_init_135 : decode cX1_init 135 = .ok (.aload_n 0, 1) := by decide +kernel
theorem dX1_init_136 : decode cX1_init 136 = .ok (.getfield 9, 3) := by decide +kernel
theorem dX1_init_139 : decode cX1_init 139 = .ok (.iload_n 1, 1) := by decide +kernel
theorem dX1_init_140 : decode cX1_init 140 = .ok (.iconst 1, 1) := by decide +kernel
theorem dX1_init_141 : decode cX1_init 141 = .ok (.bastore, 1) := by decide +kernel
theorem dX1_init_142 : decode cX1_init 142 = .ok (.aload_n 0, 1) := by decide +kernel
theorem dX1_init_143 : decode cX1_init 143 = .ok (.getfield 20, 3) := by decide +kernel
theorem dX1_init_146 : decode cX1_init 146 = .ok (.iload_n 1, 1) := by decide +kernel
theorem dX1_init_147 : decode cX1_init 147 = .ok (.bipush 10, 2) := by decide +kernel
theorem dX1_init_149 : decode cX1_init 149 = .ok (.iastore, 1) := by decide +kernel
theorem dX1_init_150 : decode cX1_init 150 = .ok (.aload_n 0, 1) := by decide +kernel
theorem dX1_init_151 : decode cX1_init 151 = .ok (.getfield 23, 3) := by decide +kernel
theorem dX1_init_154 : decode cX1_init 154 = .ok (.iload_n 1, 1) := by decide +kernel
theorem dX1_init_155 : decode cX1_init 155 = .ok (.bipush 20, 2) := by decide +kernel
theorem dX1_init_157 : decode cX1_init 157 = .ok (.iastore, 1) := by decide +kernel
theorem dX1_init_158 : decode cX1_init 158 = .ok (.iinc 1 1, 3) := by decide +kernel
theorem dX1_init_161 : decode cX1_init 161 = .ok (.goto (-32), 3) := by decide +kernel
theorem dX1_init_164 : decode cX1_init 164 = .ok (.iconst 0, 1) := by decide +kernel
theorem dX1_init_165 : decode cX1_init 165 = .ok (.istore_n 1, 1) := by decide +kernel
theorem dX1_init_166 : decode cX1_init 166 = .ok (.iload_n 1, 1) := by decide +kernel
theorem dX1_init_167 : decode cX1_init 167 = .ok (.iconst 5, 1) := by decide +kernel
theorem dX1_init_168 : decode cX1_init 168 = .ok (.if_icmp .ge 17, 3) := by decide +kernel
theorem dX1_init_171 : decode cX1_init 171 = .ok (.aload_n 0, 1) := by decide +kernel
theorem dX1_init_172 : decode cX1_init 172 = .ok (.getfield 35, 3) := by decide +kernel
theorem dX1_init_175 : decode cX1_init 175 = .ok (.iload_n 1, 1) := by decide +kernel
theorem dX1_init_176 : decode cX1_init 176 = .ok (.bipush 100, 2) := by decide +kernel
theorem dX1_init_178 : decode cX1_init 178 = .ok (.iastore, 1) := by decide +kernel
theorem dX1_init_179 : decode cX1_init 179 = .ok (.iinc 1 1, 3) := by decide +kernel
theorem dX1_init_182 : decode cX1_init 182 = .ok (.goto (-16), 3) := by decide +kernel
theorem dX1_init_185 : decode cX1_init 185 = .ok (.return_, 1) := by decide +kernel
set_option maxRecDepth 20000 in
theorem ggX1_forecast_X1_checkHouse : GoodIn wsX1_forecast wsX1_checkHouse := goodIn_ca (goodIn_r _ [5, 6, 7] (by decide +kernel) (by decide +kernel)) (goodIn_sub (fun _ h => List.mem_cons_of_mem _ (List.mem_append_left _ (List.mem_append_left _ (List.mem_append_right _ h)))) (by decide +kernel))
set_option maxRecDepth 20000 in
theorem gX1_forecast_X1_checkHouse : GoodIn wsX1_forecast (va_wsS RX1 67 yX1_checkHouse wsX1_checkHouse) := goodIn_app (goodIn_of _ (by decide +kernel)) ggX1_forecast_X1_checkHouse
set_option maxRecDepth 20000 in
theorem ggX1_forecast_X1_checkRange : GoodIn wsX1_forecast wsX1_checkRange := goodIn_ca (goodIn_r _ [10, 11, 12] (by decide +kernel) (by decide +kernel)) (goodIn_sub (fun _ h => List.mem_cons_of_mem _ (List.mem_append_left _ (List.mem_append_right _ h))) (by decide +kernel))
set_option maxRecDepth 20000 in
theorem gX1_forecast_X1_checkRange : GoodIn wsX1_forecast (va_wsS RX1 71 yX1_checkRange wsX1_checkRange) := goodIn_app (goodIn_of _ (by decide +kernel)) ggX1_forecast_X1_checkRange
set_option maxRecDepth 20000 in
theorem ggX1_forecast_X1_checkMember : GoodIn wsX1_forecast wsX1_checkMember := goodIn_ca (goodIn_r _ [16, 17, 18, 19, 20, 21, 22, 23, 24, 25, 26, 27, 28, 29, 30, 31, 32, 33, 34, 35, 36] (by decide +kernel) (by decide +kernel)) (goodIn_sub (fun _ h => List.mem_cons_of_mem _ (List.mem_append_right _ h)) (by decide +kernel))
set_option maxRecDepth 20000 in
theorem gX1_forecast_X1_checkMember : GoodIn wsX1_forecast (wsV RX1 75 RX1 yX1_checkMember wsX1_checkMember) := goodIn_app (goodIn_of _ (by decide +kernel)) ggX1_forecast_X1_checkMember
theorem dX1_forecast_0 : decode cX1_forecast 0 = .ok (.iload_n 1, 1) := by decide +kernel
theorem dX1_forecast_1 : decode cX1_forecast 1 = .ok (.invokestatic 67, 3) := by decide +kernel
theorem dX1_forecast_4 : decode cX1_forecast 4 = .ok (.iload_n 2, 1) := by decide +kernel
theorem dX1_forecast_5 : decode cX1_forecast 5 = .ok (.bipush (-50), 2) := by decide +kernel
theorem dX1_forecast_7 : decode cX1_forecast 7 = .ok (.bipush 50, 2) := by decide +kernel
theorem dX1_forecast_9 : decode cX1_forecast 9 = .ok (.invokestatic 71, 3) := by decide +kernel
theorem dX1_forecast_12 : decode cX1_forecast 12 = .ok (.aload_n 0, 1) := by decide +kernel
theorem dX1_forecast_13 : decode cX1_forecast 13 = .ok (.iload_n 1, 1) := by decide +kernel
theorem dX1_forecast_14 : decode cX1_forecast 14 = .ok (.invokevirtual 75, 3) := by decide +kernel
theorem dX1_forecast_17 : decode cX1_forecast 17 = .ok (.aload_n 0, 1) := by decide +kernel
theorem dX1_forecast_18 : decode cX1_forecast 18 = .ok (.getfield 13, 3) := by decide +kernel
theorem dX1_forecast_21 : decode cX1_forecast 21 = .ok (.iload_n 1, 1) := by decide +kernel
theorem dX1_forecast_22 : decode cX1_forecast 22 = .ok (.iaload, 1) := by decide +kernel
theorem dX1_forecast_23 : decode cX1_forecast 23 = .ok (.istore_n 3, 1) := by decide +kernel
theorem dX1_forecast_24 : decode cX1_forecast 24 = .ok (.aload_n 0, 1) := by decide +kernel
theorem dX1_forecast_25 : decode cX1_forecast 25 = .ok (.getfield 13, 3) := by decide +kernel
theorem dX1_forecast_28 : decode cX1_forecast 28 = .ok (.iload_n 1, 1) := by decide +kernel
theorem dX1_forecast_29 : decode cX1_forecast 29 = .ok (.iload_n 2, 1) := by decide +kernel
theorem dX1_forecast_30 : decode cX1_forecast 30 = .ok (.iastore, 1) := by decide +kernel
theorem dX1_forecast_31 : decode cX1_forecast 31 = .ok (.iload_n 3, 1) := by decide +kernel
theorem dX1_forecast_32 : decode cX1_forecast 32 = .ok (.ireturn, 1) := by decide +kernel
set_option maxRecDepth 20000 in
theorem ggX1_meter_X1_checkHouse : GoodIn wsX1_meter wsX1_checkHouse := goodIn_ca (goodIn_r _ [5, 6, 7] (by decide +kernel) (by decide +kernel)) (goodIn_sub (fun _ h => List.mem_cons_of_mem _ (List.mem_append_left _ (List.mem_append_left _ (List.mem_append_right _ h)))) (by decide +kernel))
set_option maxRecDepth 20000 in
theorem gX1_meter_X1_checkHouse : GoodIn wsX1_meter (va_wsS RX1 67 yX1_checkHouse wsX1_checkHouse) := goodIn_app (goodIn_of _ (by decide +kernel)) ggX1_meter_X1_checkHouse
set_option maxRecDepth 20000 in
theorem ggX1_meter_X1_checkRange : GoodIn wsX1_meter wsX1_checkRange := goodIn_ca (goodIn_r _ [10, 11, 12] (by decide +kernel) (by decide +kernel)) (goodIn_sub (fun _ h => List.mem_cons_of_mem _ (List.mem_append_left _ (List.mem_append_right _ h))) (by decide +kernel))
set_option maxRecDepth 20000 in
theorem gX1_meter_X1_checkRange : GoodIn wsX1_meter (va_wsS RX1 71 yX1_checkRange wsX1_checkRange) := goodIn_app (goodIn_of _ (by decide +kernel)) ggX1_meter_X1_checkRange
set_option maxRecDepth 20000 in
theorem ggX1_meter_X1_checkMember : GoodIn wsX1_meter wsX1_checkMember := goodIn_ca (goodIn_r _ [16, 17, 18, 19, 20, 21, 22, 23, 24, 25, 26, 27, 28, 29, 30, 31, 32, 33, 34, 35, 36] (by decide +kernel) (by decide +kernel)) (goodIn_sub (fun _ h => List.mem_cons_of_mem _ (List.mem_append_right _ h)) (by decide +kernel))
set_option maxRecDepth 20000 in
theorem gX1_meter_X1_checkMember : GoodIn wsX1_meter (wsV RX1 75 RX1 yX1_checkMember wsX1_checkMember) := goodIn_app (goodIn_of _ (by decide +kernel)) ggX1_meter_X1_checkMember
theorem dX1_meter_0 : decode cX1_meter 0 = .ok (.iload_n 1, 1) := by decide +kernel
theorem dX1_meter_1 : decode cX1_meter 1 = .ok (.invokestatic 67, 3) := by decide +kernel
theorem dX1_meter_4 : decode cX1_meter 4 = .ok (.iload_n 2, 1) := by decide +kernel
theorem dX1_meter_5 : decode cX1_meter 5 = .ok (.bipush (-50), 2) := by decide +kernel
theorem dX1_meter_7 : decode cX1_meter 7 = .ok (.bipush 50, 2) := by decide +kernel
theorem dX1_meter_9 : decode cX1_meter 9 = .ok (.invokestatic 71, 3) := by decide +kernel
theorem dX1_meter_12 : decode cX1_meter 12 = .ok (.aload_n 0, 1) := by decide +kernel
theorem dX1_meter_13 : decode cX1_meter 13 = .ok (.iload_n 1, 1) := by decide +kernel
theorem dX1_meter_14 : decode cX1_meter 14 = .ok (.invokevirtual 75, 3) := by decide +kernel
theorem dX1_meter_17 : decode cX1_meter 17 = .ok (.aload_n 0, 1) := by decide +kernel
theorem dX1_meter_18 : decode cX1_meter 18 = .ok (.getfield 17, 3) := by decide +kernel
theorem dX1_meter_21 : decode cX1_meter 21 = .ok (.iload_n 1, 1) := by decide +kernel
theorem dX1_meter_22 : decode cX1_meter 22 = .ok (.iaload, 1) := by decide +kernel
theorem dX1_meter_23 : decode cX1_meter 23 = .ok (.istore_n 3, 1) := by decide +kernel
theorem dX1_meter_24 : decode cX1_meter 24 = .ok (.aload_n 0, 1) := by decide +kernel
theorem dX1_meter_25 : decode cX1_meter 25 = .ok (.getfield 17, 3) := by decide +kernel
theorem dX1_meter_28 : decode cX1_meter 28 = .ok (.iload_n 1, 1) := by decide +kernel
theorem dX1_meter_29 : decode cX1_meter 29 = .ok (.iload_n 2, 1) := by decide +kernel
theorem dX1_meter_30 : decode cX1_meter 30 = .ok (.iastore, 1) := by decide +kernel
theorem dX1_meter_31 : decode cX1_meter 31 = .ok (.iload_n 3, 1) := by decide +kernel
theorem dX1_meter_32 : decode cX1_meter 32 = .ok (.ireturn, 1) := by decide +kernel
set_option maxRecDepth 20000 in
theorem ggX1_setPrice_X1_checkHouse : GoodIn wsX1_setPrice wsX1_checkHouse := goodIn_ca (goodIn_r _ [5, 6, 7] (by decide +kernel) (by decide +kernel)) (goodIn_sub (fun _ h => List.mem_cons_of_mem _ (List.mem_append_left _ (List.mem_append_right _ h))) (by decide +kernel))
set_option maxRecDepth 20000 in
theorem gX1_setPrice_X1_checkHouse : GoodIn wsX1_setPrice (va_wsS RX1 67 yX1_checkHouse wsX1_checkHouse) := goodIn_app (goodIn_of _ (by decide +kernel)) ggX1_setPrice_X1_checkHouse
set_option maxRecDepth 20000 in
theorem ggX1_setPrice_X1_checkRange : GoodIn wsX1_setPrice wsX1_checkRange := goodIn_ca (goodIn_r _ [10, 11, 12] (by decide +kernel) (by decide +kernel)) (goodIn_sub (fun _ h => List.mem_cons_of_mem _ (List.mem_append_right _ h)) (by decide +kernel))
set_option maxRecDepth 20000 in
theorem gX1_setPrice_X1_checkRange : GoodIn wsX1_setPrice (va_wsS RX1 71 yX1_checkRange wsX1_checkRange) := goodIn_app (goodIn_of _ (by decide +kernel)) ggX1_setPrice_X1_checkRange
theorem dX1_setPrice_0 : decode cX1_setPrice 0 = .ok (.iload_n 1, 1) := by decide +kernel
theorem dX1_setPrice_1 : decode cX1_setPrice 1 = .ok (.invokestatic 67, 3) := by decide +kernel
theorem dX1_setPrice_4 : decode cX1_setPrice 4 = .ok (.iload_n 2, 1) := by decide +kernel
theorem dX1_setPrice_5 : decode cX1_setPrice 5 = .ok (.iconst 0, 1) := by decide +kernel
theorem dX1_setPrice_6 : decode cX1_setPrice 6 = .ok (.bipush 100, 2) := by decide +kernel
theorem dX1_setPrice_8 : decode cX1_setPrice 8 = .ok (.invokestatic 71, 3) := by decide +kernel
theorem dX1_setPrice_11 : decode cX1_setPrice 11 = .ok (.aload_n 0, 1) := by decide +kernel
theorem dX1_setPrice_12 : decode cX1_setPrice 12 = .ok (.getfield 20, 3) := by decide +kernel
theorem dX1_setPrice_15 : decode cX1_setPrice 15 = .ok (.iload_n 1, 1) := by decide +kernel
theorem dX1_setPrice_16 : decode cX1_setPrice 16 = .ok (.iaload, 1) := by decide +kernel
theorem dX1_setPrice_17 : decode cX1_setPrice 17 = .ok (.istore_n 3, 1) := by decide +kernel
theorem dX1_setPrice_18 : decode cX1_setPrice 18 = .ok (.aload_n 0, 1) := by decide +kernel
theorem dX1_setPrice_19 : decode cX1_setPrice 19 = .ok (.getfield 20, 3) := by decide +kernel
theorem dX1_setPrice_22 : decode cX1_setPrice 22 = .ok (.iload_n 1, 1) := by decide +kernel
theorem dX1_setPrice_23 : decode cX1_setPrice 23 = .ok (.iload_n 2, 1) := by decide +kernel
theorem dX1_setPrice_24 : decode cX1_setPrice 24 = .ok (.iastore, 1) := by decide +kernel
theorem dX1_setPrice_25 : decode cX1_setPrice 25 = .ok (.iload_n 3, 1) := by decide +kernel
theorem dX1_setPrice_26 : decode cX1_setPrice 26 = .ok (.ireturn, 1) := by decide +kernel
set_option maxRecDepth 20000 in
theorem ggX1_setLimit_X1_checkStretch : GoodIn wsX1_setLimit wsX1_checkStretch := goodIn_ca (goodIn_r _ [5, 6, 7] (by decide +kernel) (by decide +kernel)) (goodIn_sub (fun _ h => List.mem_cons_of_mem _ (List.mem_append_left _ (List.mem_append_right _ h))) (by decide +kernel))
set_option maxRecDepth 20000 in
theorem gX1_setLimit_X1_checkStretch : GoodIn wsX1_setLimit (va_wsS RX1 78 yX1_checkStretch wsX1_checkStretch) := goodIn_app (goodIn_of _ (by decide +kernel)) ggX1_setLimit_X1_checkStretch
set_option maxRecDepth 20000 in
theorem ggX1_setLimit_X1_checkRange : GoodIn wsX1_setLimit wsX1_checkRange := goodIn_ca (goodIn_r _ [10, 11, 12] (by decide +kernel) (by decide +kernel)) (goodIn_sub (fun _ h => List.mem_cons_of_mem _ (List.mem_append_right _ h)) (by decide +kernel))
set_option maxRecDepth 20000 in
theorem gX1_setLimit_X1_checkRange : GoodIn wsX1_setLimit (va_wsS RX1 71 yX1_checkRange wsX1_checkRange) := goodIn_app (goodIn_of _ (by decide +kernel)) ggX1_setLimit_X1_checkRange
theorem dX1_setLimit_0 : decode cX1_setLimit 0 = .ok (.iload_n 1, 1) := by decide +kernel
theorem dX1_setLimit_1 : decode cX1_setLimit 1 = .ok (.invokestatic 78, 3) := by decide +kernel
theorem dX1_setLimit_4 : decode cX1_setLimit 4 = .ok (.iload_n 2, 1) := by decide +kernel
theorem dX1_setLimit_5 : decode cX1_setLimit 5 = .ok (.iconst 0, 1) := by decide +kernel
theorem dX1_setLimit_6 : decode cX1_setLimit 6 = .ok (.sipush 300, 3) := by decide +kernel
theorem dX1_setLimit_9 : decode cX1_setLimit 9 = .ok (.invokestatic 71, 3) := by decide +kernel
theorem dX1_setLimit_12 : decode cX1_setLimit 12 = .ok (.aload_n 0, 1) := by decide +kernel
theorem dX1_setLimit_13 : decode cX1_setLimit 13 = .ok (.getfield 35, 3) := by decide +kernel
theorem dX1_setLimit_16 : decode cX1_setLimit 16 = .ok (.iload_n 1, 1) := by decide +kernel
theorem dX1_setLimit_17 : decode cX1_setLimit 17 = .ok (.iaload, 1) := by decide +kernel
theorem dX1_setLimit_18 : decode cX1_setLimit 18 = .ok (.istore_n 3, 1) := by decide +kernel
theorem dX1_setLimit_19 : decode cX1_setLimit 19 = .ok (.aload_n 0, 1) := by decide +kernel
theorem dX1_setLimit_20 : decode cX1_setLimit 20 = .ok (.getfield 35, 3) := by decide +kernel
theorem dX1_setLimit_23 : decode cX1_setLimit 23 = .ok (.iload_n 1, 1) := by decide +kernel
theorem dX1_setLimit_24 : decode cX1_setLimit 24 = .ok (.iload_n 2, 1) := by decide +kernel
theorem dX1_setLimit_25 : decode cX1_setLimit 25 = .ok (.iastore, 1) := by decide +kernel
theorem dX1_setLimit_26 : decode cX1_setLimit 26 = .ok (.iload_n 3, 1) := by decide +kernel
theorem dX1_setLimit_27 : decode cX1_setLimit 27 = .ok (.ireturn, 1) := by decide +kernel
set_option maxRecDepth 20000 in
theorem ggX1_setSupplier_X1_checkRange : GoodIn wsX1_setSupplier wsX1_checkRange := goodIn_ca (goodIn_r _ [6, 7, 8] (by decide +kernel) (by decide +kernel)) (goodIn_sub (fun _ h => List.mem_cons_of_mem _ (List.mem_append_right _ h)) (by decide +kernel))
set_option maxRecDepth 20000 in
theorem gX1_setSupplier_X1_checkRange : GoodIn wsX1_setSupplier (va_wsS RX1 71 yX1_checkRange wsX1_checkRange) := goodIn_app (goodIn_of _ (by decide +kernel)) ggX1_setSupplier_X1_checkRange
theorem dX1_setSupplier_0 : decode cX1_setSupplier 0 = .ok (.iload_n 1, 1) := by decide +kernel
theorem dX1_setSupplier_1 : decode cX1_setSupplier 1 = .ok (.iconst 1, 1) := by decide +kernel
theorem dX1_setSupplier_2 : decode cX1_setSupplier 2 = .ok (.bipush 100, 2) := by decide +kernel
theorem dX1_setSupplier_4 : decode cX1_setSupplier 4 = .ok (.invokestatic 71, 3) := by decide +kernel
theorem dX1_setSupplier_7 : decode cX1_setSupplier 7 = .ok (.iload_n 2, 1) := by decide +kernel
theorem dX1_setSupplier_8 : decode cX1_setSupplier 8 = .ok (.iconst 0, 1) := by decide +kernel
theorem dX1_setSupplier_9 : decode cX1_setSupplier 9 = .ok (.iload_n 1, 1) := by decide +kernel
theorem dX1_setSupplier_10 : decode cX1_setSupplier 10 = .ok (.invokestatic 71, 3) := by decide +kernel
theorem dX1_setSupplier_13 : decode cX1_setSupplier 13 = .ok (.aload_n 0, 1) := by decide +kernel
theorem dX1_setSupplier_14 : decode cX1_setSupplier 14 = .ok (.iload_n 1, 1) := by decide +kernel
theorem dX1_setSupplier_15 : decode cX1_setSupplier 15 = .ok (.putfield 51, 3) := by decide +kernel
theorem dX1_setSupplier_18 : decode cX1_setSupplier 18 = .ok (.aload_n 0, 1) := by decide +kernel
theorem dX1_setSupplier_19 : decode cX1_setSupplier 19 = .ok (.iload_n 2, 1) := by decide +kernel
theorem dX1_setSupplier_20 : decode cX1_setSupplier 20 = .ok (.putfield 55, 3) := by decide +kernel
theorem dX1_setSupplier_23 : decode cX1_setSupplier 23 = .ok (.return_, 1) := by decide +kernel
set_option maxRecDepth 20000 in
theorem ggX1_rent_X1_checkHouse : GoodIn wsX1_rent wsX1_checkHouse := goodIn_ca (goodIn_r _ [10, 11, 12] (by decide +kernel) (by decide +kernel)) (goodIn_sub (fun _ h => List.mem_cons_of_mem _ (List.mem_append_right _ h)) (by decide +kernel))
set_option maxRecDepth 20000 in
theorem gX1_rent_X1_checkHouse : GoodIn wsX1_rent (va_wsS RX1 67 yX1_checkHouse wsX1_checkHouse) := goodIn_app (goodIn_of _ (by decide +kernel)) ggX1_rent_X1_checkHouse
set_option maxRecDepth 20000 in
theorem ggX1_rent_X1_checkRange : GoodIn wsX1_rent wsX1_checkRange := goodIn_ca (goodIn_r _ [15, 1, 2] (by decide +kernel) (by decide +kernel)) (goodIn_sub (fun _ h => List.mem_cons_of_mem _ (List.mem_append_left _ (List.mem_append_left _ (List.mem_append_right _ h)))) (by decide +kernel))
set_option maxRecDepth 20000 in
theorem gX1_rent_X1_checkRange : GoodIn wsX1_rent (va_wsS RX1 71 yX1_checkRange wsX1_checkRange) := goodIn_app (goodIn_of _ (by decide +kernel)) ggX1_rent_X1_checkRange
set_option maxRecDepth 20000 in
theorem ggX1_rent_X1_checkMember : GoodIn wsX1_rent wsX1_checkMember := goodIn_ca (goodIn_r _ [19, 3, 4, 20, 21, 22, 23, 24, 25, 26, 27, 28, 29, 30, 31, 32, 33, 34, 35, 36, 37] (by decide +kernel) (by decide +kernel)) (goodIn_sub (fun _ h => List.mem_cons_of_mem _ (List.mem_append_left _ (List.mem_append_right _ h))) (by decide +kernel))
set_option maxRecDepth 20000 in
theorem gX1_rent_X1_checkMember : GoodIn wsX1_rent (wsV RX1 75 RX1 yX1_checkMember wsX1_checkMember) := goodIn_app (goodIn_of _ (by decide +kernel)) ggX1_rent_X1_checkMember
theorem dX1_rent_0 : decode cX1_rent 0 = .ok (.iload_n 1, 1) := by decide +kernel
theorem dX1_rent_1 : decode cX1_rent 1 = .ok (.invokestatic 67, 3) := by decide +kernel
theorem dX1_rent_4 : decode cX1_rent 4 = .ok (.iload_n 2, 1) := by decide +kernel
theorem dX1_rent_5 : decode cX1_rent 5 = .ok (.invokestatic 67, 3) := by decide +kernel
theorem dX1_rent_8 : decode cX1_rent 8 = .ok (.iload_n 1, 1) := by decide +kernel
theorem dX1_rent_9 : decode cX1_rent 9 = .ok (.iload_n 2, 1) := by decide +kernel
theorem dX1_rent_10 : decode cX1_rent 10 = .ok (.if_icmp .ne 13, 3) := by decide +kernel
theorem dX1_rent_13 : decode cX1_rent 13 = .ok (.new 81, 3) := by decide +kernel
theorem dX1_rent_16 : decode cX1_rent 16 = .ok (.dup, 1) := by decide +kernel
theorem dX1_rent_17 : decode cX1_rent 17 = .ok (.ldc 83, 2) := by decide +kernel
theorem dX1_rent_19 : decode cX1_rent 19 = .ok (.invokespecial 85, 3) := by decide +kernel
theorem dX1_rent_22 : decode cX1_rent 22 = .ok (.athrow, 1) := by decide +kernel
theorem dX1_rent_23 : decode cX1_rent 23 = .ok (.iload_n 3, 1) := by decide +kernel
theorem dX1_rent_24 : decode cX1_rent 24 = .ok (.iconst 1, 1) := by decide +kernel
theorem dX1_rent_25 : decode cX1_rent 25 = .ok (.bipush 100, 2) := by decide +kernel
theorem dX1_rent_27 : decode cX1_rent 27 = .ok (.invokestatic 71, 3) := by decide +kernel
theorem dX1_rent_30 : decode cX1_rent 30 = .ok (.aload_n 0, 1) := by decide +kernel
theorem dX1_rent_31 : decode cX1_rent 31 = .ok (.iload_n 1, 1) := by decide +kernel
theorem dX1_rent_32 : decode cX1_rent 32 = .ok (.invokevirtual 75, 3) := by decide +kernel
theorem dX1_rent_35 : decode cX1_rent 35 = .ok (.aload_n 0, 1) := by decide +kernel
theorem dX1_rent_36 : decode cX1_rent 36 = .ok (.iload_n 2, 1) := by decide +kernel
theorem dX1_rent_37 : decode cX1_rent 37 = .ok (.invokevirtual 75, 3) := by decide +kernel
theorem dX1_rent_40 : decode cX1_rent 40 = .ok (.aload_n 0, 1) := by decide +kernel
theorem dX1_rent_41 : decode cX1_rent 41 = .ok (.getfield 23, 3) := by decide +kernel
theorem dX1_rent_44 : decode cX1_rent 44 = .ok (.iload_n 1, 1) := by decide +kernel
theorem dX1_rent_45 : decode cX1_rent 45 = .ok (.iaload, 1) := by decide +kernel
theorem dX1_rent_46 : decode cX1_rent 46 = .ok (.iload_n 3, 1) := by decide +kernel
theorem dX1_rent_47 : decode cX1_rent 47 = .ok (.isub, 1) := by decide +kernel
theorem dX1_rent_48 : decode cX1_rent 48 = .ok (.aload_n 0, 1) := by decide +kernel
theorem dX1_rent_49 : decode cX1_rent 49 = .ok (.getfield 26, 3) := by decide +kernel
theorem dX1_rent_52 : decode cX1_rent 52 = .ok (.iload_n 1, 1) := by decide +kernel
theorem dX1_rent_53 : decode cX1_rent 53 = .ok (.iaload, 1) := by decide +kernel
theorem dX1_rent_54 : decode cX1_rent 54 = .ok (.if_icmp .ge 13, 3) := by decide +kernel
theorem dX1_rent_57 : decode cX1_rent 57 = .ok (.new 88, 3) := by decide +kernel
theorem dX1_rent_60 : decode cX1_rent 60 = .ok (.dup, 1) := by decide +kernel
theorem dX1_rent_61 : decode cX1_rent 61 = .ok (.ldc 90, 2) := by decide +kernel
theorem dX1_rent_63 : decode cX1_rent 63 = .ok (.invokespecial 92, 3) := by decide +kernel
theorem dX1_rent_66 : decode cX1_rent 66 = .ok (.athrow, 1) := by decide +kernel
theorem dX1_rent_67 : decode cX1_rent 67 = .ok (.aload_n 0, 1) := by decide +kernel
theorem dX1_rent_68 : decode cX1_rent 68 = .ok (.getfield 23, 3) := by decide +kernel
theorem dX1_rent_71 : decode cX1_rent 71 = .ok (.iload_n 1, 1) := by decide +kernel
theorem dX1_rent_72 : decode cX1_rent 72 = .ok (.dup2, 1) := by decide +kernel
theorem dX1_rent_73 : decode cX1_rent 73 = .ok (.iaload, 1) := by decide +kernel
theorem dX1_rent_74 : decode cX1_rent 74 = .ok (.iload_n 3, 1) := by decide +kernel
theorem dX1_rent_75 : decode cX1_rent 75 = .ok (.isub, 1) := by decide +kernel
theorem dX1_rent_76 : decode cX1_rent 76 = .ok (.iastore, 1) := by decide +kernel
theorem dX1_rent_77 : decode cX1_rent 77 = .ok (.aload_n 0, 1) := by decide +kernel
theorem dX1_rent_78 : decode cX1_rent 78 = .ok (.getfield 23, 3) := by decide +kernel
theorem dX1_rent_81 : decode cX1_rent 81 = .ok (.iload_n 2, 1) := by decide +kernel
theorem dX1_rent_82 : decode cX1_rent 82 = .ok (.dup2, 1) := by decide +kernel
theorem dX1_rent_83 : decode cX1_rent 83 = .ok (.iaload, 1) := by decide +kernel
theorem dX1_rent_84 : decode cX1_rent 84 = .ok (.iload_n 3, 1) := by decide +kernel
theorem dX1_rent_85 : decode cX1_rent 85 = .ok (.iadd, 1) := by decide +kernel
theorem dX1_rent_86 : decode cX1_rent 86 = .ok (.iastore, 1) := by decide +kernel
theorem dX1_rent_87 : decode cX1_rent 87 = .ok (.aload_n 0, 1) := by decide +kernel
theorem dX1_rent_88 : decode cX1_rent 88 = .ok (.getfield 23, 3) := by decide +kernel
theorem dX1_rent_91 : decode cX1_rent 91 = .ok (.iload_n 2, 1) := by decide +kernel
theorem dX1_rent_92 : decode cX1_rent 92 = .ok (.iaload, 1) := by decide +kernel
theorem dX1_rent_93 : decode cX1_rent 93 = .ok (.ireturn, 1) := by decide +kernel
set_option maxRecDepth 20000 in
theorem ggX1_leave_X1_checkHouse : GoodIn wsX1_leave wsX1_checkHouse := goodIn_ca (goodIn_r _ [10, 11, 12] (by decide +kernel) (by decide +kernel)) (goodIn_sub (fun _ h => List.mem_cons_of_mem _ (List.mem_append_left _ (List.mem_append_right _ h))) (by decide +kernel))
set_option maxRecDepth 20000 in
theorem gX1_leave_X1_checkHouse : GoodIn wsX1_leave (va_wsS RX1 67 yX1_checkHouse wsX1_checkHouse) := goodIn_app (goodIn_of _ (by decide +kernel)) ggX1_leave_X1_checkHouse
set_option maxRecDepth 20000 in
theorem ggX1_leave_X1_checkMember : GoodIn wsX1_leave wsX1_checkMember := goodIn_ca (goodIn_r _ [16, 17, 18, 3, 25, 26, 27, 28, 29, 30, 31, 32, 33, 34, 35, 36, 37, 38, 39, 40, 41] (by decide +kernel) (by decide +kernel)) (goodIn_sub (fun _ h => List.mem_cons_of_mem _ (List.mem_append_right _ h)) (by decide +kernel))
set_option maxRecDepth 20000 in
theorem gX1_leave_X1_checkMember : GoodIn wsX1_leave (wsV RX1 75 RX1 yX1_checkMember wsX1_checkMember) := goodIn_app (goodIn_of _ (by decide +kernel)) ggX1_leave_X1_checkMember
set_option maxRecDepth 20000 in
theorem ggX1_leave_X1_payPool : GoodIn wsX1_leave wsX1_payPool := goodIn_r _ [22, 23, 24, 25, 26, 27, 28, 29, 30, 31, 32, 33, 34, 35, 36, 37, 38, 39, 40, 41] (by decide +kernel) (by decide +kernel)
set_option maxRecDepth 20000 in
theorem gX1_leave_X1_payPool : GoodIn wsX1_leave (wsV RX1 93 RX1 yX1_payPool wsX1_payPool) := goodIn_app (goodIn_of _ (by decide +kernel)) ggX1_leave_X1_payPool
theorem dX1_leave_0 : decode cX1_leave 0 = .ok (.iload_n 1, 1) := by decide +kernel
theorem dX1_leave_1 : decode cX1_leave 1 = .ok (.invokestatic 67, 3) := by decide +kernel
theorem dX1_leave_4 : decode cX1_leave 4 = .ok (.aload_n 0, 1) := by decide +kernel
theorem dX1_leave_5 : decode cX1_leave 5 = .ok (.iload_n 1, 1) := by decide +kernel
theorem dX1_leave_6 : decode cX1_leave 6 = .ok (.invokevirtual 75, 3) := by decide +kernel
theorem dX1_leave_9 : decode cX1_leave 9 = .ok (.aload_n 0, 1) := by decide +kernel
theorem dX1_leave_10 : decode cX1_leave 10 = .ok (.getfield 26, 3) := by decide +kernel
theorem dX1_leave_13 : decode cX1_leave 13 = .ok (.iload_n 1, 1) := by decide +kernel
theorem dX1_leave_14 : decode cX1_leave 14 = .ok (.iaload, 1) := by decide +kernel
theorem dX1_leave_15 : decode cX1_leave 15 = .ok (.aload_n 0, 1) := by decide +kernel
theorem dX1_leave_16 : decode cX1_leave 16 = .ok (.getfield 55, 3) := by decide +kernel
theorem dX1_leave_19 : decode cX1_leave 19 = .ok (.imul, 1) := by decide +kernel
theorem dX1_leave_20 : decode cX1_leave 20 = .ok (.istore_n 2, 1) := by decide +kernel
theorem dX1_leave_21 : decode cX1_leave 21 = .ok (.aload_n 0, 1) := by decide +kernel
theorem dX1_leave_22 : decode cX1_leave 22 = .ok (.iload_n 1, 1) := by decide +kernel
theorem dX1_leave_23 : decode cX1_leave 23 = .ok (.iload_n 2, 1) := by decide +kernel
theorem dX1_leave_24 : decode cX1_leave 24 = .ok (.ineg, 1) := by decide +kernel
theorem dX1_leave_25 : decode cX1_leave 25 = .ok (.invokevirtual 93, 3) := by decide +kernel
theorem dX1_leave_28 : decode cX1_leave 28 = .ok (.aload_n 0, 1) := by decide +kernel
theorem dX1_leave_29 : decode cX1_leave 29 = .ok (.getfield 9, 3) := by decide +kernel
theorem dX1_leave_32 : decode cX1_leave 32 = .ok (.iload_n 1, 1) := by decide +kernel
theorem dX1_leave_33 : decode cX1_leave 33 = .ok (.iconst 0, 1) := by decide +kernel
theorem dX1_leave_34 : decode cX1_leave 34 = .ok (.bastore, 1) := by decide +kernel
theorem dX1_leave_35 : decode cX1_leave 35 = .ok (.aload_n 0, 1) := by decide +kernel
theorem dX1_leave_36 : decode cX1_leave 36 = .ok (.getfield 13, 3) := by decide +kernel
theorem dX1_leave_39 : decode cX1_leave 39 = .ok (.iload_n 1, 1) := by decide +kernel
theorem dX1_leave_40 : decode cX1_leave 40 = .ok (.iconst 0, 1) := by decide +kernel
theorem dX1_leave_41 : decode cX1_leave 41 = .ok (.iastore, 1) := by decide +kernel
theorem dX1_leave_42 : decode cX1_leave 42 = .ok (.aload_n 0, 1) := by decide +kernel
theorem dX1_leave_43 : decode cX1_leave 43 = .ok (.getfield 17, 3) := by decide +kernel
theorem dX1_leave_46 : decode cX1_leave 46 = .ok (.iload_n 1, 1) := by decide +kernel
theorem dX1_leave_47 : decode cX1_leave 47 = .ok (.iconst 0, 1) := by decide +kernel
theorem dX1_leave_48 : decode cX1_leave 48 = .ok (.iastore, 1) := by decide +kernel
theorem dX1_leave_49 : decode cX1_leave 49 = .ok (.aload_n 0, 1) := by decide +kernel
theorem dX1_leave_50 : decode cX1_leave 50 = .ok (.getfield 23, 3) := by decide +kernel
theorem dX1_leave_53 : decode cX1_leave 53 = .ok (.iload_n 1, 1) := by decide +kernel
theorem dX1_leave_54 : decode cX1_leave 54 = .ok (.iconst 0, 1) := by decide +kernel
theorem dX1_leave_55 : decode cX1_leave 55 = .ok (.iastore, 1) := by decide +kernel
theorem dX1_leave_56 : decode cX1_leave 56 = .ok (.aload_n 0, 1) := by decide +kernel
theorem dX1_leave_57 : decode cX1_leave 57 = .ok (.getfield 26, 3) := by decide +kernel
theorem dX1_leave_60 : decode cX1_leave 60 = .ok (.iload_n 1, 1) := by decide +kernel
theorem dX1_leave_61 : decode cX1_leave 61 = .ok (.iconst 0, 1) := by decide +kernel
theorem dX1_leave_62 : decode cX1_leave 62 = .ok (.iastore, 1) := by decide +kernel
theorem dX1_leave_63 : decode cX1_leave 63 = .ok (.iload_n 2, 1) := by decide +kernel
theorem dX1_leave_64 : decode cX1_leave 64 = .ok (.ireturn, 1) := by decide +kernel
set_option maxRecDepth 20000 in
theorem ggX1_clear_X1_beginClearing : GoodIn wsX1_clear wsX1_beginClearing := goodIn_r _ [15, 16, 10, 17, 4, 18, 19, 20, 21, 22, 115, 116, 117, 118, 119, 120, 121, 122, 123, 124, 125, 126, 127, 128, 129, 130, 131, 132, 133, 134, 135, 136, 137] (by decide +kernel) (by decide +kernel)
set_option maxRecDepth 20000 in
theorem gX1_clear_X1_beginClearing : GoodIn wsX1_clear (wsV RX1 99 RX1 yX1_beginClearing wsX1_beginClearing) := goodIn_app (goodIn_of _ (by decide +kernel)) ggX1_clear_X1_beginClearing
set_option maxRecDepth 20000 in
theorem ggX1_clear_X1_matchBuyers : GoodIn wsX1_clear wsX1_matchBuyers := goodIn_r _ [26, 17, 27, 28, 29, 14, 30, 31, 32, 33, 34, 35, 36, 37, 8, 38, 16, 39, 40, 41, 42, 43, 44, 45, 46, 6, 7, 9, 47, 19, 48, 49, 22, 50, 51, 52, 53, 54, 115, 116, 117, 118, 119, 120, 121, 122, 123, 124, 125, 126, 127, 128, 129, 130, 131, 132, 133, 134, 135, 136, 137] (by decide +kernel) (by decide +kernel)
set_option maxRecDepth 20000 in
theorem gX1_clear_X1_matchBuyers : GoodIn wsX1_clear (wsV RX1 102 RX1 yX1_matchBuyers wsX1_matchBuyers) := goodIn_app (goodIn_of _ (by decide +kernel)) ggX1_clear_X1_matchBuyers
set_option maxRecDepth 20000 in
theorem ggX1_clear_X1_cutOverLimits : GoodIn wsX1_clear wsX1_cutOverLimits := goodIn_r _ [58, 16, 59, 60, 19, 61, 62, 63, 7, 8, 9, 22, 50, 51, 52, 64, 37, 38, 53, 65, 66, 67, 68, 69, 70, 71, 115, 116, 117, 118, 119, 120, 121, 122, 123, 124, 125, 126, 127, 128, 129, 130, 131, 132, 133, 134, 135, 136, 137] (by decide +kernel) (by decide +kernel)
set_option maxRecDepth 20000 in
theorem gX1_clear_X1_cutOverLimits : GoodIn wsX1_clear (wsV RX1 105 RX1 yX1_cutOverLimits wsX1_cutOverLimits) := goodIn_app (goodIn_of _ (by decide +kernel)) ggX1_clear_X1_cutOverLimits
set_option maxRecDepth 20000 in
theorem ggX1_clear_X1_countTrades : GoodIn wsX1_clear wsX1_countTrades := goodIn_r _ [75, 16, 10, 76, 77, 66, 19, 67, 68, 22, 50, 51, 52, 69, 70, 71, 115, 116, 117, 118, 119, 120, 121, 122, 123, 124, 125, 126, 127, 128, 129, 130, 131, 132, 133, 134, 135, 136, 137] (by decide +kernel) (by decide +kernel)
set_option maxRecDepth 20000 in
theorem gX1_clear_X1_countTrades : GoodIn wsX1_clear (wsV RX1 108 RX1 yX1_countTrades wsX1_countTrades) := goodIn_app (goodIn_of _ (by decide +kernel)) ggX1_clear_X1_countTrades
set_option maxRecDepth 20000 in
theorem ggX1_clear_X1_settleTrades : GoodIn wsX1_clear wsX1_settleTrades := goodIn_r _ [81, 16, 82, 17, 115, 116, 117, 118, 119, 120, 121, 122, 123, 124, 125, 126, 127, 128, 129, 130, 131, 132, 133, 134, 135, 136, 137] (by decide +kernel) (by decide +kernel)
set_option maxRecDepth 20000 in
theorem gX1_clear_X1_settleTrades : GoodIn wsX1_clear (wsV RX1 111 RX1 yX1_settleTrades wsX1_settleTrades) := goodIn_app (goodIn_of _ (by decide +kernel)) ggX1_clear_X1_settleTrades
set_option maxRecDepth 20000 in
theorem ggX1_clear_X1_useBattery : GoodIn wsX1_clear wsX1_useBattery := goodIn_r _ [86, 17, 87, 88, 36, 37, 8, 38, 89, 90, 91, 14, 92, 10, 93, 94, 95, 96, 97, 98, 99, 100, 101, 102, 103, 82, 76, 115, 116, 117, 118, 119, 120, 121, 122, 123, 124, 125, 126, 127, 128, 129, 130, 131] (by decide +kernel) (by decide +kernel)
set_option maxRecDepth 20000 in
theorem gX1_clear_X1_useBattery : GoodIn wsX1_clear (wsV RX1 114 RX1 yX1_useBattery wsX1_useBattery) := goodIn_app (goodIn_of _ (by decide +kernel)) ggX1_clear_X1_useBattery
set_option maxRecDepth 20000 in
theorem ggX1_clear_X1_settleWithSupplier : GoodIn wsX1_clear wsX1_settleWithSupplier := goodIn_r _ [107, 17, 108, 109, 82, 110, 10, 115, 116, 117, 118, 119, 120, 121, 122, 123, 124, 125, 126, 127, 128, 129, 130, 131] (by decide +kernel) (by decide +kernel)
set_option maxRecDepth 20000 in
theorem gX1_clear_X1_settleWithSupplier : GoodIn wsX1_clear (wsV RX1 117 RX1 yX1_settleWithSupplier wsX1_settleWithSupplier) := goodIn_app (goodIn_of _ (by decide +kernel)) ggX1_clear_X1_settleWithSupplier
set_option maxRecDepth 20000 in
theorem ggX1_clear_X1_payPool : GoodIn wsX1_clear wsX1_payPool := goodIn_r _ [103, 82, 76, 115, 116, 117, 118, 119, 120, 121, 122, 123, 124, 125, 126, 127, 128, 129, 130, 131] (by decide +kernel) (by decide +kernel)
set_option maxRecDepth 20000 in
theorem gX1_clear_X1_payPool : GoodIn wsX1_clear (wsV RX1 93 RX1 yX1_payPool wsX1_payPool) := goodIn_app (goodIn_of _ (by decide +kernel)) ggX1_clear_X1_payPool
set_option maxRecDepth 20000 in
theorem ggX1_clear_X1_beginNextQuarter : GoodIn wsX1_clear wsX1_beginNextQuarter := goodIn_r _ [114, 5, 4, 3, 115, 116, 117, 118, 119, 120, 121, 122, 123, 124, 125, 126, 127, 128, 129, 130, 131] (by decide +kernel) (by decide +kernel)
set_option maxRecDepth 20000 in
theorem gX1_clear_X1_beginNextQuarter : GoodIn wsX1_clear (wsV RX1 126 RX1 yX1_beginNextQuarter wsX1_beginNextQuarter) := goodIn_app (goodIn_of _ (by decide +kernel)) ggX1_clear_X1_beginNextQuarter
theorem dX1_clear_0 : decode cX1_clear 0 = .ok (.aload_n 0, 1) := by decide +kernel
theorem dX1_clear_1 : decode cX1_clear 1 = .ok (.getfield 64, 3) := by decide +kernel
theorem dX1_clear_4 : decode cX1_clear 4 = .ok (.sipush 500, 3) := by decide +kernel
theorem dX1_clear_7 : decode cX1_clear 7 = .ok (.if_icmp .lt 13, 3) := by decide +kernel
theorem dX1_clear_10 : decode cX1_clear 10 = .ok (.new 88, 3) := by decide +kernel
theorem dX1_clear_13 : decode cX1_clear 13 = .ok (.dup, 1) := by decide +kernel
theorem dX1_clear_14 : decode cX1_clear 14 = .ok (.ldc 97, 2) := by decide +kernel
theorem dX1_clear_16 : decode cX1_clear 16 = .ok (.invokespecial 92, 3) := by decide +kernel
theorem dX1_clear_19 : decode cX1_clear 19 = .ok (.athrow, 1) := by decide +kernel
theorem dX1_clear_20 : decode cX1_clear 20 = .ok (.aload_n 0, 1) := by decide +kernel
theorem dX1_clear_21 : decode cX1_clear 21 = .ok (.invokevirtual 99, 3) := by decide +kernel
theorem dX1_clear_24 : decode cX1_clear 24 = .ok (.aload_n 0, 1) := by decide +kernel
theorem dX1_clear_25 : decode cX1_clear 25 = .ok (.invokevirtual 102, 3) := by decide +kernel
theorem dX1_clear_28 : decode cX1_clear 28 = .ok (.aload_n 0, 1) := by decide +kernel
theorem dX1_clear_29 : decode cX1_clear 29 = .ok (.invokevirtual 105, 3) := by decide +kernel
theorem dX1_clear_32 : decode cX1_clear 32 = .ok (.aload_n 0, 1) := by decide +kernel
theorem dX1_clear_33 : decode cX1_clear 33 = .ok (.invokevirtual 108, 3) := by decide +kernel
theorem dX1_clear_36 : decode cX1_clear 36 = .ok (.iconst 0, 1) := by decide +kernel
theorem dX1_clear_37 : decode cX1_clear 37 = .ok (.istore_n 1, 1) := by decide +kernel
theorem dX1_clear_38 : decode cX1_clear 38 = .ok (.iload_n 1, 1) := by decide +kernel
theorem dX1_clear_39 : decode cX1_clear 39 = .ok (.bipush 6, 2) := by decide +kernel
theorem dX1_clear_41 : decode cX1_clear 41 = .ok (.if_icmp .ge 45, 3) := by decide +kernel
theorem dX1_clear_44 : decode cX1_clear 44 = .ok (.aload_n 0, 1) := by decide +kernel
theorem dX1_clear_45 : decode cX1_clear 45 = .ok (.iload_n 1, 1) := by decide +kernel
theorem dX1_clear_46 : decode cX1_clear 46 = .ok (.invokevirtual 111, 3) := by decide +kernel
theorem dX1_clear_49 : decode cX1_clear 49 = .ok (.aload_n 0, 1) := by decide +kernel
theorem dX1_clear_50 : decode cX1_clear 50 = .ok (.iload_n 1, 1) := by decide +kernel
theorem dX1_clear_51 : decode cX1_clear 51 = .ok (.invokevirtual 114, 3) := by decide +kernel
theorem dX1_clear_54 : decode cX1_clear 54 = .ok (.aload_n 0, 1) := by decide +kernel
theorem dX1_clear_55 : decode cX1_clear 55 = .ok (.iload_n 1, 1) := by decide +kernel
theorem dX1_clear_56 : decode cX1_clear 56 = .ok (.invokevirtual 117, 3) := by decide +kernel
theorem dX1_clear_59 : decode cX1_clear 59 = .ok (.aload_n 0, 1) := by decide +kernel
theorem dX1_clear_60 : decode cX1_clear 60 = .ok (.iload_n 1, 1) := by decide +kernel
theorem dX1_clear_61 : decode cX1_clear 61 = .ok (.aload_n 0, 1) := by decide +kernel
theorem dX1_clear_62 : decode cX1_clear 62 = .ok (.getfield 17, 3) := by decide +kernel
theorem dX1_clear_65 : decode cX1_clear 65 = .ok (.iload_n 1, 1) := by decide +kernel
theorem dX1_clear_66 : decode cX1_clear 66 = .ok (.iaload, 1) := by decide +kernel
theorem dX1_clear_67 : decode cX1_clear 67 = .ok (.aload_n 0, 1) := by decide +kernel
theorem dX1_clear_68 : decode cX1_clear 68 = .ok (.getfield 13, 3) := by decide +kernel
theorem dX1_clear_71 : decode cX1_clear 71 = .ok (.iload_n 1, 1) := by decide +kernel
theorem dX1_clear_72 : decode cX1_clear 72 = .ok (.iaload, 1) := by decide +kernel
theorem dX1_clear_73 : decode cX1_clear 73 = .ok (.isub, 1) := by decide +kernel
theorem dX1_clear_74 : decode cX1_clear 74 = .ok (.invokestatic 120, 3) := by decide +kernel
theorem dX1_clear_77 : decode cX1_clear 77 = .ok (.invokevirtual 93, 3) := by decide +kernel
theorem dX1_clear_80 : decode cX1_clear 80 = .ok (.iinc 1 1, 3) := by decide +kernel
theorem dX1_clear_83 : decode cX1_clear 83 = .ok (.goto (-45), 3) := by decide +kernel
theorem dX1_clear_86 : decode cX1_clear 86 = .ok (.aload_n 0, 1) := by decide +kernel
theorem dX1_clear_87 : decode cX1_clear 87 = .ok (.invokevirtual 126, 3) := by decide +kernel
theorem dX1_clear_90 : decode cX1_clear 90 = .ok (.aload_n 0, 1) := by decide +kernel
theorem dX1_clear_91 : decode cX1_clear 91 = .ok (.getfield 41, 3) := by decide +kernel
theorem dX1_clear_94 : decode cX1_clear 94 = .ok (.iconst 0, 1) := by decide +kernel
theorem dX1_clear_95 : decode cX1_clear 95 = .ok (.iaload, 1) := by decide +kernel
theorem dX1_clear_96 : decode cX1_clear 96 = .ok (.ireturn, 1) := by decide +kernel
theorem dX1_quarter_0 : decode cX1_quarter 0 = .ok (.aload_n 0, 1) := by decide +kernel
theorem dX1_quarter_1 : decode cX1_quarter 1 = .ok (.getfield 64, 3) := by decide +kernel
theorem dX1_quarter_4 : decode cX1_quarter 4 = .ok (.ireturn, 1) := by decide +kernel
set_option maxRecDepth 20000 in
theorem ggX1_mostTradable_X1_boundBySet : GoodIn wsX1_mostTradable wsX1_boundBySet := goodIn_r _ [9, 10, 11, 12, 8, 13, 14, 15, 16, 17, 18, 19, 20, 21, 22, 23, 24, 25, 26, 27, 28, 29, 30, 31, 32, 33, 34, 35] (by decide +kernel) (by decide +kernel)
set_option maxRecDepth 20000 in
theorem gX1_mostTradable_X1_boundBySet : GoodIn wsX1_mostTradable (wsV RX1 129 RX1 yX1_boundBySet wsX1_boundBySet) := goodIn_app (goodIn_of _ (by decide +kernel)) ggX1_mostTradable_X1_boundBySet
theorem dX1_mostTradable_0 : decode cX1_mostTradable 0 = .ok (.aload_n 0, 1) := by decide +kernel
theorem dX1_mostTradable_1 : decode cX1_mostTradable 1 = .ok (.iconst 0, 1) := by decide +kernel
theorem dX1_mostTradable_2 : decode cX1_mostTradable 2 = .ok (.invokevirtual 129, 3) := by decide +kernel
theorem dX1_mostTradable_5 : decode cX1_mostTradable 5 = .ok (.istore_n 1, 1) := by decide +kernel
theorem dX1_mostTradable_6 : decode cX1_mostTradable 6 = .ok (.iconst 1, 1) := by decide +kernel
theorem dX1_mostTradable_7 : decode cX1_mostTradable 7 = .ok (.istore_n 2, 1) := by decide +kernel
theorem dX1_mostTradable_8 : decode cX1_mostTradable 8 = .ok (.iload_n 2, 1) := by decide +kernel
theorem dX1_mostTradable_9 : decode cX1_mostTradable 9 = .ok (.bipush 64, 2) := by decide +kernel
theorem dX1_mostTradable_11 : decode cX1_mostTradable 11 = .ok (.if_icmp .ge 19, 3) := by decide +kernel
theorem dX1_mostTradable_14 : decode cX1_mostTradable 14 = .ok (.iload_n 1, 1) := by decide +kernel
theorem dX1_mostTradable_15 : decode cX1_mostTradable 15 = .ok (.aload_n 0, 1) := by decide +kernel
theorem dX1_mostTradable_16 : decode cX1_mostTradable 16 = .ok (.iload_n 2, 1) := by decide +kernel
theorem dX1_mostTradable_17 : decode cX1_mostTradable 17 = .ok (.invokevirtual 129, 3) := by decide +kernel
theorem dX1_mostTradable_20 : decode cX1_mostTradable 20 = .ok (.invokestatic 132, 3) := by decide +kernel
theorem dX1_mostTradable_23 : decode cX1_mostTradable 23 = .ok (.istore_n 1, 1) := by decide +kernel
theorem dX1_mostTradable_24 : decode cX1_mostTradable 24 = .ok (.iinc 2 1, 3) := by decide +kernel
theorem dX1_mostTradable_27 : decode cX1_mostTradable 27 = .ok (.goto (-19), 3) := by decide +kernel
theorem dX1_mostTradable_30 : decode cX1_mostTradable 30 = .ok (.iload_n 1, 1) := by decide +kernel
theorem dX1_mostTradable_31 : decode cX1_mostTradable 31 = .ok (.ireturn, 1) := by decide +kernel
theorem dX1_trades_0 : decode cX1_trades 0 = .ok (.aload_n 0, 1) := by decide +kernel
theorem dX1_trades_1 : decode cX1_trades 1 = .ok (.getfield 47, 3) := by decide +kernel
theorem dX1_trades_4 : decode cX1_trades 4 = .ok (.getfield 136, 3) := by decide +kernel
theorem dX1_trades_7 : decode cX1_trades 7 = .ok (.ireturn, 1) := by decide +kernel
theorem dX1_ofTrade_0 : decode cX1_ofTrade 0 = .ok (.iload_n 1, 1) := by decide +kernel
theorem dX1_ofTrade_1 : decode cX1_ofTrade 1 = .ok (.ifCond .lt 14, 3) := by decide +kernel
theorem dX1_ofTrade_4 : decode cX1_ofTrade 4 = .ok (.iload_n 1, 1) := by decide +kernel
theorem dX1_ofTrade_5 : decode cX1_ofTrade 5 = .ok (.aload_n 0, 1) := by decide +kernel
theorem dX1_ofTrade_6 : decode cX1_ofTrade 6 = .ok (.getfield 47, 3) := by decide +kernel
theorem dX1_ofTrade_9 : decode cX1_ofTrade 9 = .ok (.getfield 136, 3) := by decide +kernel
theorem dX1_ofTrade_12 : decode cX1_ofTrade 12 = .ok (.if_icmp .lt 13, 3) := by decide +kernel
theorem dX1_ofTrade_15 : decode cX1_ofTrade 15 = .ok (.new 139, 3) := by decide +kernel
theorem dX1_ofTrade_18 : decode cX1_ofTrade 18 = .ok (.dup, 1) := by decide +kernel
theorem dX1_ofTrade_19 : decode cX1_ofTrade 19 = .ok (.ldc 141, 2) := by decide +kernel
theorem dX1_ofTrade_21 : decode cX1_ofTrade 21 = .ok (.invokespecial 143, 3) := by decide +kernel
theorem dX1_ofTrade_24 : decode cX1_ofTrade 24 = .ok (.athrow, 1) := by decide +kernel
theorem dX1_ofTrade_25 : decode cX1_ofTrade 25 = .ok (.iload_n 2, 1) := by decide +kernel
theorem dX1_ofTrade_26 : decode cX1_ofTrade 26 = .ok (.tableswitch 70 0 3 #[30, 40, 50, 60], 30) := by decide +kernel
theorem dX1_ofTrade_56 : decode cX1_ofTrade 56 = .ok (.aload_n 0, 1) := by decide +kernel
theorem dX1_ofTrade_57 : decode cX1_ofTrade 57 = .ok (.getfield 47, 3) := by decide +kernel
theorem dX1_ofTrade_60 : decode cX1_ofTrade 60 = .ok (.getfield 144, 3) := by decide +kernel
theorem dX1_ofTrade_63 : decode cX1_ofTrade 63 = .ok (.iload_n 1, 1) := by decide +kernel
theorem dX1_ofTrade_64 : decode cX1_ofTrade 64 = .ok (.iaload, 1) := by decide +kernel
theorem dX1_ofTrade_65 : decode cX1_ofTrade 65 = .ok (.ireturn, 1) := by decide +kernel
theorem dX1_ofTrade_66 : decode cX1_ofTrade 66 = .ok (.aload_n 0, 1) := by decide +kernel
theorem dX1_ofTrade_67 : decode cX1_ofTrade 67 = .ok (.getfield 47, 3) := by decide +kernel
theorem dX1_ofTrade_70 : decode cX1_ofTrade 70 = .ok (.getfield 147, 3) := by decide +kernel
theorem dX1_ofTrade_73 : decode cX1_ofTrade 73 = .ok (.iload_n 1, 1) := by decide +kernel
theorem dX1_ofTrade_74 : decode cX1_ofTrade 74 = .ok (.iaload, 1) := by decide +kernel
theorem dX1_ofTrade_75 : decode cX1_ofTrade 75 = .ok (.ireturn, 1) := by decide +kernel
theorem dX1_ofTrade_76 : decode cX1_ofTrade 76 = .ok (.aload_n 0, 1) := by decide +kernel
theorem dX1_ofTrade_77 : decode cX1_ofTrade 77 = .ok (.getfield 47, 3) := by decide +kernel
theorem dX1_ofTrade_80 : decode cX1_ofTrade 80 = .ok (.getfield 150, 3) := by decide +kernel
theorem dX1_ofTrade_83 : decode cX1_ofTrade 83 = .ok (.iload_n 1, 1) := by decide +kernel
theorem dX1_ofTrade_84 : decode cX1_ofTrade 84 = .ok (.iaload, 1) := by decide +kernel
theorem dX1_ofTrade_85 : decode cX1_ofTrade 85 = .ok (.ireturn, 1) := by decide +kernel
theorem dX1_ofTrade_86 : decode cX1_ofTrade 86 = .ok (.aload_n 0, 1) := by decide +kernel
theorem dX1_ofTrade_87 : decode cX1_ofTrade 87 = .ok (.getfield 47, 3) := by decide +kernel
theorem dX1_ofTrade_90 : decode cX1_ofTrade 90 = .ok (.getfield 153, 3) := by decide +kernel
theorem dX1_ofTrade_93 : decode cX1_ofTrade 93 = .ok (.iload_n 1, 1) := by decide +kernel
theorem dX1_ofTrade_94 : decode cX1_ofTrade 94 = .ok (.iaload, 1) := by decide +kernel
theorem dX1_ofTrade_95 : decode cX1_ofTrade 95 = .ok (.ireturn, 1) := by decide +kernel
theorem dX1_ofTrade_96 : decode cX1_ofTrade 96 = .ok (.new 139, 3) := by decide +kernel
theorem dX1_ofTrade_99 : decode cX1_ofTrade 99 = .ok (.dup, 1) := by decide +kernel
theorem dX1_ofTrade_100 : decode cX1_ofTrade 100 = .ok (.ldc 154, 2) := by decide +kernel
theorem dX1_ofTrade_102 : decode cX1_ofTrade 102 = .ok (.invokespecial 143, 3) := by decide +kernel
theorem dX1_ofTrade_105 : decode cX1_ofTrade 105 = .ok (.athrow, 1) := by decide +kernel
theorem dX1_went_0 : decode cX1_went 0 = .ok (.iload_n 1, 1) := by decide +kernel
theorem dX1_went_1 : decode cX1_went 1 = .ok (.ifCond .lt 9, 3) := by decide +kernel
theorem dX1_went_4 : decode cX1_went 4 = .ok (.iload_n 1, 1) := by decide +kernel
theorem dX1_went_5 : decode cX1_went 5 = .ok (.bipush 6, 2) := by decide +kernel
theorem dX1_went_7 : decode cX1_went 7 = .ok (.if_icmp .lt 13, 3) := by decide +kernel
theorem dX1_went_10 : decode cX1_went 10 = .ok (.new 139, 3) := by decide +kernel
theorem dX1_went_13 : decode cX1_went 13 = .ok (.dup, 1) := by decide +kernel
theorem dX1_went_14 : decode cX1_went 14 = .ok (.ldc 156, 2) := by decide +kernel
theorem dX1_went_16 : decode cX1_went 16 = .ok (.invokespecial 143, 3) := by decide +kernel
theorem dX1_went_19 : decode cX1_went 19 = .ok (.athrow, 1) := by decide +kernel
theorem dX1_went_20 : decode cX1_went 20 = .ok (.aload_n 0, 1) := by decide +kernel
theorem dX1_went_21 : decode cX1_went 21 = .ok (.getfield 41, 3) := by decide +kernel
theorem dX1_went_24 : decode cX1_went 24 = .ok (.iload_n 1, 1) := by decide +kernel
theorem dX1_went_25 : decode cX1_went 25 = .ok (.iaload, 1) := by decide +kernel
theorem dX1_went_26 : decode cX1_went 26 = .ok (.ireturn, 1) := by decide +kernel
set_option maxRecDepth 20000 in
theorem ggX1_flow_X1_checkStretch : GoodIn wsX1_flow wsX1_checkStretch := goodIn_ca (goodIn_r _ [5, 6, 7] (by decide +kernel) (by decide +kernel)) (goodIn_sub (fun _ h => List.mem_cons_of_mem _ (List.mem_append_right _ h)) (by decide +kernel))
set_option maxRecDepth 20000 in
theorem gX1_flow_X1_checkStretch : GoodIn wsX1_flow (va_wsS RX1 78 yX1_checkStretch wsX1_checkStretch) := goodIn_app (goodIn_of _ (by decide +kernel)) ggX1_flow_X1_checkStretch
theorem dX1_flow_0 : decode cX1_flow 0 = .ok (.iload_n 1, 1) := by decide +kernel
theorem dX1_flow_1 : decode cX1_flow 1 = .ok (.invokestatic 78, 3) := by decide +kernel
theorem dX1_flow_4 : decode cX1_flow 4 = .ok (.aload_n 0, 1) := by decide +kernel
theorem dX1_flow_5 : decode cX1_flow 5 = .ok (.getfield 38, 3) := by decide +kernel
theorem dX1_flow_8 : decode cX1_flow 8 = .ok (.iload_n 1, 1) := by decide +kernel
theorem dX1_flow_9 : decode cX1_flow 9 = .ok (.iaload, 1) := by decide +kernel
theorem dX1_flow_10 : decode cX1_flow 10 = .ok (.ireturn, 1) := by decide +kernel
set_option maxRecDepth 20000 in
theorem ggX1_isMember_X1_checkHouse : GoodIn wsX1_isMember wsX1_checkHouse := goodIn_ca (goodIn_r _ [5, 6, 7] (by decide +kernel) (by decide +kernel)) (goodIn_sub (fun _ h => List.mem_cons_of_mem _ (List.mem_append_right _ h)) (by decide +kernel))
set_option maxRecDepth 20000 in
theorem gX1_isMember_X1_checkHouse : GoodIn wsX1_isMember (va_wsS RX1 67 yX1_checkHouse wsX1_checkHouse) := goodIn_app (goodIn_of _ (by decide +kernel)) ggX1_isMember_X1_checkHouse
theorem dX1_isMember_0 : decode cX1_isMember 0 = .ok (.iload_n 1, 1) := by decide +kernel
theorem dX1_isMember_1 : decode cX1_isMember 1 = .ok (.invokestatic 67, 3) := by decide +kernel
theorem dX1_isMember_4 : decode cX1_isMember 4 = .ok (.aload_n 0, 1) := by decide +kernel
theorem dX1_isMember_5 : decode cX1_isMember 5 = .ok (.getfield 9, 3) := by decide +kernel
theorem dX1_isMember_8 : decode cX1_isMember 8 = .ok (.iload_n 1, 1) := by decide +kernel
theorem dX1_isMember_9 : decode cX1_isMember 9 = .ok (.baload, 1) := by decide +kernel
theorem dX1_isMember_10 : decode cX1_isMember 10 = .ok (.ireturn, 1) := by decide +kernel
set_option maxRecDepth 20000 in
theorem ggX1_stored_X1_checkHouse : GoodIn wsX1_stored wsX1_checkHouse := goodIn_ca (goodIn_r _ [5, 6, 7] (by decide +kernel) (by decide +kernel)) (goodIn_sub (fun _ h => List.mem_cons_of_mem _ (List.mem_append_right _ h)) (by decide +kernel))
set_option maxRecDepth 20000 in
theorem gX1_stored_X1_checkHouse : GoodIn wsX1_stored (va_wsS RX1 67 yX1_checkHouse wsX1_checkHouse) := goodIn_app (goodIn_of _ (by decide +kernel)) ggX1_stored_X1_checkHouse
theorem dX1_stored_0 : decode cX1_stored 0 = .ok (.iload_n 1, 1) := by decide +kernel
theorem dX1_stored_1 : decode cX1_stored 1 = .ok (.invokestatic 67, 3) := by decide +kernel
theorem dX1_stored_4 : decode cX1_stored 4 = .ok (.aload_n 0, 1) := by decide +kernel
theorem dX1_stored_5 : decode cX1_stored 5 = .ok (.getfield 26, 3) := by decide +kernel
theorem dX1_stored_8 : decode cX1_stored 8 = .ok (.iload_n 1, 1) := by decide +kernel
theorem dX1_stored_9 : decode cX1_stored 9 = .ok (.iaload, 1) := by decide +kernel
theorem dX1_stored_10 : decode cX1_stored 10 = .ok (.ireturn, 1) := by decide +kernel
set_option maxRecDepth 20000 in
theorem ggX1_part_X1_checkHouse : GoodIn wsX1_part wsX1_checkHouse := goodIn_ca (goodIn_r _ [5, 6, 7] (by decide +kernel) (by decide +kernel)) (goodIn_sub (fun _ h => List.mem_cons_of_mem _ (List.mem_append_right _ h)) (by decide +kernel))
set_option maxRecDepth 20000 in
theorem gX1_part_X1_checkHouse : GoodIn wsX1_part (va_wsS RX1 67 yX1_checkHouse wsX1_checkHouse) := goodIn_app (goodIn_of _ (by decide +kernel)) ggX1_part_X1_checkHouse
theorem dX1_part_0 : decode cX1_part 0 = .ok (.iload_n 1, 1) := by decide +kernel
theorem dX1_part_1 : decode cX1_part 1 = .ok (.invokestatic 67, 3) := by decide +kernel
theorem dX1_part_4 : decode cX1_part 4 = .ok (.aload_n 0, 1) := by decide +kernel
theorem dX1_part_5 : decode cX1_part 5 = .ok (.getfield 23, 3) := by decide +kernel
theorem dX1_part_8 : decode cX1_part 8 = .ok (.iload_n 1, 1) := by decide +kernel
theorem dX1_part_9 : decode cX1_part 9 = .ok (.iaload, 1) := by decide +kernel
theorem dX1_part_10 : decode cX1_part 10 = .ok (.ireturn, 1) := by decide +kernel
set_option maxRecDepth 20000 in
theorem ggX1_bill_X1_checkHouse : GoodIn wsX1_bill wsX1_checkHouse := goodIn_ca (goodIn_r _ [5, 6, 7] (by decide +kernel) (by decide +kernel)) (goodIn_sub (fun _ h => List.mem_cons_of_mem _ (List.mem_append_right _ h)) (by decide +kernel))
set_option maxRecDepth 20000 in
theorem gX1_bill_X1_checkHouse : GoodIn wsX1_bill (va_wsS RX1 67 yX1_checkHouse wsX1_checkHouse) := goodIn_app (goodIn_of _ (by decide +kernel)) ggX1_bill_X1_checkHouse
theorem dX1_bill_0 : decode cX1_bill 0 = .ok (.iload_n 1, 1) := by decide +kernel
theorem dX1_bill_1 : decode cX1_bill 1 = .ok (.invokestatic 67, 3) := by decide +kernel
theorem dX1_bill_4 : decode cX1_bill 4 = .ok (.aload_n 0, 1) := by decide +kernel
theorem dX1_bill_5 : decode cX1_bill 5 = .ok (.getfield 29, 3) := by decide +kernel
theorem dX1_bill_8 : decode cX1_bill 8 = .ok (.iload_n 1, 1) := by decide +kernel
theorem dX1_bill_9 : decode cX1_bill 9 = .ok (.iaload, 1) := by decide +kernel
theorem dX1_bill_10 : decode cX1_bill 10 = .ok (.ireturn, 1) := by decide +kernel
theorem dX1_pool_0 : decode cX1_pool 0 = .ok (.aload_n 0, 1) := by decide +kernel
theorem dX1_pool_1 : decode cX1_pool 1 = .ok (.getfield 58, 3) := by decide +kernel
theorem dX1_pool_4 : decode cX1_pool 4 = .ok (.ireturn, 1) := by decide +kernel
theorem dX1_supplied_0 : decode cX1_supplied 0 = .ok (.aload_n 0, 1) := by decide +kernel
theorem dX1_supplied_1 : decode cX1_supplied 1 = .ok (.getfield 61, 3) := by decide +kernel
theorem dX1_supplied_4 : decode cX1_supplied 4 = .ok (.ireturn, 1) := by decide +kernel
theorem dX1_checkHouse_0 : decode cX1_checkHouse 0 = .ok (.iload_n 0, 1) := by decide +kernel
theorem dX1_checkHouse_1 : decode cX1_checkHouse 1 = .ok (.ifCond .lt 9, 3) := by decide +kernel
theorem dX1_checkHouse_4 : decode cX1_checkHouse 4 = .ok (.iload_n 0, 1) := by decide +kernel
theorem dX1_checkHouse_5 : decode cX1_checkHouse 5 = .ok (.bipush 6, 2) := by decide +kernel
theorem dX1_checkHouse_7 : decode cX1_checkHouse 7 = .ok (.if_icmp .lt 13, 3) := by decide +kernel
theorem dX1_checkHouse_10 : decode cX1_checkHouse 10 = .ok (.new 139, 3) := by decide +kernel
theorem dX1_checkHouse_13 : decode cX1_checkHouse 13 = .ok (.dup, 1) := by decide +kernel
theorem dX1_checkHouse_14 : decode cX1_checkHouse 14 = .ok (.ldc 158, 2) := by decide +kernel
theorem dX1_checkHouse_16 : decode cX1_checkHouse 16 = .ok (.invokespecial 143, 3) := by decide +kernel
theorem dX1_checkHouse_19 : decode cX1_checkHouse 19 = .ok (.athrow, 1) := by decide +kernel
theorem dX1_checkHouse_20 : decode cX1_checkHouse 20 = .ok (.return_, 1) := by decide +kernel
theorem dX1_checkStretch_0 : decode cX1_checkStretch 0 = .ok (.iload_n 0, 1) := by decide +kernel
theorem dX1_checkStretch_1 : decode cX1_checkStretch 1 = .ok (.ifCond .lt 8, 3) := by decide +kernel
theorem dX1_checkStretch_4 : decode cX1_checkStretch 4 = .ok (.iload_n 0, 1) := by decide +kernel
theorem dX1_checkStretch_5 : decode cX1_checkStretch 5 = .ok (.iconst 5, 1) := by decide +kernel
theorem dX1_checkStretch_6 : decode cX1_checkStretch 6 = .ok (.if_icmp .lt 13, 3) := by decide +kernel
theorem dX1_checkStretch_9 : decode cX1_checkStretch 9 = .ok (.new 139, 3) := by decide +kernel
theorem dX1_checkStretch_12 : decode cX1_checkStretch 12 = .ok (.dup, 1) := by decide +kernel
theorem dX1_checkStretch_13 : decode cX1_checkStretch 13 = .ok (.ldc 160, 2) := by decide +kernel
theorem dX1_checkStretch_15 : decode cX1_checkStretch 15 = .ok (.invokespecial 143, 3) := by decide +kernel
theorem dX1_checkStretch_18 : decode cX1_checkStretch 18 = .ok (.athrow, 1) := by decide +kernel
theorem dX1_checkStretch_19 : decode cX1_checkStretch 19 = .ok (.return_, 1) := by decide +kernel
theorem dX1_checkRange_0 : decode cX1_checkRange 0 = .ok (.iload_n 0, 1) := by decide +kernel
theorem dX1_checkRange_1 : decode cX1_checkRange 1 = .ok (.iload_n 1, 1) := by decide +kernel
theorem dX1_checkRange_2 : decode cX1_checkRange 2 = .ok (.if_icmp .lt 8, 3) := by decide +kernel
theorem dX1_checkRange_5 : decode cX1_checkRange 5 = .ok (.iload_n 0, 1) := by decide +kernel
theorem dX1_checkRange_6 : decode cX1_checkRange 6 = .ok (.iload_n 2, 1) := by decide +kernel
theorem dX1_checkRange_7 : decode cX1_checkRange 7 = .ok (.if_icmp .le 13, 3) := by decide +kernel
theorem dX1_checkRange_10 : decode cX1_checkRange 10 = .ok (.new 81, 3) := by decide +kernel
theorem dX1_checkRange_13 : decode cX1_checkRange 13 = .ok (.dup, 1) := by decide +kernel
theorem dX1_checkRange_14 : decode cX1_checkRange 14 = .ok (.ldc 162, 2) := by decide +kernel
theorem dX1_checkRange_16 : decode cX1_checkRange 16 = .ok (.invokespecial 85, 3) := by decide +kernel
theorem dX1_checkRange_19 : decode cX1_checkRange 19 = .ok (.athrow, 1) := by decide +kernel
theorem dX1_checkRange_20 : decode cX1_checkRange 20 = .ok (.return_, 1) := by decide +kernel
theorem dX1_checkMember_0 : decode cX1_checkMember 0 = .ok (.aload_n 0, 1) := by decide +kernel
theorem dX1_checkMember_1 : decode cX1_checkMember 1 = .ok (.getfield 9, 3) := by decide +kernel
theorem dX1_checkMember_4 : decode cX1_checkMember 4 = .ok (.iload_n 1, 1) := by decide +kernel
theorem dX1_checkMember_5 : decode cX1_checkMember 5 = .ok (.baload, 1) := by decide +kernel
theorem dX1_checkMember_6 : decode cX1_checkMember 6 = .ok (.ifCond .ne 13, 3) := by decide +kernel
theorem dX1_checkMember_9 : decode cX1_checkMember 9 = .ok (.new 88, 3) := by decide +kernel
theorem dX1_checkMember_12 : decode cX1_checkMember 12 = .ok (.dup, 1) := by decide +kernel
theorem dX1_checkMember_13 : decode cX1_checkMember 13 = .ok (.ldc 164, 2) := by decide +kernel
theorem dX1_checkMember_15 : decode cX1_checkMember 15 = .ok (.invokespecial 92, 3) := by decide +kernel
theorem dX1_checkMember_18 : decode cX1_checkMember 18 = .ok (.athrow, 1) := by decide +kernel
theorem dX1_checkMember_19 : decode cX1_checkMember 19 = .ok (.return_, 1) := by decide +kernel
set_option maxRecDepth 20000 in
theorem ggX1_beginClearing_X0_empty : GoodIn wsX1_beginClearing wsX0_empty := goodIn_r _ [8, 9, 27, 28, 29, 30, 31, 32] (by decide +kernel) (by decide +kernel)
set_option maxRecDepth 20000 in
theorem gX1_beginClearing_X0_empty_n166 : GoodIn wsX1_beginClearing (wsX0_empty) := ggX1_beginClearing_X0_empty
theorem dX1_beginClearing_0 : decode cX1_beginClearing 0 = .ok (.aload_n 0, 1) := by decide +kernel
theorem dX1_beginClearing_1 : decode cX1_beginClearing 1 = .ok (.getfield 47, 3) := by decide +kernel
theorem dX1_beginClearing_4 : decode cX1_beginClearing 4 = .ok (.invokevirtual 166, 3) := by decide +kernel
theorem dX1_beginClearing_7 : decode cX1_beginClearing 7 = .ok (.iconst 0, 1) := by decide +kernel
theorem dX1_beginClearing_8 : decode cX1_beginClearing 8 = .ok (.istore_n 1, 1) := by decide +kernel
theorem dX1_beginClearing_9 : decode cX1_beginClearing 9 = .ok (.iload_n 1, 1) := by decide +kernel
theorem dX1_beginClearing_10 : decode cX1_beginClearing 10 = .ok (.bipush 6, 2) := by decide +kernel
theorem dX1_beginClearing_12 : decode cX1_beginClearing 12 = .ok (.if_icmp .ge 16, 3) := by decide +kernel
theorem dX1_beginClearing_15 : decode cX1_beginClearing 15 = .ok (.aload_n 0, 1) := by decide +kernel
theorem dX1_beginClearing_16 : decode cX1_beginClearing 16 = .ok (.getfield 41, 3) := by decide +kernel
theorem dX1_beginClearing_19 : decode cX1_beginClearing 19 = .ok (.iload_n 1, 1) := by decide +kernel
theorem dX1_beginClearing_20 : decode cX1_beginClearing 20 = .ok (.iconst 0, 1) := by decide +kernel
theorem dX1_beginClearing_21 : decode cX1_beginClearing 21 = .ok (.iastore, 1) := by decide +kernel
theorem dX1_beginClearing_22 : decode cX1_beginClearing 22 = .ok (.iinc 1 1, 3) := by decide +kernel
theorem dX1_beginClearing_25 : decode cX1_beginClearing 25 = .ok (.goto (-16), 3) := by decide +kernel
theorem dX1_beginClearing_28 : decode cX1_beginClearing 28 = .ok (.iconst 0, 1) := by decide +kernel
theorem dX1_beginClearing_29 : decode cX1_beginClearing 29 = .ok (.istore_n 1, 1) := by decide +kernel
theorem dX1_beginClearing_30 : decode cX1_beginClearing 30 = .ok (.iload_n 1, 1) := by decide +kernel
theorem dX1_beginClearing_31 : decode cX1_beginClearing 31 = .ok (.bipush 6, 2) := by decide +kernel
theorem dX1_beginClearing_33 : decode cX1_beginClearing 33 = .ok (.if_icmp .ge 21, 3) := by decide +kernel
theorem dX1_beginClearing_36 : decode cX1_beginClearing 36 = .ok (.aload_n 0, 1) := by decide +kernel
theorem dX1_beginClearing_37 : decode cX1_beginClearing 37 = .ok (.getfield 32, 3) := by decide +kernel
theorem dX1_beginClearing_40 : decode cX1_beginClearing 40 = .ok (.iload_n 1, 1) := by decide +kernel
theorem dX1_beginClearing_41 : decode cX1_beginClearing 41 = .ok (.aload_n 0, 1) := by decide +kernel
theorem dX1_beginClearing_42 : decode cX1_beginClearing 42 = .ok (.getfield 17, 3) := by decide +kernel
theorem dX1_beginClearing_45 : decode cX1_beginClearing 45 = .ok (.iload_n 1, 1) := by decide +kernel
theorem dX1_beginClearing_46 : decode cX1_beginClearing 46 = .ok (.iaload, 1) := by decide +kernel
theorem dX1_beginClearing_47 : decode cX1_beginClearing 47 = .ok (.iastore, 1) := by decide +kernel
theorem dX1_beginClearing_48 : decode cX1_beginClearing 48 = .ok (.iinc 1 1, 3) := by decide +kernel
theorem dX1_beginClearing_51 : decode cX1_beginClearing 51 = .ok (.goto (-21), 3) := by decide +kernel
theorem dX1_beginClearing_54 : decode cX1_beginClearing 54 = .ok (.return_, 1) := by decide +kernel
theorem dX1_beginNextQuarter_0 : decode cX1_beginNextQuarter 0 = .ok (.iconst 0, 1) := by decide +kernel
theorem dX1_beginNextQuarter_1 : decode cX1_beginNextQuarter 1 = .ok (.istore_n 1, 1) := by decide +kernel
theorem dX1_beginNextQuarter_2 : decode cX1_beginNextQuarter 2 = .ok (.iload_n 1, 1) := by decide +kernel
theorem dX1_beginNextQuarter_3 : decode cX1_beginNextQuarter 3 = .ok (.bipush 6, 2) := by decide +kernel
theorem dX1_beginNextQuarter_5 : decode cX1_beginNextQuarter 5 = .ok (.if_icmp .ge 23, 3) := by decide +kernel
theorem dX1_beginNextQuarter_8 : decode cX1_beginNextQuarter 8 = .ok (.aload_n 0, 1) := by decide +kernel
theorem dX1_beginNextQuarter_9 : decode cX1_beginNextQuarter 9 = .ok (.getfield 13, 3) := by decide +kernel
theorem dX1_beginNextQuarter_12 : decode cX1_beginNextQuarter 12 = .ok (.iload_n 1, 1) := by decide +kernel
theorem dX1_beginNextQuarter_13 : decode cX1_beginNextQuarter 13 = .ok (.iconst 0, 1) := by decide +kernel
theorem dX1_beginNextQuarter_14 : decode cX1_beginNextQuarter 14 = .ok (.iastore, 1) := by decide +kernel
theorem dX1_beginNextQuarter_15 : decode cX1_beginNextQuarter 15 = .ok (.aload_n 0, 1) := by decide +kernel
theorem dX1_beginNextQuarter_16 : decode cX1_beginNextQuarter 16 = .ok (.getfield 17, 3) := by decide +kernel
theorem dX1_beginNextQuarter_19 : decode cX1_beginNextQuarter 19 = .ok (.iload_n 1, 1) := by decide +kernel
theorem dX1_beginNextQuarter_20 : decode cX1_beginNextQuarter 20 = .ok (.iconst 0, 1) := by decide +kernel
theorem dX1_beginNextQuarter_21 : decode cX1_beginNextQuarter 21 = .ok (.iastore, 1) := by decide +kernel
theorem dX1_beginNextQuarter_22 : decode cX1_beginNextQuarter 22 = .ok (.iinc 1 1, 3) := by decide +kernel
theorem dX1_beginNextQuarter_25 : decode cX1_beginNextQuarter 25 = .ok (.goto (-23), 3) := by decide +kernel
theorem dX1_beginNextQuarter_28 : decode cX1_beginNextQuarter 28 = .ok (.aload_n 0, 1) := by decide +kernel
theorem dX1_beginNextQuarter_29 : decode cX1_beginNextQuarter 29 = .ok (.dup, 1) := by decide +kernel
theorem dX1_beginNextQuarter_30 : decode cX1_beginNextQuarter 30 = .ok (.getfield 64, 3) := by decide +kernel
theorem dX1_beginNextQuarter_33 : decode cX1_beginNextQuarter 33 = .ok (.iconst 1, 1) := by decide +kernel
theorem dX1_beginNextQuarter_34 : decode cX1_beginNextQuarter 34 = .ok (.iadd, 1) := by decide +kernel
theorem dX1_beginNextQuarter_35 : decode cX1_beginNextQuarter 35 = .ok (.putfield 64, 3) := by decide +kernel
theorem dX1_beginNextQuarter_38 : decode cX1_beginNextQuarter 38 = .ok (.return_, 1) := by decide +kernel
set_option maxRecDepth 20000 in
theorem ggX1_matchBuyers_X1_rankOf : GoodIn wsX1_matchBuyers wsX1_rankOf := goodIn_r _ [6, 7, 38, 39, 40, 41, 42, 43, 44, 45, 46, 47, 48, 49, 50, 51, 52, 53, 54] (by decide +kernel) (by decide +kernel)
set_option maxRecDepth 20000 in
theorem gX1_matchBuyers_X1_rankOf : GoodIn wsX1_matchBuyers (wsV RX1 169 RX1 yX1_rankOf wsX1_rankOf) := goodIn_app (goodIn_of _ (by decide +kernel)) ggX1_matchBuyers_X1_rankOf
set_option maxRecDepth 20000 in
theorem ggX1_matchBuyers_X1_serveBuyer : GoodIn wsX1_matchBuyers wsX1_serveBuyer := goodIn_r _ [11, 1, 12, 13, 14, 15, 16, 7, 17, 18, 19, 5, 20, 21, 22, 23, 24, 25, 26, 27, 28, 29, 30, 31, 32, 33, 34, 35, 36, 37, 38, 39, 40, 41, 42, 43, 44, 45, 46, 47, 48, 49, 50, 51, 52, 53, 54, 55, 56, 57, 58, 59, 60] (by decide +kernel) (by decide +kernel)
set_option maxRecDepth 20000 in
theorem gX1_matchBuyers_X1_serveBuyer : GoodIn wsX1_matchBuyers (wsV RX1 172 RX1 yX1_serveBuyer wsX1_serveBuyer) := goodIn_app (goodIn_of _ (by decide +kernel)) ggX1_matchBuyers_X1_serveBuyer
theorem dX1_matchBuyers_0 : decode cX1_matchBuyers 0 = .ok (.iconst 0, 1) := by decide +kernel
theorem dX1_matchBuyers_1 : decode cX1_matchBuyers 1 = .ok (.istore_n 1, 1) := by decide +kernel
theorem dX1_matchBuyers_2 : decode cX1_matchBuyers 2 = .ok (.iload_n 1, 1) := by decide +kernel
theorem dX1_matchBuyers_3 : decode cX1_matchBuyers 3 = .ok (.bipush 6, 2) := by decide +kernel
theorem dX1_matchBuyers_5 : decode cX1_matchBuyers 5 = .ok (.if_icmp .ge 46, 3) := by decide +kernel
theorem dX1_matchBuyers_8 : decode cX1_matchBuyers 8 = .ok (.iconst 0, 1) := by decide +kernel
theorem dX1_matchBuyers_9 : decode cX1_matchBuyers 9 = .ok (.istore_n 2, 1) := by decide +kernel
theorem dX1_matchBuyers_10 : decode cX1_matchBuyers 10 = .ok (.iload_n 2, 1) := by decide +kernel
theorem dX1_matchBuyers_11 : decode cX1_matchBuyers 11 = .ok (.bipush 6, 2) := by decide +kernel
theorem dX1_matchBuyers_13 : decode cX1_matchBuyers 13 = .ok (.if_icmp .ge 32, 3) := by decide +kernel
theorem dX1_matchBuyers_16 : decode cX1_matchBuyers 16 = .ok (.aload_n 0, 1) := by decide +kernel
theorem dX1_matchBuyers_17 : decode cX1_matchBuyers 17 = .ok (.getfield 32, 3) := by decide +kernel
theorem dX1_matchBuyers_20 : decode cX1_matchBuyers 20 = .ok (.iload_n 2, 1) := by decide +kernel
theorem dX1_matchBuyers_21 : decode cX1_matchBuyers 21 = .ok (.iaload, 1) := by decide +kernel
theorem dX1_matchBuyers_22 : decode cX1_matchBuyers 22 = .ok (.ifCond .ge 17, 3) := by decide +kernel
theorem dX1_matchBuyers_25 : decode cX1_matchBuyers 25 = .ok (.aload_n 0, 1) := by decide +kernel
theorem dX1_matchBuyers_26 : decode cX1_matchBuyers 26 = .ok (.iload_n 2, 1) := by decide +kernel
theorem dX1_matchBuyers_27 : decode cX1_matchBuyers 27 = .ok (.invokevirtual 169, 3) := by decide +kernel
theorem dX1_matchBuyers_30 : decode cX1_matchBuyers 30 = .ok (.iload_n 1, 1) := by decide +kernel
theorem dX1_matchBuyers_31 : decode cX1_matchBuyers 31 = .ok (.if_icmp .ne 8, 3) := by decide +kernel
theorem dX1_matchBuyers_34 : decode cX1_matchBuyers 34 = .ok (.aload_n 0, 1) := by decide +kernel
theorem dX1_matchBuyers_35 : decode cX1_matchBuyers 35 = .ok (.iload_n 2, 1) := by decide +kernel
theorem dX1_matchBuyers_36 : decode cX1_matchBuyers 36 = .ok (.invokevirtual 172, 3) := by decide +kernel
theorem dX1_matchBuyers_39 : decode cX1_matchBuyers 39 = .ok (.iinc 2 1, 3) := by decide +kernel
theorem dX1_matchBuyers_42 : decode cX1_matchBuyers 42 = .ok (.goto (-32), 3) := by decide +kernel
theorem dX1_matchBuyers_45 : decode cX1_matchBuyers 45 = .ok (.iinc 1 1, 3) := by decide +kernel
theorem dX1_matchBuyers_48 : decode cX1_matchBuyers 48 = .ok (.goto (-46), 3) := by decide +kernel
theorem dX1_matchBuyers_51 : decode cX1_matchBuyers 51 = .ok (.return_, 1) := by decide +kernel
theorem dX1_rankOf_0 : decode cX1_rankOf 0 = .ok (.iconst 0, 1) := by decide +kernel
theorem dX1_rankOf_1 : decode cX1_rankOf 1 = .ok (.istore_n 2, 1) := by decide +kernel
theorem dX1_rankOf_2 : decode cX1_rankOf 2 = .ok (.iconst 0, 1) := by decide +kernel
theorem dX1_rankOf_3 : decode cX1_rankOf 3 = .ok (.istore_n 3, 1) := by decide +kernel
theorem dX1_rankOf_4 : decode cX1_rankOf 4 = .ok (.iload_n 3, 1) := by decide +kernel
theorem dX1_rankOf_5 : decode cX1_rankOf 5 = .ok (.bipush 6, 2) := by decide +kernel
theorem dX1_rankOf_7 : decode cX1_rankOf 7 = .ok (.if_icmp .ge 47, 3) := by decide +kernel
theorem dX1_rankOf_10 : decode cX1_rankOf 10 = .ok (.aload_n 0, 1) := by decide +kernel
theorem dX1_rankOf_11 : decode cX1_rankOf 11 = .ok (.getfield 20, 3) := by decide +kernel
theorem dX1_rankOf_14 : decode cX1_rankOf 14 = .ok (.iload_n 3, 1) := by decide +kernel
theorem dX1_rankOf_15 : decode cX1_rankOf 15 = .ok (.iaload, 1) := by decide +kernel
theorem dX1_rankOf_16 : decode cX1_rankOf 16 = .ok (.aload_n 0, 1) := by decide +kernel
theorem dX1_rankOf_17 : decode cX1_rankOf 17 = .ok (.getfield 20, 3) := by decide +kernel
theorem dX1_rankOf_20 : decode cX1_rankOf 20 = .ok (.iload_n 1, 1) := by decide +kernel
theorem dX1_rankOf_21 : decode cX1_rankOf 21 = .ok (.iaload, 1) := by decide +kernel
theorem dX1_rankOf_22 : decode cX1_rankOf 22 = .ok (.if_icmp .gt 23, 3) := by decide +kernel
theorem dX1_rankOf_25 : decode cX1_rankOf 25 = .ok (.aload_n 0, 1) := by decide +kernel
theorem dX1_rankOf_26 : decode cX1_rankOf 26 = .ok (.getfield 20, 3) := by decide +kernel
theorem dX1_rankOf_29 : decode cX1_rankOf 29 = .ok (.iload_n 3, 1) := by decide +kernel
theorem dX1_rankOf_30 : decode cX1_rankOf 30 = .ok (.iaload, 1) := by decide +kernel
theorem dX1_rankOf_31 : decode cX1_rankOf 31 = .ok (.aload_n 0, 1) := by decide +kernel
theorem dX1_rankOf_32 : decode cX1_rankOf 32 = .ok (.getfield 20, 3) := by decide +kernel
theorem dX1_rankOf_35 : decode cX1_rankOf 35 = .ok (.iload_n 1, 1) := by decide +kernel
theorem dX1_rankOf_36 : decode cX1_rankOf 36 = .ok (.iaload, 1) := by decide +kernel
theorem dX1_rankOf_37 : decode cX1_rankOf 37 = .ok (.if_icmp .ne 11, 3) := by decide +kernel
theorem dX1_rankOf_40 : decode cX1_rankOf 40 = .ok (.iload_n 3, 1) := by decide +kernel
theorem dX1_rankOf_41 : decode cX1_rankOf 41 = .ok (.iload_n 1, 1) := by decide +kernel
theorem dX1_rankOf_42 : decode cX1_rankOf 42 = .ok (.if_icmp .ge 6, 3) := by decide +kernel
theorem dX1_rankOf_45 : decode cX1_rankOf 45 = .ok (.iinc 2 1, 3) := by decide +kernel
theorem dX1_rankOf_48 : decode cX1_rankOf 48 = .ok (.iinc 3 1, 3) := by decide +kernel
theorem dX1_rankOf_51 : decode cX1_rankOf 51 = .ok (.goto (-47), 3) := by decide +kernel
theorem dX1_rankOf_54 : decode cX1_rankOf 54 = .ok (.iload_n 2, 1) := by decide +kernel
theorem dX1_rankOf_55 : decode cX1_rankOf 55 = .ok (.ireturn, 1) := by decide +kernel
set_option maxRecDepth 20000 in
theorem ggX1_serveBuyer_X1_bestSeller : GoodIn wsX1_serveBuyer wsX1_bestSeller := goodIn_r _ [12, 1, 7, 13, 14, 15, 11, 16, 17, 18, 4, 19, 30, 31, 32, 33, 34, 35, 36, 37, 38, 39, 40, 41, 42, 43, 44, 45, 46] (by decide +kernel) (by decide +kernel)
set_option maxRecDepth 20000 in
theorem gX1_serveBuyer_X1_bestSeller : GoodIn wsX1_serveBuyer (wsV RX1 175 RX1 yX1_bestSeller wsX1_bestSeller) := goodIn_app (goodIn_of _ (by decide +kernel)) ggX1_serveBuyer_X1_bestSeller
set_option maxRecDepth 20000 in
theorem ggX1_serveBuyer_X0_add : GoodIn wsX1_serveBuyer wsX0_add := goodIn_r _ [23, 24, 25, 26, 27, 28, 29, 47, 48, 49, 50, 51, 52] (by decide +kernel) (by decide +kernel)
set_option maxRecDepth 20000 in
theorem gX1_serveBuyer_X0_add_n178 : GoodIn wsX1_serveBuyer (wsX0_add) := ggX1_serveBuyer_X0_add
theorem dX1_serveBuyer_0 : decode cX1_serveBuyer 0 = .ok (.iconst 0, 1) := by decide +kernel
theorem dX1_serveBuyer_1 : decode cX1_serveBuyer 1 = .ok (.istore_n 2, 1) := by decide +kernel
theorem dX1_serveBuyer_2 : decode cX1_serveBuyer 2 = .ok (.iload_n 2, 1) := by decide +kernel
theorem dX1_serveBuyer_3 : decode cX1_serveBuyer 3 = .ok (.bipush 6, 2) := by decide +kernel
theorem dX1_serveBuyer_5 : decode cX1_serveBuyer 5 = .ok (.if_icmp .ge 95, 3) := by decide +kernel
theorem dX1_serveBuyer_8 : decode cX1_serveBuyer 8 = .ok (.aload_n 0, 1) := by decide +kernel
theorem dX1_serveBuyer_9 : decode cX1_serveBuyer 9 = .ok (.getfield 32, 3) := by decide +kernel
theorem dX1_serveBuyer_12 : decode cX1_serveBuyer 12 = .ok (.iload_n 1, 1) := by decide +kernel
theorem dX1_serveBuyer_13 : decode cX1_serveBuyer 13 = .ok (.iaload, 1) := by decide +kernel
theorem dX1_serveBuyer_14 : decode cX1_serveBuyer 14 = .ok (.ifCond .ge 86, 3) := by decide +kernel
theorem dX1_serveBuyer_17 : decode cX1_serveBuyer 17 = .ok (.aload_n 0, 1) := by decide +kernel
theorem dX1_serveBuyer_18 : decode cX1_serveBuyer 18 = .ok (.iload_n 1, 1) := by decide +kernel
theorem dX1_serveBuyer_19 : decode cX1_serveBuyer 19 = .ok (.invokevirtual 175, 3) := by decide +kernel
theorem dX1_serveBuyer_22 : decode cX1_serveBuyer 22 = .ok (.istore_n 3, 1) := by decide +kernel
theorem dX1_serveBuyer_23 : decode cX1_serveBuyer 23 = .ok (.iload_n 3, 1) := by decide +kernel
theorem dX1_serveBuyer_24 : decode cX1_serveBuyer 24 = .ok (.ifCond .ge 4, 3) := by decide +kernel
theorem dX1_serveBuyer_27 : decode cX1_serveBuyer 27 = .ok (.return_, 1) := by decide +kernel
theorem dX1_serveBuyer_28 : decode cX1_serveBuyer 28 = .ok (.aload_n 0, 1) := by decide +kernel
theorem dX1_serveBuyer_29 : decode cX1_serveBuyer 29 = .ok (.getfield 32, 3) := by decide +kernel
theorem dX1_serveBuyer_32 : decode cX1_serveBuyer 32 = .ok (.iload_n 3, 1) := by decide +kernel
theorem dX1_serveBuyer_33 : decode cX1_serveBuyer 33 = .ok (.iaload, 1) := by decide +kernel
theorem dX1_serveBuyer_34 : decode cX1_serveBuyer 34 = .ok (.aload_n 0, 1) := by decide +kernel
theorem dX1_serveBuyer_35 : decode cX1_serveBuyer 35 = .ok (.getfield 32, 3) := by decide +kernel
theorem dX1_serveBuyer_38 : decode cX1_serveBuyer 38 = .ok (.iload_n 1, 1) := by decide +kernel
theorem dX1_serveBuyer_39 : decode cX1_serveBuyer 39 = .ok (.iaload, 1) := by decide +kernel
theorem dX1_serveBuyer_40 : decode cX1_serveBuyer 40 = .ok (.ineg, 1) := by decide +kernel
theorem dX1_serveBuyer_41 : decode cX1_serveBuyer 41 = .ok (.invokestatic 132, 3) := by decide +kernel
theorem dX1_serveBuyer_44 : decode cX1_serveBuyer 44 = .ok (.istore 4, 2) := by decide +kernel
theorem dX1_serveBuyer_46 : decode cX1_serveBuyer 46 = .ok (.aload_n 0, 1) := by decide +kernel
theorem dX1_serveBuyer_47 : decode cX1_serveBuyer 47 = .ok (.getfield 32, 3) := by decide +kernel
theorem dX1_serveBuyer_50 : decode cX1_serveBuyer 50 = .ok (.iload_n 3, 1) := by decide +kernel
theorem dX1_serveBuyer_51 : decode cX1_serveBuyer 51 = .ok (.dup2, 1) := by decide +kernel
theorem dX1_serveBuyer_52 : decode cX1_serveBuyer 52 = .ok (.iaload, 1) := by decide +kernel
theorem dX1_serveBuyer_53 : decode cX1_serveBuyer 53 = .ok (.iload 4, 2) := by decide +kernel
theorem dX1_serveBuyer_55 : decode cX1_serveBuyer 55 = .ok (.isub, 1) := by decide +kernel
theorem dX1_serveBuyer_56 : decode cX1_serveBuyer 56 = .ok (.iastore, 1) := by decide +kernel
theorem dX1_serveBuyer_57 : decode cX1_serveBuyer 57 = .ok (.aload_n 0, 1) := by decide +kernel
theorem dX1_serveBuyer_58 : decode cX1_serveBuyer 58 = .ok (.getfield 32, 3) := by decide +kernel
theorem dX1_serveBuyer_61 : decode cX1_serveBuyer 61 = .ok (.iload_n 1, 1) := by decide +kernel
theorem dX1_serveBuyer_62 : decode cX1_serveBuyer 62 = .ok (.dup2, 1) := by decide +kernel
theorem dX1_serveBuyer_63 : decode cX1_serveBuyer 63 = .ok (.iaload, 1) := by decide +kernel
theorem dX1_serveBuyer_64 : decode cX1_serveBuyer 64 = .ok (.iload 4, 2) := by decide +kernel
theorem dX1_serveBuyer_66 : decode cX1_serveBuyer 66 = .ok (.iadd, 1) := by decide +kernel
theorem dX1_serveBuyer_67 : decode cX1_serveBuyer 67 = .ok (.iastore, 1) := by decide +kernel
theorem dX1_serveBuyer_68 : decode cX1_serveBuyer 68 = .ok (.aload_n 0, 1) := by decide +kernel
theorem dX1_serveBuyer_69 : decode cX1_serveBuyer 69 = .ok (.getfield 47, 3) := by decide +kernel
theorem dX1_serveBuyer_72 : decode cX1_serveBuyer 72 = .ok (.iload_n 3, 1) := by decide +kernel
theorem dX1_serveBuyer_73 : decode cX1_serveBuyer 73 = .ok (.iload_n 1, 1) := by decide +kernel
theorem dX1_serveBuyer_74 : decode cX1_serveBuyer 74 = .ok (.iload 4, 2) := by decide +kernel
theorem dX1_serveBuyer_76 : decode cX1_serveBuyer 76 = .ok (.aload_n 0, 1) := by decide +kernel
theorem dX1_serveBuyer_77 : decode cX1_serveBuyer 77 = .ok (.getfield 20, 3) := by decide +kernel
theorem dX1_serveBuyer_80 : decode cX1_serveBuyer 80 = .ok (.iload_n 3, 1) := by decide +kernel
theorem dX1_serveBuyer_81 : decode cX1_serveBuyer 81 = .ok (.iaload, 1) := by decide +kernel
theorem dX1_serveBuyer_82 : decode cX1_serveBuyer 82 = .ok (.aload_n 0, 1) := by decide +kernel
theorem dX1_serveBuyer_83 : decode cX1_serveBuyer 83 = .ok (.getfield 20, 3) := by decide +kernel
theorem dX1_serveBuyer_86 : decode cX1_serveBuyer 86 = .ok (.iload_n 1, 1) := by decide +kernel
theorem dX1_serveBuyer_87 : decode cX1_serveBuyer 87 = .ok (.iaload, 1) := by decide +kernel
theorem dX1_serveBuyer_88 : decode cX1_serveBuyer 88 = .ok (.iadd, 1) := by decide +kernel
theorem dX1_serveBuyer_89 : decode cX1_serveBuyer 89 = .ok (.iconst 2, 1) := by decide +kernel
theorem dX1_serveBuyer_90 : decode cX1_serveBuyer 90 = .ok (.idiv, 1) := by decide +kernel
theorem dX1_serveBuyer_91 : decode cX1_serveBuyer 91 = .ok (.invokevirtual 178, 3) := by decide +kernel
theorem dX1_serveBuyer_94 : decode cX1_serveBuyer 94 = .ok (.iinc 2 1, 3) := by decide +kernel
theorem dX1_serveBuyer_97 : decode cX1_serveBuyer 97 = .ok (.goto (-95), 3) := by decide +kernel
theorem dX1_serveBuyer_100 : decode cX1_serveBuyer 100 = .ok (.return_, 1) := by decide +kernel
set_option maxRecDepth 20000 in
theorem ggX1_bestSeller_X1_isBetterSeller : GoodIn wsX1_bestSeller wsX1_isBetterSeller := goodIn_r _ [7, 2, 8, 9, 10, 11, 12, 13, 14, 15, 16, 17, 18, 19, 20, 21, 22, 23, 24, 25, 26, 27, 28] (by decide +kernel) (by decide +kernel)
set_option maxRecDepth 20000 in
theorem gX1_bestSeller_X1_isBetterSeller : GoodIn wsX1_bestSeller (wsV RX1 182 RX1 yX1_isBetterSeller wsX1_isBetterSeller) := goodIn_app (goodIn_of _ (by decide +kernel)) ggX1_bestSeller_X1_isBetterSeller
theorem dX1_bestSeller_0 : decode cX1_bestSeller 0 = .ok (.iconst (-1), 1) := by decide +kernel
theorem dX1_bestSeller_1 : decode cX1_bestSeller 1 = .ok (.istore_n 2, 1) := by decide +kernel
theorem dX1_bestSeller_2 : decode cX1_bestSeller 2 = .ok (.iconst 0, 1) := by decide +kernel
theorem dX1_bestSeller_3 : decode cX1_bestSeller 3 = .ok (.istore_n 3, 1) := by decide +kernel
theorem dX1_bestSeller_4 : decode cX1_bestSeller 4 = .ok (.iload_n 3, 1) := by decide +kernel
theorem dX1_bestSeller_5 : decode cX1_bestSeller 5 = .ok (.bipush 6, 2) := by decide +kernel
theorem dX1_bestSeller_7 : decode cX1_bestSeller 7 = .ok (.if_icmp .ge 49, 3) := by decide +kernel
theorem dX1_bestSeller_10 : decode cX1_bestSeller 10 = .ok (.aload_n 0, 1) := by decide +kernel
theorem dX1_bestSeller_11 : decode cX1_bestSeller 11 = .ok (.getfield 32, 3) := by decide +kernel
theorem dX1_bestSeller_14 : decode cX1_bestSeller 14 = .ok (.iload_n 3, 1) := by decide +kernel
theorem dX1_bestSeller_15 : decode cX1_bestSeller 15 = .ok (.iaload, 1) := by decide +kernel
theorem dX1_bestSeller_16 : decode cX1_bestSeller 16 = .ok (.ifCond .le 34, 3) := by decide +kernel
theorem dX1_bestSeller_19 : decode cX1_bestSeller 19 = .ok (.aload_n 0, 1) := by decide +kernel
theorem dX1_bestSeller_20 : decode cX1_bestSeller 20 = .ok (.getfield 20, 3) := by decide +kernel
theorem dX1_bestSeller_23 : decode cX1_bestSeller 23 = .ok (.iload_n 3, 1) := by decide +kernel
theorem dX1_bestSeller_24 : decode cX1_bestSeller 24 = .ok (.iaload, 1) := by decide +kernel
theorem dX1_bestSeller_25 : decode cX1_bestSeller 25 = .ok (.aload_n 0, 1) := by decide +kernel
theorem dX1_bestSeller_26 : decode cX1_bestSeller 26 = .ok (.getfield 20, 3) := by decide +kernel
theorem dX1_bestSeller_29 : decode cX1_bestSeller 29 = .ok (.iload_n 1, 1) := by decide +kernel
theorem dX1_bestSeller_30 : decode cX1_bestSeller 30 = .ok (.iaload, 1) := by decide +kernel
theorem dX1_bestSeller_31 : decode cX1_bestSeller 31 = .ok (.if_icmp .gt 19, 3) := by decide +kernel
theorem dX1_bestSeller_34 : decode cX1_bestSeller 34 = .ok (.iload_n 2, 1) := by decide +kernel
theorem dX1_bestSeller_35 : decode cX1_bestSeller 35 = .ok (.ifCond .lt 13, 3) := by decide +kernel
theorem dX1_bestSeller_38 : decode cX1_bestSeller 38 = .ok (.aload_n 0, 1) := by decide +kernel
theorem dX1_bestSeller_39 : decode cX1_bestSeller 39 = .ok (.iload_n 3, 1) := by decide +kernel
theorem dX1_bestSeller_40 : decode cX1_bestSeller 40 = .ok (.iload_n 2, 1) := by decide +kernel
theorem dX1_bestSeller_41 : decode cX1_bestSeller 41 = .ok (.iload_n 1, 1) := by decide +kernel
theorem dX1_bestSeller_42 : decode cX1_bestSeller 42 = .ok (.invokevirtual 182, 3) := by decide +kernel
theorem dX1_bestSeller_45 : decode cX1_bestSeller 45 = .ok (.ifCond .eq 5, 3) := by decide +kernel
theorem dX1_bestSeller_48 : decode cX1_bestSeller 48 = .ok (.iload_n 3, 1) := by decide +kernel
theorem dX1_bestSeller_49 : decode cX1_bestSeller 49 = .ok (.istore_n 2, 1) := by decide +kernel
theorem dX1_bestSeller_50 : decode cX1_bestSeller 50 = .ok (.iinc 3 1, 3) := by decide +kernel
theorem dX1_bestSeller_53 : decode cX1_bestSeller 53 = .ok (.goto (-49), 3) := by decide +kernel
theorem dX1_bestSeller_56 : decode cX1_bestSeller 56 = .ok (.iload_n 2, 1) := by decide +kernel
theorem dX1_bestSeller_57 : decode cX1_bestSeller 57 = .ok (.ireturn, 1) := by decide +kernel
theorem dX1_isBetterSeller_0 : decode cX1_isBetterSeller 0 = .ok (.aload_n 0, 1) := by decide +kernel
theorem dX1_isBetterSeller_1 : decode cX1_isBetterSeller 1 = .ok (.getfield 20, 3) := by decide +kernel
theorem dX1_isBetterSeller_4 : decode cX1_isBetterSeller 4 = .ok (.iload_n 1, 1) := by decide +kernel
theorem dX1_isBetterSeller_5 : decode cX1_isBetterSeller 5 = .ok (.iaload, 1) := by decide +kernel
theorem dX1_isBetterSeller_6 : decode cX1_isBetterSeller 6 = .ok (.aload_n 0, 1) := by decide +kernel
theorem dX1_isBetterSeller_7 : decode cX1_isBetterSeller 7 = .ok (.getfield 20, 3) := by decide +kernel
theorem dX1_isBetterSeller_10 : decode cX1_isBetterSeller 10 = .ok (.iload_n 2, 1) := by decide +kernel
theorem dX1_isBetterSeller_11 : decode cX1_isBetterSeller 11 = .ok (.iaload, 1) := by decide +kernel
theorem dX1_isBetterSeller_12 : decode cX1_isBetterSeller 12 = .ok (.if_icmp .eq 24, 3) := by decide +kernel
theorem dX1_isBetterSeller_15 : decode cX1_isBetterSeller 15 = .ok (.aload_n 0, 1) := by decide +kernel
theorem dX1_isBetterSeller_16 : decode cX1_isBetterSeller 16 = .ok (.getfield 20, 3) := by decide +kernel
theorem dX1_isBetterSeller_19 : decode cX1_isBetterSeller 19 = .ok (.iload_n 1, 1) := by decide +kernel
theorem dX1_isBetterSeller_20 : decode cX1_isBetterSeller 20 = .ok (.iaload, 1) := by decide +kernel
theorem dX1_isBetterSeller_21 : decode cX1_isBetterSeller 21 = .ok (.aload_n 0, 1) := by decide +kernel
theorem dX1_isBetterSeller_22 : decode cX1_isBetterSeller 22 = .ok (.getfield 20, 3) := by decide +kernel
theorem dX1_isBetterSeller_25 : decode cX1_isBetterSeller 25 = .ok (.iload_n 2, 1) := by decide +kernel
theorem dX1_isBetterSeller_26 : decode cX1_isBetterSeller 26 = .ok (.iaload, 1) := by decide +kernel
theorem dX1_isBetterSeller_27 : decode cX1_isBetterSeller 27 = .ok (.if_icmp .ge 7, 3) := by decide +kernel
theorem dX1_isBetterSeller_30 : decode cX1_isBetterSeller 30 = .ok (.iconst 1, 1) := by decide +kernel
theorem dX1_isBetterSeller_31 : decode cX1_isBetterSeller 31 = .ok (.goto 4, 3) := by decide +kernel
theorem dX1_isBetterSeller_34 : decode cX1_isBetterSeller 34 = .ok (.iconst 0, 1) := by decide +kernel
theorem dX1_isBetterSeller_35 : decode cX1_isBetterSeller 35 = .ok (.ireturn, 1) := by decide +kernel
theorem dX1_isBetterSeller_36 : decode cX1_isBetterSeller 36 = .ok (.iload_n 1, 1) := by decide +kernel
theorem dX1_isBetterSeller_37 : decode cX1_isBetterSeller 37 = .ok (.iload_n 3, 1) := by decide +kernel
theorem dX1_isBetterSeller_38 : decode cX1_isBetterSeller 38 = .ok (.isub, 1) := by decide +kernel
theorem dX1_isBetterSeller_39 : decode cX1_isBetterSeller 39 = .ok (.invokestatic 120, 3) := by decide +kernel
theorem dX1_isBetterSeller_42 : decode cX1_isBetterSeller 42 = .ok (.iload_n 2, 1) := by decide +kernel
theorem dX1_isBetterSeller_43 : decode cX1_isBetterSeller 43 = .ok (.iload_n 3, 1) := by decide +kernel
theorem dX1_isBetterSeller_44 : decode cX1_isBetterSeller 44 = .ok (.isub, 1) := by decide +kernel
theorem dX1_isBetterSeller_45 : decode cX1_isBetterSeller 45 = .ok (.invokestatic 120, 3) := by decide +kernel
theorem dX1_isBetterSeller_48 : decode cX1_isBetterSeller 48 = .ok (.if_icmp .ge 7, 3) := by decide +kernel
theorem dX1_isBetterSeller_51 : decode cX1_isBetterSeller 51 = .ok (.iconst 1, 1) := by decide +kernel
theorem dX1_isBetterSeller_52 : decode cX1_isBetterSeller 52 = .ok (.goto 4, 3) := by decide +kernel
theorem dX1_isBetterSeller_55 : decode cX1_isBetterSeller 55 = .ok (.iconst 0, 1) := by decide +kernel
theorem dX1_isBetterSeller_56 : decode cX1_isBetterSeller 56 = .ok (.ireturn, 1) := by decide +kernel
set_option maxRecDepth 20000 in
theorem ggX1_cutOverLimits_X0_cutOver : GoodIn wsX1_cutOverLimits wsX0_cutOver := goodIn_r _ [6, 7, 8, 9, 10, 11, 12, 13, 14, 15, 16, 17, 18, 19, 20, 21, 4, 22, 23, 24, 25, 43, 44, 45, 46, 47, 48] (by decide +kernel) (by decide +kernel)
set_option maxRecDepth 20000 in
theorem gX1_cutOverLimits_X0_cutOver_n186 : GoodIn wsX1_cutOverLimits (wsX0_cutOver) := ggX1_cutOverLimits_X0_cutOver
theorem dX1_cutOverLimits_0 : decode cX1_cutOverLimits 0 = .ok (.iconst 1, 1) := by decide +kernel
theorem dX1_cutOverLimits_1 : decode cX1_cutOverLimits 1 = .ok (.istore_n 1, 1) := by decide +kernel
theorem dX1_cutOverLimits_2 : decode cX1_cutOverLimits 2 = .ok (.iconst 0, 1) := by decide +kernel
theorem dX1_cutOverLimits_3 : decode cX1_cutOverLimits 3 = .ok (.istore_n 2, 1) := by decide +kernel
theorem dX1_cutOverLimits_4 : decode cX1_cutOverLimits 4 = .ok (.iload_n 2, 1) := by decide +kernel
theorem dX1_cutOverLimits_5 : decode cX1_cutOverLimits 5 = .ok (.sipush 1000, 3) := by decide +kernel
theorem dX1_cutOverLimits_8 : decode cX1_cutOverLimits 8 = .ok (.if_icmp .ge 46, 3) := by decide +kernel
theorem dX1_cutOverLimits_11 : decode cX1_cutOverLimits 11 = .ok (.iload_n 1, 1) := by decide +kernel
theorem dX1_cutOverLimits_12 : decode cX1_cutOverLimits 12 = .ok (.ifCond .eq 42, 3) := by decide +kernel
theorem dX1_cutOverLimits_15 : decode cX1_cutOverLimits 15 = .ok (.iconst 0, 1) := by decide +kernel
theorem dX1_cutOverLimits_16 : decode cX1_cutOverLimits 16 = .ok (.istore_n 1, 1) := by decide +kernel
theorem dX1_cutOverLimits_17 : decode cX1_cutOverLimits 17 = .ok (.iconst 4, 1) := by decide +kernel
theorem dX1_cutOverLimits_18 : decode cX1_cutOverLimits 18 = .ok (.istore_n 3, 1) := by decide +kernel
theorem dX1_cutOverLimits_19 : decode cX1_cutOverLimits 19 = .ok (.iload_n 3, 1) := by decide +kernel
theorem dX1_cutOverLimits_20 : decode cX1_cutOverLimits 20 = .ok (.ifCond .lt 28, 3) := by decide +kernel
theorem dX1_cutOverLimits_23 : decode cX1_cutOverLimits 23 = .ok (.aload_n 0, 1) := by decide +kernel
theorem dX1_cutOverLimits_24 : decode cX1_cutOverLimits 24 = .ok (.getfield 47, 3) := by decide +kernel
theorem dX1_cutOverLimits_27 : decode cX1_cutOverLimits 27 = .ok (.iload_n 3, 1) := by decide +kernel
theorem dX1_cutOverLimits_28 : decode cX1_cutOverLimits 28 = .ok (.aload_n 0, 1) := by decide +kernel
theorem dX1_cutOverLimits_29 : decode cX1_cutOverLimits 29 = .ok (.getfield 35, 3) := by decide +kernel
theorem dX1_cutOverLimits_32 : decode cX1_cutOverLimits 32 = .ok (.iload_n 3, 1) := by decide +kernel
theorem dX1_cutOverLimits_33 : decode cX1_cutOverLimits 33 = .ok (.iaload, 1) := by decide +kernel
theorem dX1_cutOverLimits_34 : decode cX1_cutOverLimits 34 = .ok (.invokevirtual 186, 3) := by decide +kernel
theorem dX1_cutOverLimits_37 : decode cX1_cutOverLimits 37 = .ok (.ifCond .eq 5, 3) := by decide +kernel
theorem dX1_cutOverLimits_40 : decode cX1_cutOverLimits 40 = .ok (.iconst 1, 1) := by decide +kernel
theorem dX1_cutOverLimits_41 : decode cX1_cutOverLimits 41 = .ok (.istore_n 1, 1) := by decide +kernel
theorem dX1_cutOverLimits_42 : decode cX1_cutOverLimits 42 = .ok (.iinc 3 (-1), 3) := by decide +kernel
theorem dX1_cutOverLimits_45 : decode cX1_cutOverLimits 45 = .ok (.goto (-26), 3) := by decide +kernel
theorem dX1_cutOverLimits_48 : decode cX1_cutOverLimits 48 = .ok (.iinc 2 1, 3) := by decide +kernel
theorem dX1_cutOverLimits_51 : decode cX1_cutOverLimits 51 = .ok (.goto (-47), 3) := by decide +kernel
theorem dX1_cutOverLimits_54 : decode cX1_cutOverLimits 54 = .ok (.return_, 1) := by decide +kernel
set_option maxRecDepth 20000 in
theorem ggX1_countTrades_X0_flowOver : GoodIn wsX1_countTrades wsX0_flowOver := goodIn_r _ [8, 9, 10, 11, 12, 13, 14, 6, 15, 33, 34, 35, 36, 37, 38] (by decide +kernel) (by decide +kernel)
set_option maxRecDepth 20000 in
theorem gX1_countTrades_X0_flowOver_n193 : GoodIn wsX1_countTrades (wsX0_flowOver) := ggX1_countTrades_X0_flowOver
theorem dX1_countTrades_0 : decode cX1_countTrades 0 = .ok (.iconst 0, 1) := by decide +kernel
theorem dX1_countTrades_1 : decode cX1_countTrades 1 = .ok (.istore_n 1, 1) := by decide +kernel
theorem dX1_countTrades_2 : decode cX1_countTrades 2 = .ok (.iload_n 1, 1) := by decide +kernel
theorem dX1_countTrades_3 : decode cX1_countTrades 3 = .ok (.aload_n 0, 1) := by decide +kernel
theorem dX1_countTrades_4 : decode cX1_countTrades 4 = .ok (.getfield 47, 3) := by decide +kernel
theorem dX1_countTrades_7 : decode cX1_countTrades 7 = .ok (.getfield 136, 3) := by decide +kernel
theorem dX1_countTrades_10 : decode cX1_countTrades 10 = .ok (.if_icmp .ge 45, 3) := by decide +kernel
theorem dX1_countTrades_13 : decode cX1_countTrades 13 = .ok (.aload_n 0, 1) := by decide +kernel
theorem dX1_countTrades_14 : decode cX1_countTrades 14 = .ok (.getfield 41, 3) := by decide +kernel
theorem dX1_countTrades_17 : decode cX1_countTrades 17 = .ok (.iconst 0, 1) := by decide +kernel
theorem dX1_countTrades_18 : decode cX1_countTrades 18 = .ok (.dup2, 1) := by decide +kernel
theorem dX1_countTrades_19 : decode cX1_countTrades 19 = .ok (.iaload, 1) := by decide +kernel
theorem dX1_countTrades_20 : decode cX1_countTrades 20 = .ok (.aload_n 0, 1) := by decide +kernel
theorem dX1_countTrades_21 : decode cX1_countTrades 21 = .ok (.getfield 47, 3) := by decide +kernel
theorem dX1_countTrades_24 : decode cX1_countTrades 24 = .ok (.getfield 150, 3) := by decide +kernel
theorem dX1_countTrades_27 : decode cX1_countTrades 27 = .ok (.iload_n 1, 1) := by decide +kernel
theorem dX1_countTrades_28 : decode cX1_countTrades 28 = .ok (.iaload, 1) := by decide +kernel
theorem dX1_countTrades_29 : decode cX1_countTrades 29 = .ok (.iadd, 1) := by decide +kernel
theorem dX1_countTrades_30 : decode cX1_countTrades 30 = .ok (.iastore, 1) := by decide +kernel
theorem dX1_countTrades_31 : decode cX1_countTrades 31 = .ok (.aload_n 0, 1) := by decide +kernel
theorem dX1_countTrades_32 : decode cX1_countTrades 32 = .ok (.getfield 41, 3) := by decide +kernel
theorem dX1_countTrades_35 : decode cX1_countTrades 35 = .ok (.iconst 1, 1) := by decide +kernel
theorem dX1_countTrades_36 : decode cX1_countTrades 36 = .ok (.dup2, 1) := by decide +kernel
theorem dX1_countTrades_37 : decode cX1_countTrades 37 = .ok (.iaload, 1) := by decide +kernel
theorem dX1_countTrades_38 : decode cX1_countTrades 38 = .ok (.aload_n 0, 1) := by decide +kernel
theorem dX1_countTrades_39 : decode cX1_countTrades 39 = .ok (.getfield 47, 3) := by decide +kernel
theorem dX1_countTrades_42 : decode cX1_countTrades 42 = .ok (.getfield 190, 3) := by decide +kernel
theorem dX1_countTrades_45 : decode cX1_countTrades 45 = .ok (.iload_n 1, 1) := by decide +kernel
theorem dX1_countTrades_46 : decode cX1_countTrades 46 = .ok (.iaload, 1) := by decide +kernel
theorem dX1_countTrades_47 : decode cX1_countTrades 47 = .ok (.iadd, 1) := by decide +kernel
theorem dX1_countTrades_48 : decode cX1_countTrades 48 = .ok (.iastore, 1) := by decide +kernel
theorem dX1_countTrades_49 : decode cX1_countTrades 49 = .ok (.iinc 1 1, 3) := by decide +kernel
theorem dX1_countTrades_52 : decode cX1_countTrades 52 = .ok (.goto (-50), 3) := by decide +kernel
theorem dX1_countTrades_55 : decode cX1_countTrades 55 = .ok (.aload_n 0, 1) := by decide +kernel
theorem dX1_countTrades_56 : decode cX1_countTrades 56 = .ok (.dup, 1) := by decide +kernel
theorem dX1_countTrades_57 : decode cX1_countTrades 57 = .ok (.getfield 58, 3) := by decide +kernel
theorem dX1_countTrades_60 : decode cX1_countTrades 60 = .ok (.aload_n 0, 1) := by decide +kernel
theorem dX1_countTrades_61 : decode cX1_countTrades 61 = .ok (.getfield 41, 3) := by decide +kernel
theorem dX1_countTrades_64 : decode cX1_countTrades 64 = .ok (.iconst 1, 1) := by decide +kernel
theorem dX1_countTrades_65 : decode cX1_countTrades 65 = .ok (.iaload, 1) := by decide +kernel
theorem dX1_countTrades_66 : decode cX1_countTrades 66 = .ok (.isub, 1) := by decide +kernel
theorem dX1_countTrades_67 : decode cX1_countTrades 67 = .ok (.putfield 58, 3) := by decide +kernel
theorem dX1_countTrades_70 : decode cX1_countTrades 70 = .ok (.iconst 0, 1) := by decide +kernel
theorem dX1_countTrades_71 : decode cX1_countTrades 71 = .ok (.istore_n 1, 1) := by decide +kernel
theorem dX1_countTrades_72 : decode cX1_countTrades 72 = .ok (.iload_n 1, 1) := by decide +kernel
theorem dX1_countTrades_73 : decode cX1_countTrades 73 = .ok (.iconst 5, 1) := by decide +kernel
theorem dX1_countTrades_74 : decode cX1_countTrades 74 = .ok (.if_icmp .ge 23, 3) := by decide +kernel
theorem dX1_countTrades_77 : decode cX1_countTrades 77 = .ok (.aload_n 0, 1) := by decide +kernel
theorem dX1_countTrades_78 : decode cX1_countTrades 78 = .ok (.getfield 38, 3) := by decide +kernel
theorem dX1_countTrades_81 : decode cX1_countTrades 81 = .ok (.iload_n 1, 1) := by decide +kernel
theorem dX1_countTrades_82 : decode cX1_countTrades 82 = .ok (.aload_n 0, 1) := by decide +kernel
theorem dX1_countTrades_83 : decode cX1_countTrades 83 = .ok (.getfield 47, 3) := by decide +kernel
theorem dX1_countTrades_86 : decode cX1_countTrades 86 = .ok (.iload_n 1, 1) := by decide +kernel
theorem dX1_countTrades_87 : decode cX1_countTrades 87 = .ok (.invokevirtual 193, 3) := by decide +kernel
theorem dX1_countTrades_90 : decode cX1_countTrades 90 = .ok (.iastore, 1) := by decide +kernel
theorem dX1_countTrades_91 : decode cX1_countTrades 91 = .ok (.iinc 1 1, 3) := by decide +kernel
theorem dX1_countTrades_94 : decode cX1_countTrades 94 = .ok (.goto (-22), 3) := by decide +kernel
theorem dX1_countTrades_97 : decode cX1_countTrades 97 = .ok (.return_, 1) := by decide +kernel
theorem dX1_settleTrades_0 : decode cX1_settleTrades 0 = .ok (.iconst 0, 1) := by decide +kernel
theorem dX1_settleTrades_1 : decode cX1_settleTrades 1 = .ok (.istore_n 2, 1) := by decide +kernel
theorem dX1_settleTrades_2 : decode cX1_settleTrades 2 = .ok (.iload_n 2, 1) := by decide +kernel
theorem dX1_settleTrades_3 : decode cX1_settleTrades 3 = .ok (.aload_n 0, 1) := by decide +kernel
theorem dX1_settleTrades_4 : decode cX1_settleTrades 4 = .ok (.getfield 47, 3) := by decide +kernel
theorem dX1_settleTrades_7 : decode cX1_settleTrades 7 = .ok (.getfield 136, 3) := by decide +kernel
theorem dX1_settleTrades_10 : decode cX1_settleTrades 10 = .ok (.if_icmp .ge 121, 3) := by decide +kernel
theorem dX1_settleTrades_13 : decode cX1_settleTrades 13 = .ok (.aload_n 0, 1) := by decide +kernel
theorem dX1_settleTrades_14 : decode cX1_settleTrades 14 = .ok (.getfield 47, 3) := by decide +kernel
theorem dX1_settleTrades_17 : decode cX1_settleTrades 17 = .ok (.getfield 150, 3) := by decide +kernel
theorem dX1_settleTrades_20 : decode cX1_settleTrades 20 = .ok (.iload_n 2, 1) := by decide +kernel
theorem dX1_settleTrades_21 : decode cX1_settleTrades 21 = .ok (.iaload, 1) := by decide +kernel
theorem dX1_settleTrades_22 : decode cX1_settleTrades 22 = .ok (.aload_n 0, 1) := by decide +kernel
theorem dX1_settleTrades_23 : decode cX1_settleTrades 23 = .ok (.getfield 47, 3) := by decide +kernel
theorem dX1_settleTrades_26 : decode cX1_settleTrades 26 = .ok (.getfield 153, 3) := by decide +kernel
theorem dX1_settleTrades_29 : decode cX1_settleTrades 29 = .ok (.iload_n 2, 1) := by decide +kernel
theorem dX1_settleTrades_30 : decode cX1_settleTrades 30 = .ok (.iaload, 1) := by decide +kernel
theorem dX1_settleTrades_31 : decode cX1_settleTrades 31 = .ok (.imul, 1) := by decide +kernel
theorem dX1_settleTrades_32 : decode cX1_settleTrades 32 = .ok (.istore_n 3, 1) := by decide +kernel
theorem dX1_settleTrades_33 : decode cX1_settleTrades 33 = .ok (.aload_n 0, 1) := by decide +kernel
theorem dX1_settleTrades_34 : decode cX1_settleTrades 34 = .ok (.getfield 47, 3) := by decide +kernel
theorem dX1_settleTrades_37 : decode cX1_settleTrades 37 = .ok (.getfield 144, 3) := by decide +kernel
theorem dX1_settleTrades_40 : decode cX1_settleTrades 40 = .ok (.iload_n 2, 1) := by decide +kernel
theorem dX1_settleTrades_41 : decode cX1_settleTrades 41 = .ok (.iaload, 1) := by decide +kernel
theorem dX1_settleTrades_42 : decode cX1_settleTrades 42 = .ok (.iload_n 1, 1) := by decide +kernel
theorem dX1_settleTrades_43 : decode cX1_settleTrades 43 = .ok (.if_icmp .ne 41, 3) := by decide +kernel
theorem dX1_settleTrades_46 : decode cX1_settleTrades 46 = .ok (.aload_n 0, 1) := by decide +kernel
theorem dX1_settleTrades_47 : decode cX1_settleTrades 47 = .ok (.getfield 29, 3) := by decide +kernel
theorem dX1_settleTrades_50 : decode cX1_settleTrades 50 = .ok (.iload_n 1, 1) := by decide +kernel
theorem dX1_settleTrades_51 : decode cX1_settleTrades 51 = .ok (.dup2, 1) := by decide +kernel
theorem dX1_settleTrades_52 : decode cX1_settleTrades 52 = .ok (.iaload, 1) := by decide +kernel
theorem dX1_settleTrades_53 : decode cX1_settleTrades 53 = .ok (.iload_n 3, 1) := by decide +kernel
theorem dX1_settleTrades_54 : decode cX1_settleTrades 54 = .ok (.aload_n 0, 1) := by decide +kernel
theorem dX1_settleTrades_55 : decode cX1_settleTrades 55 = .ok (.getfield 47, 3) := by decide +kernel
theorem dX1_settleTrades_58 : decode cX1_settleTrades 58 = .ok (.getfield 190, 3) := by decide +kernel
theorem dX1_settleTrades_61 : decode cX1_settleTrades 61 = .ok (.iload_n 2, 1) := by decide +kernel
theorem dX1_settleTrades_62 : decode cX1_settleTrades 62 = .ok (.iaload, 1) := by decide +kernel
theorem dX1_settleTrades_63 : decode cX1_settleTrades 63 = .ok (.iadd, 1) := by decide +kernel
theorem dX1_settleTrades_64 : decode cX1_settleTrades 64 = .ok (.isub, 1) := by decide +kernel
theorem dX1_settleTrades_65 : decode cX1_settleTrades 65 = .ok (.iastore, 1) := by decide +kernel
theorem dX1_settleTrades_66 : decode cX1_settleTrades 66 = .ok (.aload_n 0, 1) := by decide +kernel
theorem dX1_settleTrades_67 : decode cX1_settleTrades 67 = .ok (.getfield 32, 3) := by decide +kernel
theorem dX1_settleTrades_70 : decode cX1_settleTrades 70 = .ok (.iload_n 1, 1) := by decide +kernel
theorem dX1_settleTrades_71 : decode cX1_settleTrades 71 = .ok (.dup2, 1) := by decide +kernel
theorem dX1_settleTrades_72 : decode cX1_settleTrades 72 = .ok (.iaload, 1) := by decide +kernel
theorem dX1_settleTrades_73 : decode cX1_settleTrades 73 = .ok (.aload_n 0, 1) := by decide +kernel
theorem dX1_settleTrades_74 : decode cX1_settleTrades 74 = .ok (.getfield 47, 3) := by decide +kernel
theorem dX1_settleTrades_77 : decode cX1_settleTrades 77 = .ok (.getfield 190, 3) := by decide +kernel
theorem dX1_settleTrades_80 : decode cX1_settleTrades 80 = .ok (.iload_n 2, 1) := by decide +kernel
theorem dX1_settleTrades_81 : decode cX1_settleTrades 81 = .ok (.iaload, 1) := by decide +kernel
theorem dX1_settleTrades_82 : decode cX1_settleTrades 82 = .ok (.iadd, 1) := by decide +kernel
theorem dX1_settleTrades_83 : decode cX1_settleTrades 83 = .ok (.iastore, 1) := by decide +kernel
theorem dX1_settleTrades_84 : decode cX1_settleTrades 84 = .ok (.aload_n 0, 1) := by decide +kernel
theorem dX1_settleTrades_85 : decode cX1_settleTrades 85 = .ok (.getfield 47, 3) := by decide +kernel
theorem dX1_settleTrades_88 : decode cX1_settleTrades 88 = .ok (.getfield 147, 3) := by decide +kernel
theorem dX1_settleTrades_91 : decode cX1_settleTrades 91 = .ok (.iload_n 2, 1) := by decide +kernel
theorem dX1_settleTrades_92 : decode cX1_settleTrades 92 = .ok (.iaload, 1) := by decide +kernel
theorem dX1_settleTrades_93 : decode cX1_settleTrades 93 = .ok (.iload_n 1, 1) := by decide +kernel
theorem dX1_settleTrades_94 : decode cX1_settleTrades 94 = .ok (.if_icmp .ne 31, 3) := by decide +kernel
theorem dX1_settleTrades_97 : decode cX1_settleTrades 97 = .ok (.aload_n 0, 1) := by decide +kernel
theorem dX1_settleTrades_98 : decode cX1_settleTrades 98 = .ok (.getfield 29, 3) := by decide +kernel
theorem dX1_settleTrades_101 : decode cX1_settleTrades 101 = .ok (.iload_n 1, 1) := by decide +kernel
theorem dX1_settleTrades_102 : decode cX1_settleTrades 102 = .ok (.dup2, 1) := by decide +kernel
theorem dX1_settleTrades_103 : decode cX1_settleTrades 103 = .ok (.iaload, 1) := by decide +kernel
theorem dX1_settleTrades_104 : decode cX1_settleTrades 104 = .ok (.iload_n 3, 1) := by decide +kernel
theorem dX1_settleTrades_105 : decode cX1_settleTrades 105 = .ok (.iadd, 1) := by decide +kernel
theorem dX1_settleTrades_106 : decode cX1_settleTrades 106 = .ok (.iastore, 1) := by decide +kernel
theorem dX1_settleTrades_107 : decode cX1_settleTrades 107 = .ok (.aload_n 0, 1) := by decide +kernel
theorem dX1_settleTrades_108 : decode cX1_settleTrades 108 = .ok (.getfield 32, 3) := by decide +kernel
theorem dX1_settleTrades_111 : decode cX1_settleTrades 111 = .ok (.iload_n 1, 1) := by decide +kernel
theorem dX1_settleTrades_112 : decode cX1_settleTrades 112 = .ok (.dup2, 1) := by decide +kernel
theorem dX1_settleTrades_113 : decode cX1_settleTrades 113 = .ok (.iaload, 1) := by decide +kernel
theorem dX1_settleTrades_114 : decode cX1_settleTrades 114 = .ok (.aload_n 0, 1) := by decide +kernel
theorem dX1_settleTrades_115 : decode cX1_settleTrades 115 = .ok (.getfield 47, 3) := by decide +kernel
theorem dX1_settleTrades_118 : decode cX1_settleTrades 118 = .ok (.getfield 190, 3) := by decide +kernel
theorem dX1_settleTrades_121 : decode cX1_settleTrades 121 = .ok (.iload_n 2, 1) := by decide +kernel
theorem dX1_settleTrades_122 : decode cX1_settleTrades 122 = .ok (.iaload, 1) := by decide +kernel
theorem dX1_settleTrades_123 : decode cX1_settleTrades 123 = .ok (.isub, 1) := by decide +kernel
theorem dX1_settleTrades_124 : decode cX1_settleTrades 124 = .ok (.iastore, 1) := by decide +kernel
theorem dX1_settleTrades_125 : decode cX1_settleTrades 125 = .ok (.iinc 2 1, 3) := by decide +kernel
theorem dX1_settleTrades_128 : decode cX1_settleTrades 128 = .ok (.goto (-126), 3) := by decide +kernel
theorem dX1_settleTrades_131 : decode cX1_settleTrades 131 = .ok (.return_, 1) := by decide +kernel
set_option maxRecDepth 20000 in
theorem ggX1_useBattery_X1_putIn : GoodIn wsX1_useBattery wsX1_putIn := goodIn_r _ [12, 1, 3, 13, 27, 28, 29, 30, 31, 32, 33, 34, 35, 36, 37, 38, 39, 40, 41, 42, 43] (by decide +kernel) (by decide +kernel)
set_option maxRecDepth 20000 in
theorem gX1_useBattery_X1_putIn : GoodIn wsX1_useBattery (wsV RX1 196 RX1 yX1_putIn wsX1_putIn) := goodIn_app (goodIn_of _ (by decide +kernel)) ggX1_useBattery_X1_putIn
set_option maxRecDepth 20000 in
theorem ggX1_useBattery_X1_takeOut : GoodIn wsX1_useBattery wsX1_takeOut := goodIn_r _ [17, 1, 3, 13, 2, 18, 19, 6, 20, 21, 22, 23, 11, 24, 25, 26, 27, 28, 29, 30, 31, 32, 33, 34, 35, 36, 37, 38, 39, 40, 41, 42, 43] (by decide +kernel) (by decide +kernel)
set_option maxRecDepth 20000 in
theorem gX1_useBattery_X1_takeOut : GoodIn wsX1_useBattery (wsV RX1 199 RX1 yX1_takeOut wsX1_takeOut) := goodIn_app (goodIn_of _ (by decide +kernel)) ggX1_useBattery_X1_takeOut
theorem dX1_useBattery_0 : decode cX1_useBattery 0 = .ok (.aload_n 0, 1) := by decide +kernel
theorem dX1_useBattery_1 : decode cX1_useBattery 1 = .ok (.getfield 32, 3) := by decide +kernel
theorem dX1_useBattery_4 : decode cX1_useBattery 4 = .ok (.iload_n 1, 1) := by decide +kernel
theorem dX1_useBattery_5 : decode cX1_useBattery 5 = .ok (.iaload, 1) := by decide +kernel
theorem dX1_useBattery_6 : decode cX1_useBattery 6 = .ok (.ifCond .le 33, 3) := by decide +kernel
theorem dX1_useBattery_9 : decode cX1_useBattery 9 = .ok (.aload_n 0, 1) := by decide +kernel
theorem dX1_useBattery_10 : decode cX1_useBattery 10 = .ok (.iload_n 1, 1) := by decide +kernel
theorem dX1_useBattery_11 : decode cX1_useBattery 11 = .ok (.aload_n 0, 1) := by decide +kernel
theorem dX1_useBattery_12 : decode cX1_useBattery 12 = .ok (.getfield 32, 3) := by decide +kernel
theorem dX1_useBattery_15 : decode cX1_useBattery 15 = .ok (.iload_n 1, 1) := by decide +kernel
theorem dX1_useBattery_16 : decode cX1_useBattery 16 = .ok (.iaload, 1) := by decide +kernel
theorem dX1_useBattery_17 : decode cX1_useBattery 17 = .ok (.aload_n 0, 1) := by decide +kernel
theorem dX1_useBattery_18 : decode cX1_useBattery 18 = .ok (.getfield 23, 3) := by decide +kernel
theorem dX1_useBattery_21 : decode cX1_useBattery 21 = .ok (.iload_n 1, 1) := by decide +kernel
theorem dX1_useBattery_22 : decode cX1_useBattery 22 = .ok (.iaload, 1) := by decide +kernel
theorem dX1_useBattery_23 : decode cX1_useBattery 23 = .ok (.aload_n 0, 1) := by decide +kernel
theorem dX1_useBattery_24 : decode cX1_useBattery 24 = .ok (.getfield 26, 3) := by decide +kernel
theorem dX1_useBattery_27 : decode cX1_useBattery 27 = .ok (.iload_n 1, 1) := by decide +kernel
theorem dX1_useBattery_28 : decode cX1_useBattery 28 = .ok (.iaload, 1) := by decide +kernel
theorem dX1_useBattery_29 : decode cX1_useBattery 29 = .ok (.isub, 1) := by decide +kernel
theorem dX1_useBattery_30 : decode cX1_useBattery 30 = .ok (.invokestatic 132, 3) := by decide +kernel
theorem dX1_useBattery_33 : decode cX1_useBattery 33 = .ok (.invokevirtual 196, 3) := by decide +kernel
theorem dX1_useBattery_36 : decode cX1_useBattery 36 = .ok (.goto 24, 3) := by decide +kernel
theorem dX1_useBattery_39 : decode cX1_useBattery 39 = .ok (.aload_n 0, 1) := by decide +kernel
theorem dX1_useBattery_40 : decode cX1_useBattery 40 = .ok (.iload_n 1, 1) := by decide +kernel
theorem dX1_useBattery_41 : decode cX1_useBattery 41 = .ok (.aload_n 0, 1) := by decide +kernel
theorem dX1_useBattery_42 : decode cX1_useBattery 42 = .ok (.getfield 32, 3) := by decide +kernel
theorem dX1_useBattery_45 : decode cX1_useBattery 45 = .ok (.iload_n 1, 1) := by decide +kernel
theorem dX1_useBattery_46 : decode cX1_useBattery 46 = .ok (.iaload, 1) := by decide +kernel
theorem dX1_useBattery_47 : decode cX1_useBattery 47 = .ok (.ineg, 1) := by decide +kernel
theorem dX1_useBattery_48 : decode cX1_useBattery 48 = .ok (.aload_n 0, 1) := by decide +kernel
theorem dX1_useBattery_49 : decode cX1_useBattery 49 = .ok (.getfield 26, 3) := by decide +kernel
theorem dX1_useBattery_52 : decode cX1_useBattery 52 = .ok (.iload_n 1, 1) := by decide +kernel
theorem dX1_useBattery_53 : decode cX1_useBattery 53 = .ok (.iaload, 1) := by decide +kernel
theorem dX1_useBattery_54 : decode cX1_useBattery 54 = .ok (.invokestatic 132, 3) := by decide +kernel
theorem dX1_useBattery_57 : decode cX1_useBattery 57 = .ok (.invokevirtual 199, 3) := by decide +kernel
theorem dX1_useBattery_60 : decode cX1_useBattery 60 = .ok (.return_, 1) := by decide +kernel
theorem dX1_putIn_0 : decode cX1_putIn 0 = .ok (.aload_n 0, 1) := by decide +kernel
theorem dX1_putIn_1 : decode cX1_putIn 1 = .ok (.getfield 32, 3) := by decide +kernel
theorem dX1_putIn_4 : decode cX1_putIn 4 = .ok (.iload_n 1, 1) := by decide +kernel
theorem dX1_putIn_5 : decode cX1_putIn 5 = .ok (.dup2, 1) := by decide +kernel
theorem dX1_putIn_6 : decode cX1_putIn 6 = .ok (.iaload, 1) := by decide +kernel
theorem dX1_putIn_7 : decode cX1_putIn 7 = .ok (.iload_n 2, 1) := by decide +kernel
theorem dX1_putIn_8 : decode cX1_putIn 8 = .ok (.isub, 1) := by decide +kernel
theorem dX1_putIn_9 : decode cX1_putIn 9 = .ok (.iastore, 1) := by decide +kernel
theorem dX1_putIn_10 : decode cX1_putIn 10 = .ok (.aload_n 0, 1) := by decide +kernel
theorem dX1_putIn_11 : decode cX1_putIn 11 = .ok (.getfield 26, 3) := by decide +kernel
theorem dX1_putIn_14 : decode cX1_putIn 14 = .ok (.iload_n 1, 1) := by decide +kernel
theorem dX1_putIn_15 : decode cX1_putIn 15 = .ok (.dup2, 1) := by decide +kernel
theorem dX1_putIn_16 : decode cX1_putIn 16 = .ok (.iaload, 1) := by decide +kernel
theorem dX1_putIn_17 : decode cX1_putIn 17 = .ok (.iload_n 2, 1) := by decide +kernel
theorem dX1_putIn_18 : decode cX1_putIn 18 = .ok (.iadd, 1) := by decide +kernel
theorem dX1_putIn_19 : decode cX1_putIn 19 = .ok (.iastore, 1) := by decide +kernel
theorem dX1_putIn_20 : decode cX1_putIn 20 = .ok (.aload_n 0, 1) := by decide +kernel
theorem dX1_putIn_21 : decode cX1_putIn 21 = .ok (.getfield 41, 3) := by decide +kernel
theorem dX1_putIn_24 : decode cX1_putIn 24 = .ok (.iconst 2, 1) := by decide +kernel
theorem dX1_putIn_25 : decode cX1_putIn 25 = .ok (.dup2, 1) := by decide +kernel
theorem dX1_putIn_26 : decode cX1_putIn 26 = .ok (.iaload, 1) := by decide +kernel
theorem dX1_putIn_27 : decode cX1_putIn 27 = .ok (.iload_n 2, 1) := by decide +kernel
theorem dX1_putIn_28 : decode cX1_putIn 28 = .ok (.iadd, 1) := by decide +kernel
theorem dX1_putIn_29 : decode cX1_putIn 29 = .ok (.iastore, 1) := by decide +kernel
theorem dX1_putIn_30 : decode cX1_putIn 30 = .ok (.return_, 1) := by decide +kernel
set_option maxRecDepth 20000 in
theorem ggX1_takeOut_X1_payPool : GoodIn wsX1_takeOut wsX1_payPool := goodIn_r _ [13, 14, 15, 16, 17, 18, 19, 20, 21, 22, 23, 24, 25, 26, 27, 28, 29, 30, 31, 32] (by decide +kernel) (by decide +kernel)
set_option maxRecDepth 20000 in
theorem gX1_takeOut_X1_payPool : GoodIn wsX1_takeOut (wsV RX1 93 RX1 yX1_payPool wsX1_payPool) := goodIn_app (goodIn_of _ (by decide +kernel)) ggX1_takeOut_X1_payPool
theorem dX1_takeOut_0 : decode cX1_takeOut 0 = .ok (.iload_n 2, 1) := by decide +kernel
theorem dX1_takeOut_1 : decode cX1_takeOut 1 = .ok (.ifCond .gt 4, 3) := by decide +kernel
theorem dX1_takeOut_4 : decode cX1_takeOut 4 = .ok (.return_, 1) := by decide +kernel
theorem dX1_takeOut_5 : decode cX1_takeOut 5 = .ok (.aload_n 0, 1) := by decide +kernel
theorem dX1_takeOut_6 : decode cX1_takeOut 6 = .ok (.getfield 32, 3) := by decide +kernel
theorem dX1_takeOut_9 : decode cX1_takeOut 9 = .ok (.iload_n 1, 1) := by decide +kernel
theorem dX1_takeOut_10 : decode cX1_takeOut 10 = .ok (.dup2, 1) := by decide +kernel
theorem dX1_takeOut_11 : decode cX1_takeOut 11 = .ok (.iaload, 1) := by decide +kernel
theorem dX1_takeOut_12 : decode cX1_takeOut 12 = .ok (.iload_n 2, 1) := by decide +kernel
theorem dX1_takeOut_13 : decode cX1_takeOut 13 = .ok (.iadd, 1) := by decide +kernel
theorem dX1_takeOut_14 : decode cX1_takeOut 14 = .ok (.iastore, 1) := by decide +kernel
theorem dX1_takeOut_15 : decode cX1_takeOut 15 = .ok (.aload_n 0, 1) := by decide +kernel
theorem dX1_takeOut_16 : decode cX1_takeOut 16 = .ok (.getfield 26, 3) := by decide +kernel
theorem dX1_takeOut_19 : decode cX1_takeOut 19 = .ok (.iload_n 1, 1) := by decide +kernel
theorem dX1_takeOut_20 : decode cX1_takeOut 20 = .ok (.dup2, 1) := by decide +kernel
theorem dX1_takeOut_21 : decode cX1_takeOut 21 = .ok (.iaload, 1) := by decide +kernel
theorem dX1_takeOut_22 : decode cX1_takeOut 22 = .ok (.iload_n 2, 1) := by decide +kernel
theorem dX1_takeOut_23 : decode cX1_takeOut 23 = .ok (.isub, 1) := by decide +kernel
theorem dX1_takeOut_24 : decode cX1_takeOut 24 = .ok (.iastore, 1) := by decide +kernel
theorem dX1_takeOut_25 : decode cX1_takeOut 25 = .ok (.aload_n 0, 1) := by decide +kernel
theorem dX1_takeOut_26 : decode cX1_takeOut 26 = .ok (.getfield 41, 3) := by decide +kernel
theorem dX1_takeOut_29 : decode cX1_takeOut 29 = .ok (.iconst 3, 1) := by decide +kernel
theorem dX1_takeOut_30 : decode cX1_takeOut 30 = .ok (.dup2, 1) := by decide +kernel
theorem dX1_takeOut_31 : decode cX1_takeOut 31 = .ok (.iaload, 1) := by decide +kernel
theorem dX1_takeOut_32 : decode cX1_takeOut 32 = .ok (.iload_n 2, 1) := by decide +kernel
theorem dX1_takeOut_33 : decode cX1_takeOut 33 = .ok (.iadd, 1) := by decide +kernel
theorem dX1_takeOut_34 : decode cX1_takeOut 34 = .ok (.iastore, 1) := by decide +kernel
theorem dX1_takeOut_35 : decode cX1_takeOut 35 = .ok (.iconst 0, 1) := by decide +kernel
theorem dX1_takeOut_36 : decode cX1_takeOut 36 = .ok (.aload_n 0, 1) := by decide +kernel
theorem dX1_takeOut_37 : decode cX1_takeOut 37 = .ok (.getfield 23, 3) := by decide +kernel
theorem dX1_takeOut_40 : decode cX1_takeOut 40 = .ok (.iload_n 1, 1) := by decide +kernel
theorem dX1_takeOut_41 : decode cX1_takeOut 41 = .ok (.iaload, 1) := by decide +kernel
theorem dX1_takeOut_42 : decode cX1_takeOut 42 = .ok (.iconst 4, 1) := by decide +kernel
theorem dX1_takeOut_43 : decode cX1_takeOut 43 = .ok (.idiv, 1) := by decide +kernel
theorem dX1_takeOut_44 : decode cX1_takeOut 44 = .ok (.aload_n 0, 1) := by decide +kernel
theorem dX1_takeOut_45 : decode cX1_takeOut 45 = .ok (.getfield 26, 3) := by decide +kernel
theorem dX1_takeOut_48 : decode cX1_takeOut 48 = .ok (.iload_n 1, 1) := by decide +kernel
theorem dX1_takeOut_49 : decode cX1_takeOut 49 = .ok (.iaload, 1) := by decide +kernel
theorem dX1_takeOut_50 : decode cX1_takeOut 50 = .ok (.isub, 1) := by decide +kernel
theorem dX1_takeOut_51 : decode cX1_takeOut 51 = .ok (.invokestatic 202, 3) := by decide +kernel
theorem dX1_takeOut_54 : decode cX1_takeOut 54 = .ok (.istore_n 3, 1) := by decide +kernel
theorem dX1_takeOut_55 : decode cX1_takeOut 55 = .ok (.aload_n 0, 1) := by decide +kernel
theorem dX1_takeOut_56 : decode cX1_takeOut 56 = .ok (.iload_n 1, 1) := by decide +kernel
theorem dX1_takeOut_57 : decode cX1_takeOut 57 = .ok (.iconst 2, 1) := by decide +kernel
theorem dX1_takeOut_58 : decode cX1_takeOut 58 = .ok (.iload_n 2, 1) := by decide +kernel
theorem dX1_takeOut_59 : decode cX1_takeOut 59 = .ok (.imul, 1) := by decide +kernel
theorem dX1_takeOut_60 : decode cX1_takeOut 60 = .ok (.iload_n 3, 1) := by decide +kernel
theorem dX1_takeOut_61 : decode cX1_takeOut 61 = .ok (.iadd, 1) := by decide +kernel
theorem dX1_takeOut_62 : decode cX1_takeOut 62 = .ok (.invokevirtual 93, 3) := by decide +kernel
theorem dX1_takeOut_65 : decode cX1_takeOut 65 = .ok (.return_, 1) := by decide +kernel
theorem dX1_settleWithSupplier_0 : decode cX1_settleWithSupplier 0 = .ok (.aload_n 0, 1) := by decide +kernel
theorem dX1_settleWithSupplier_1 : decode cX1_settleWithSupplier 1 = .ok (.getfield 32, 3) := by decide +kernel
theorem dX1_settleWithSupplier_4 : decode cX1_settleWithSupplier 4 = .ok (.iload_n 1, 1) := by decide +kernel
theorem dX1_settleWithSupplier_5 : decode cX1_settleWithSupplier 5 = .ok (.iaload, 1) := by decide +kernel
theorem dX1_settleWithSupplier_6 : decode cX1_settleWithSupplier 6 = .ok (.istore_n 2, 1) := by decide +kernel
theorem dX1_settleWithSupplier_7 : decode cX1_settleWithSupplier 7 = .ok (.iload_n 2, 1) := by decide +kernel
theorem dX1_settleWithSupplier_8 : decode cX1_settleWithSupplier 8 = .ok (.ifCond .ge 13, 3) := by decide +kernel
theorem dX1_settleWithSupplier_11 : decode cX1_settleWithSupplier 11 = .ok (.iload_n 2, 1) := by decide +kernel
theorem dX1_settleWithSupplier_12 : decode cX1_settleWithSupplier 12 = .ok (.ineg, 1) := by decide +kernel
theorem dX1_settleWithSupplier_13 : decode cX1_settleWithSupplier 13 = .ok (.aload_n 0, 1) := by decide +kernel
theorem dX1_settleWithSupplier_14 : decode cX1_settleWithSupplier 14 = .ok (.getfield 51, 3) := by decide +kernel
theorem dX1_settleWithSupplier_17 : decode cX1_settleWithSupplier 17 = .ok (.imul, 1) := by decide +kernel
theorem dX1_settleWithSupplier_18 : decode cX1_settleWithSupplier 18 = .ok (.goto 10, 3) := by decide +kernel
theorem dX1_settleWithSupplier_21 : decode cX1_settleWithSupplier 21 = .ok (.iload_n 2, 1) := by decide +kernel
theorem dX1_settleWithSupplier_22 : decode cX1_settleWithSupplier 22 = .ok (.ineg, 1) := by decide +kernel
theorem dX1_settleWithSupplier_23 : decode cX1_settleWithSupplier 23 = .ok (.aload_n 0, 1) := by decide +kernel
theorem dX1_settleWithSupplier_24 : decode cX1_settleWithSupplier 24 = .ok (.getfield 55, 3) := by decide +kernel
theorem dX1_settleWithSupplier_27 : decode cX1_settleWithSupplier 27 = .ok (.imul, 1) := by decide +kernel
theorem dX1_settleWithSupplier_28 : decode cX1_settleWithSupplier 28 = .ok (.istore_n 3, 1) := by decide +kernel
theorem dX1_settleWithSupplier_29 : decode cX1_settleWithSupplier 29 = .ok (.aload_n 0, 1) := by decide +kernel
theorem dX1_settleWithSupplier_30 : decode cX1_settleWithSupplier 30 = .ok (.getfield 29, 3) := by decide +kernel
theorem dX1_settleWithSupplier_33 : decode cX1_settleWithSupplier 33 = .ok (.iload_n 1, 1) := by decide +kernel
theorem dX1_settleWithSupplier_34 : decode cX1_settleWithSupplier 34 = .ok (.dup2, 1) := by decide +kernel
theorem dX1_settleWithSupplier_35 : decode cX1_settleWithSupplier 35 = .ok (.iaload, 1) := by decide +kernel
theorem dX1_settleWithSupplier_36 : decode cX1_settleWithSupplier 36 = .ok (.iload_n 3, 1) := by decide +kernel
theorem dX1_settleWithSupplier_37 : decode cX1_settleWithSupplier 37 = .ok (.iadd, 1) := by decide +kernel
theorem dX1_settleWithSupplier_38 : decode cX1_settleWithSupplier 38 = .ok (.iastore, 1) := by decide +kernel
theorem dX1_settleWithSupplier_39 : decode cX1_settleWithSupplier 39 = .ok (.aload_n 0, 1) := by decide +kernel
theorem dX1_settleWithSupplier_40 : decode cX1_settleWithSupplier 40 = .ok (.dup, 1) := by decide +kernel
theorem dX1_settleWithSupplier_41 : decode cX1_settleWithSupplier 41 = .ok (.getfield 61, 3) := by decide +kernel
theorem dX1_settleWithSupplier_44 : decode cX1_settleWithSupplier 44 = .ok (.iload_n 3, 1) := by decide +kernel
theorem dX1_settleWithSupplier_45 : decode cX1_settleWithSupplier 45 = .ok (.iadd, 1) := by decide +kernel
theorem dX1_settleWithSupplier_46 : decode cX1_settleWithSupplier 46 = .ok (.putfield 61, 3) := by decide +kernel
theorem dX1_settleWithSupplier_49 : decode cX1_settleWithSupplier 49 = .ok (.iload_n 2, 1) := by decide +kernel
theorem dX1_settleWithSupplier_50 : decode cX1_settleWithSupplier 50 = .ok (.ifCond .ge 16, 3) := by decide +kernel
theorem dX1_settleWithSupplier_53 : decode cX1_settleWithSupplier 53 = .ok (.aload_n 0, 1) := by decide +kernel
theorem dX1_settleWithSupplier_54 : decode cX1_settleWithSupplier 54 = .ok (.getfield 41, 3) := by decide +kernel
theorem dX1_settleWithSupplier_57 : decode cX1_settleWithSupplier 57 = .ok (.iconst 4, 1) := by decide +kernel
theorem dX1_settleWithSupplier_58 : decode cX1_settleWithSupplier 58 = .ok (.dup2, 1) := by decide +kernel
theorem dX1_settleWithSupplier_59 : decode cX1_settleWithSupplier 59 = .ok (.iaload, 1) := by decide +kernel
theorem dX1_settleWithSupplier_60 : decode cX1_settleWithSupplier 60 = .ok (.iload_n 2, 1) := by decide +kernel
theorem dX1_settleWithSupplier_61 : decode cX1_settleWithSupplier 61 = .ok (.isub, 1) := by decide +kernel
theorem dX1_settleWithSupplier_62 : decode cX1_settleWithSupplier 62 = .ok (.iastore, 1) := by decide +kernel
theorem dX1_settleWithSupplier_63 : decode cX1_settleWithSupplier 63 = .ok (.goto 13, 3) := by decide +kernel
theorem dX1_settleWithSupplier_66 : decode cX1_settleWithSupplier 66 = .ok (.aload_n 0, 1) := by decide +kernel
theorem dX1_settleWithSupplier_67 : decode cX1_settleWithSupplier 67 = .ok (.getfield 41, 3) := by decide +kernel
theorem dX1_settleWithSupplier_70 : decode cX1_settleWithSupplier 70 = .ok (.iconst 5, 1) := by decide +kernel
theorem dX1_settleWithSupplier_71 : decode cX1_settleWithSupplier 71 = .ok (.dup2, 1) := by decide +kernel
theorem dX1_settleWithSupplier_72 : decode cX1_settleWithSupplier 72 = .ok (.iaload, 1) := by decide +kernel
theorem dX1_settleWithSupplier_73 : decode cX1_settleWithSupplier 73 = .ok (.iload_n 2, 1) := by decide +kernel
theorem dX1_settleWithSupplier_74 : decode cX1_settleWithSupplier 74 = .ok (.iadd, 1) := by decide +kernel
theorem dX1_settleWithSupplier_75 : decode cX1_settleWithSupplier 75 = .ok (.iastore, 1) := by decide +kernel
theorem dX1_settleWithSupplier_76 : decode cX1_settleWithSupplier 76 = .ok (.return_, 1) := by decide +kernel
theorem dX1_payPool_0 : decode cX1_payPool 0 = .ok (.aload_n 0, 1) := by decide +kernel
theorem dX1_payPool_1 : decode cX1_payPool 1 = .ok (.getfield 29, 3) := by decide +kernel
theorem dX1_payPool_4 : decode cX1_payPool 4 = .ok (.iload_n 1, 1) := by decide +kernel
theorem dX1_payPool_5 : decode cX1_payPool 5 = .ok (.dup2, 1) := by decide +kernel
theorem dX1_payPool_6 : decode cX1_payPool 6 = .ok (.iaload, 1) := by decide +kernel
theorem dX1_payPool_7 : decode cX1_payPool 7 = .ok (.iload_n 2, 1) := by decide +kernel
theorem dX1_payPool_8 : decode cX1_payPool 8 = .ok (.iadd, 1) := by decide +kernel
theorem dX1_payPool_9 : decode cX1_payPool 9 = .ok (.iastore, 1) := by decide +kernel
theorem dX1_payPool_10 : decode cX1_payPool 10 = .ok (.aload_n 0, 1) := by decide +kernel
theorem dX1_payPool_11 : decode cX1_payPool 11 = .ok (.dup, 1) := by decide +kernel
theorem dX1_payPool_12 : decode cX1_payPool 12 = .ok (.getfield 58, 3) := by decide +kernel
theorem dX1_payPool_15 : decode cX1_payPool 15 = .ok (.iload_n 2, 1) := by decide +kernel
theorem dX1_payPool_16 : decode cX1_payPool 16 = .ok (.iadd, 1) := by decide +kernel
theorem dX1_payPool_17 : decode cX1_payPool 17 = .ok (.putfield 58, 3) := by decide +kernel
theorem dX1_payPool_20 : decode cX1_payPool 20 = .ok (.return_, 1) := by decide +kernel
set_option maxRecDepth 20000 in
theorem ggX1_boundBySet_X1_isInSet : GoodIn wsX1_boundBySet wsX1_isInSet := goodIn_r _ [5] (by decide +kernel) (by decide +kernel)
set_option maxRecDepth 20000 in
theorem gX1_boundBySet_X1_isInSet : GoodIn wsX1_boundBySet (va_wsS RX1 205 yX1_isInSet wsX1_isInSet) := goodIn_app (goodIn_of _ (by decide +kernel)) ggX1_boundBySet_X1_isInSet
set_option maxRecDepth 20000 in
theorem ggX1_boundBySet_X1_sellsToSet : GoodIn wsX1_boundBySet wsX1_sellsToSet := goodIn_r _ [9, 1, 10, 2, 3, 4, 5, 11, 12, 13, 14, 15, 16, 17, 18, 19, 20, 21, 22, 23, 24, 25, 26, 27] (by decide +kernel) (by decide +kernel)
set_option maxRecDepth 20000 in
theorem gX1_boundBySet_X1_sellsToSet : GoodIn wsX1_boundBySet (wsV RX1 208 RX1 yX1_sellsToSet wsX1_sellsToSet) := goodIn_app (goodIn_of _ (by decide +kernel)) ggX1_boundBySet_X1_sellsToSet
theorem dX1_boundBySet_0 : decode cX1_boundBySet 0 = .ok (.iconst 0, 1) := by decide +kernel
theorem dX1_boundBySet_1 : decode cX1_boundBySet 1 = .ok (.istore_n 2, 1) := by decide +kernel
theorem dX1_boundBySet_2 : decode cX1_boundBySet 2 = .ok (.iconst 0, 1) := by decide +kernel
theorem dX1_boundBySet_3 : decode cX1_boundBySet 3 = .ok (.istore_n 3, 1) := by decide +kernel
theorem dX1_boundBySet_4 : decode cX1_boundBySet 4 = .ok (.iload_n 3, 1) := by decide +kernel
theorem dX1_boundBySet_5 : decode cX1_boundBySet 5 = .ok (.bipush 6, 2) := by decide +kernel
theorem dX1_boundBySet_7 : decode cX1_boundBySet 7 = .ok (.if_icmp .ge 62, 3) := by decide +kernel
theorem dX1_boundBySet_10 : decode cX1_boundBySet 10 = .ok (.aload_n 0, 1) := by decide +kernel
theorem dX1_boundBySet_11 : decode cX1_boundBySet 11 = .ok (.getfield 17, 3) := by decide +kernel
theorem dX1_boundBySet_14 : decode cX1_boundBySet 14 = .ok (.iload_n 3, 1) := by decide +kernel
theorem dX1_boundBySet_15 : decode cX1_boundBySet 15 = .ok (.iaload, 1) := by decide +kernel
theorem dX1_boundBySet_16 : decode cX1_boundBySet 16 = .ok (.ifCond .ge 20, 3) := by decide +kernel
theorem dX1_boundBySet_19 : decode cX1_boundBySet 19 = .ok (.iload_n 3, 1) := by decide +kernel
theorem dX1_boundBySet_20 : decode cX1_boundBySet 20 = .ok (.iload_n 1, 1) := by decide +kernel
theorem dX1_boundBySet_21 : decode cX1_boundBySet 21 = .ok (.invokestatic 205, 3) := by decide +kernel
theorem dX1_boundBySet_24 : decode cX1_boundBySet 24 = .ok (.ifCond .ne 12, 3) := by decide +kernel
theorem dX1_boundBySet_27 : decode cX1_boundBySet 27 = .ok (.iload_n 2, 1) := by decide +kernel
theorem dX1_boundBySet_28 : decode cX1_boundBySet 28 = .ok (.aload_n 0, 1) := by decide +kernel
theorem dX1_boundBySet_29 : decode cX1_boundBySet 29 = .ok (.getfield 17, 3) := by decide +kernel
theorem dX1_boundBySet_32 : decode cX1_boundBySet 32 = .ok (.iload_n 3, 1) := by decide +kernel
theorem dX1_boundBySet_33 : decode cX1_boundBySet 33 = .ok (.iaload, 1) := by decide +kernel
theorem dX1_boundBySet_34 : decode cX1_boundBySet 34 = .ok (.isub, 1) := by decide +kernel
theorem dX1_boundBySet_35 : decode cX1_boundBySet 35 = .ok (.istore_n 2, 1) := by decide +kernel
theorem dX1_boundBySet_36 : decode cX1_boundBySet 36 = .ok (.aload_n 0, 1) := by decide +kernel
theorem dX1_boundBySet_37 : decode cX1_boundBySet 37 = .ok (.getfield 17, 3) := by decide +kernel
theorem dX1_boundBySet_40 : decode cX1_boundBySet 40 = .ok (.iload_n 3, 1) := by decide +kernel
theorem dX1_boundBySet_41 : decode cX1_boundBySet 41 = .ok (.iaload, 1) := by decide +kernel
theorem dX1_boundBySet_42 : decode cX1_boundBySet 42 = .ok (.ifCond .le 21, 3) := by decide +kernel
theorem dX1_boundBySet_45 : decode cX1_boundBySet 45 = .ok (.aload_n 0, 1) := by decide +kernel
theorem dX1_boundBySet_46 : decode cX1_boundBySet 46 = .ok (.iload_n 3, 1) := by decide +kernel
theorem dX1_boundBySet_47 : decode cX1_boundBySet 47 = .ok (.iload_n 1, 1) := by decide +kernel
theorem dX1_boundBySet_48 : decode cX1_boundBySet 48 = .ok (.invokevirtual 208, 3) := by decide +kernel
theorem dX1_boundBySet_51 : decode cX1_boundBySet 51 = .ok (.ifCond .eq 12, 3) := by decide +kernel
theorem dX1_boundBySet_54 : decode cX1_boundBySet 54 = .ok (.iload_n 2, 1) := by decide +kernel
theorem dX1_boundBySet_55 : decode cX1_boundBySet 55 = .ok (.aload_n 0, 1) := by decide +kernel
theorem dX1_boundBySet_56 : decode cX1_boundBySet 56 = .ok (.getfield 17, 3) := by decide +kernel
theorem dX1_boundBySet_59 : decode cX1_boundBySet 59 = .ok (.iload_n 3, 1) := by decide +kernel
theorem dX1_boundBySet_60 : decode cX1_boundBySet 60 = .ok (.iaload, 1) := by decide +kernel
theorem dX1_boundBySet_61 : decode cX1_boundBySet 61 = .ok (.iadd, 1) := by decide +kernel
theorem dX1_boundBySet_62 : decode cX1_boundBySet 62 = .ok (.istore_n 2, 1) := by decide +kernel
theorem dX1_boundBySet_63 : decode cX1_boundBySet 63 = .ok (.iinc 3 1, 3) := by decide +kernel
theorem dX1_boundBySet_66 : decode cX1_boundBySet 66 = .ok (.goto (-62), 3) := by decide +kernel
theorem dX1_boundBySet_69 : decode cX1_boundBySet 69 = .ok (.iload_n 2, 1) := by decide +kernel
theorem dX1_boundBySet_70 : decode cX1_boundBySet 70 = .ok (.ireturn, 1) := by decide +kernel
set_option maxRecDepth 20000 in
theorem ggX1_sellsToSet_X1_isInSet : GoodIn wsX1_sellsToSet wsX1_isInSet := goodIn_r _ [6] (by decide +kernel) (by decide +kernel)
set_option maxRecDepth 20000 in
theorem gX1_sellsToSet_X1_isInSet : GoodIn wsX1_sellsToSet (va_wsS RX1 205 yX1_isInSet wsX1_isInSet) := goodIn_app (goodIn_of _ (by decide +kernel)) ggX1_sellsToSet_X1_isInSet
theorem dX1_sellsToSet_0 : decode cX1_sellsToSet 0 = .ok (.iconst 0, 1) := by decide +kernel
theorem dX1_sellsToSet_1 : decode cX1_sellsToSet 1 = .ok (.istore_n 3, 1) := by decide +kernel
theorem dX1_sellsToSet_2 : decode cX1_sellsToSet 2 = .ok (.iload_n 3, 1) := by decide +kernel
theorem dX1_sellsToSet_3 : decode cX1_sellsToSet 3 = .ok (.bipush 6, 2) := by decide +kernel
theorem dX1_sellsToSet_5 : decode cX1_sellsToSet 5 = .ok (.if_icmp .ge 43, 3) := by decide +kernel
theorem dX1_sellsToSet_8 : decode cX1_sellsToSet 8 = .ok (.aload_n 0, 1) := by decide +kernel
theorem dX1_sellsToSet_9 : decode cX1_sellsToSet 9 = .ok (.getfield 17, 3) := by decide +kernel
theorem dX1_sellsToSet_12 : decode cX1_sellsToSet 12 = .ok (.iload_n 3, 1) := by decide +kernel
theorem dX1_sellsToSet_13 : decode cX1_sellsToSet 13 = .ok (.iaload, 1) := by decide +kernel
theorem dX1_sellsToSet_14 : decode cX1_sellsToSet 14 = .ok (.ifCond .ge 28, 3) := by decide +kernel
theorem dX1_sellsToSet_17 : decode cX1_sellsToSet 17 = .ok (.iload_n 3, 1) := by decide +kernel
theorem dX1_sellsToSet_18 : decode cX1_sellsToSet 18 = .ok (.iload_n 2, 1) := by decide +kernel
theorem dX1_sellsToSet_19 : decode cX1_sellsToSet 19 = .ok (.invokestatic 205, 3) := by decide +kernel
theorem dX1_sellsToSet_22 : decode cX1_sellsToSet 22 = .ok (.ifCond .eq 20, 3) := by decide +kernel
theorem dX1_sellsToSet_25 : decode cX1_sellsToSet 25 = .ok (.aload_n 0, 1) := by decide +kernel
theorem dX1_sellsToSet_26 : decode cX1_sellsToSet 26 = .ok (.getfield 20, 3) := by decide +kernel
theorem dX1_sellsToSet_29 : decode cX1_sellsToSet 29 = .ok (.iload_n 1, 1) := by decide +kernel
theorem dX1_sellsToSet_30 : decode cX1_sellsToSet 30 = .ok (.iaload, 1) := by decide +kernel
theorem dX1_sellsToSet_31 : decode cX1_sellsToSet 31 = .ok (.aload_n 0, 1) := by decide +kernel
theorem dX1_sellsToSet_32 : decode cX1_sellsToSet 32 = .ok (.getfield 20, 3) := by decide +kernel
theorem dX1_sellsToSet_35 : decode cX1_sellsToSet 35 = .ok (.iload_n 3, 1) := by decide +kernel
theorem dX1_sellsToSet_36 : decode cX1_sellsToSet 36 = .ok (.iaload, 1) := by decide +kernel
theorem dX1_sellsToSet_37 : decode cX1_sellsToSet 37 = .ok (.if_icmp .gt 5, 3) := by decide +kernel
theorem dX1_sellsToSet_40 : decode cX1_sellsToSet 40 = .ok (.iconst 1, 1) := by decide +kernel
theorem dX1_sellsToSet_41 : decode cX1_sellsToSet 41 = .ok (.ireturn, 1) := by decide +kernel
theorem dX1_sellsToSet_42 : decode cX1_sellsToSet 42 = .ok (.iinc 3 1, 3) := by decide +kernel
theorem dX1_sellsToSet_45 : decode cX1_sellsToSet 45 = .ok (.goto (-43), 3) := by decide +kernel
theorem dX1_sellsToSet_48 : decode cX1_sellsToSet 48 = .ok (.iconst 0, 1) := by decide +kernel
theorem dX1_sellsToSet_49 : decode cX1_sellsToSet 49 = .ok (.ireturn, 1) := by decide +kernel
theorem dX1_isInSet_0 : decode cX1_isInSet 0 = .ok (.iload_n 1, 1) := by decide +kernel
theorem dX1_isInSet_1 : decode cX1_isInSet 1 = .ok (.iload_n 0, 1) := by decide +kernel
theorem dX1_isInSet_2 : decode cX1_isInSet 2 = .ok (.ishr, 1) := by decide +kernel
theorem dX1_isInSet_3 : decode cX1_isInSet 3 = .ok (.iconst 1, 1) := by decide +kernel
theorem dX1_isInSet_4 : decode cX1_isInSet 4 = .ok (.iand, 1) := by decide +kernel
theorem dX1_isInSet_5 : decode cX1_isInSet 5 = .ok (.ifCond .eq 7, 3) := by decide +kernel
theorem dX1_isInSet_8 : decode cX1_isInSet 8 = .ok (.iconst 1, 1) := by decide +kernel
theorem dX1_isInSet_9 : decode cX1_isInSet 9 = .ok (.goto 4, 3) := by decide +kernel
theorem dX1_isInSet_12 : decode cX1_isInSet 12 = .ok (.iconst 0, 1) := by decide +kernel
theorem dX1_isInSet_13 : decode cX1_isInSet 13 = .ok (.ireturn, 1) := by decide +kernel
end
section
theorem dX2_init_0 : decode cX2_init 0 = .ok (.aload_n 0, 1) := by decide +kernel
theorem dX2_init_1 : decode cX2_init 1 = .ok (.invokespecial 1, 3) := by decide +kernel
theorem dX2_init_4 : decode cX2_init 4 = .ok (.aload_n 0, 1) := by decide +kernel
theorem dX2_init_5 : decode cX2_init 5 = .ok (.bipush 6, 2) := by decide +kernel
theorem dX2_init_7 : decode cX2_init 7 = .ok (.newarray .int, 2) := by decide +kernel
theorem dX2_init_9 : decode cX2_init 9 = .ok (.putfield 7, 3) := by decide +kernel
theorem dX2_init_12 : decode cX2_init 12 = .ok (.aload_n 0, 1) := by decide +kernel
theorem dX2_init_13 : decode cX2_init 13 = .ok (.bipush 6, 2) := by decide +kernel
theorem dX2_init_15 : decode cX2_init 15 = .ok (.newarray .int, 2) := by decide +kernel
theorem dX2_init_17 : decode cX2_init 17 = .ok (.putfield 13, 3) := by decide +kernel
theorem dX2_init_20 : decode cX2_init 20 = .ok (.aload_n 0, 1) := by decide +kernel
theorem dX2_init_21 : decode cX2_init 21 = .ok (.bipush 6, 2) := by decide +kernel
theorem dX2_init_23 : decode cX2_init 23 = .ok (.newarray .int, 2) := by decide +kernel
theorem dX2_init_25 : decode cX2_init 25 = .ok (.putfield 16, 3) := by decide +kernel
theorem dX2_init_28 : decode cX2_init 28 = .ok (.aload_n 0, 1) := by decide +kernel
theorem dX2_init_29 : decode cX2_init 29 = .ok (.iconst 5, 1) := by decide +kernel
theorem dX2_init_30 : decode cX2_init 30 = .ok (.newarray .int, 2) := by decide +kernel
theorem dX2_init_32 : decode cX2_init 32 = .ok (.putfield 19, 3) := by decide +kernel
theorem dX2_init_35 : decode cX2_init 35 = .ok (.aload_n 0, 1) := by decide +kernel
theorem dX2_init_36 : decode cX2_init 36 = .ok (.bipush 6, 2) := by decide +kernel
theorem dX2_init_38 : decode cX2_init 38 = .ok (.newarray .int, 2) := by decide +kernel
theorem dX2_init_40 : decode cX2_init 40 = .ok (.putfield 22, 3) := by decide +kernel
theorem dX2_init_43 : decode cX2_init 43 = .ok (.aload_n 0, 1) := by decide +kernel
theorem dX2_init_44 : decode cX2_init 44 = .ok (.bipush 6, 2) := by decide +kernel
theorem dX2_init_46 : decode cX2_init 46 = .ok (.newarray .int, 2) := by decide +kernel
theorem dX2_init_48 : decode cX2_init 48 = .ok (.putfield 25, 3) := by decide +kernel
theorem dX2_init_51 : decode cX2_init 51 = .ok (.aload_n 0, 1) := by decide +kernel
theorem dX2_init_52 : decode cX2_init 52 = .ok (.bipush 6, 2) := by decide +kernel
theorem dX2_init_54 : decode cX2_init 54 = .ok (.newarray .int, 2) := by decide +kernel
theorem dX2_init_56 : decode cX2_init 56 = .ok (.putfield 28, 3) := by decide +kernel
theorem dX2_init_59 : decode cX2_init 59 = .ok (.aload_n 0, 1) := by decide +kernel
theorem dX2_init_60 : decode cX2_init 60 = .ok (.bipush 6, 2) := by decide +kernel
theorem dX2_init_62 : decode cX2_init 62 = .ok (.newarray .boolean, 2) := by decide +kernel
theorem dX2_init_64 : decode cX2_init 64 = .ok (.putfield 31, 3) := by decide +kernel
theorem dX2_init_67 : decode cX2_init 67 = .ok (.aload_n 0, 1) := by decide +kernel
theorem dX2_init_68 : decode cX2_init 68 = .ok (.bipush 30, 2) := by decide +kernel
theorem dX2_init_70 : decode cX2_init 70 = .ok (.putfield 35, 3) := by decide +kernel
theorem dX2_init_73 : decode cX2_init 73 = .ok (.aload_n 0, 1) := by decide +kernel
theorem dX2_init_74 : decode cX2_init 74 = .ok (.iconst 4, 1) := by decide +kernel
theorem dX2_init_75 : decode cX2_init 75 = .ok (.putfield 39, 3) := by decide +kernel
theorem dX2_init_78 : decode cX2_init 78 = .ok (.aload_n 0, 1) := by decide +kernel
theorem dX2_init_79 : decode cX2_init 79 = .ok (.bipush 36, 2) := by decide +kernel
theorem dX2_init_81 : decode cX2_init 81 = .ok (.newarray .int, 2) := by decide +kernel
theorem dX2_init_83 : decode cX2_init 83 = .ok (.putfield 42, 3) := by decide +kernel
theorem dX2_init_86 : decode cX2_init 86 = .ok (.aload_n 0, 1) := by decide +kernel
theorem dX2_init_87 : decode cX2_init 87 = .ok (.bipush 36, 2) := by decide +kernel
theorem dX2_init_89 : decode cX2_init 89 = .ok (.newarray .int, 2) := by decide +kernel
theorem dX2_init_91 : decode cX2_init 91 = .ok (.putfield 45, 3) := by decide +kernel
theorem dX2_init_94 : decode cX2_init 94 = .ok (.aload_n 0, 1) := by decide +kernel
theorem dX2_init_95 : decode cX2_init 95 = .ok (.bipush 36, 2) := by decide +kernel
theorem dX2_init_97 : decode cX2_init 97 = .ok (.newarray .int, 2) := by decide +kernel
theorem dX2_init_99 : decode cX2_init 99 = .ok (.putfield 48, 3) := by decide +kernel
theorem dX2_init_102 : decode cX2_init 102 = .ok (.aload_n 0, 1) := by decide +kernel
theorem dX2_init_103 : decode cX2_init 103 = .ok (.bipush 36, 2) := by decide +kernel
theorem dX2_init_105 : decode cX2_init 105 = .ok (.newarray .int, 2) := by decide +kernel
theorem dX2_init_107 : decode cX2_init 107 = .ok (.putfield 51, 3) := by decide +kernel
theorem dX2_init_110 : decode cX2_init 110 = .ok (.aload_n 0, 1) := by decide +kernel
theorem dX2_init_111 : decode cX2_init 111 = .ok (.bipush 6, 2) := by decide +kernel
theorem dX2_init_113 : decode cX2_init 113 = .ok (.newarray .int, 2) := by decide +kernel
theorem dX2_init_115 : decode cX2_init 115 = .ok (.putfield 54, 3) := by decide +kernel
theorem dX2_init_118 : decode cX2_init 118 = .ok (.aload_n 0, 1) := by decide +kernel
theorem dX2_init_119 : decode cX2_init 119 = .ok (.iconst 5, 1) := by decide +kernel
theorem dX2_init_120 : decode cX2_init 120 = .ok (.newarray .int, 2) := by decide +kernel
theorem dX2_init_122 : decode cX2_init 122 = .ok (.putfield 57, 3) := by decide +kernel
theorem dX2_init_125 : decode cX2_init 125 = .ok (.aload_n 0, 1) := by decide +kernel
theorem dX2_init_126 : decode cX2_init 126 = .ok (.bipush 6, 2) := by decide +kernel
theorem dX2_init_128 : decode cX2_init 128 = .ok (.newarray .int, 2) := by decide +kernel
theorem dX2_init_130 : decode cX2_init 130 = .ok (.putfield 60, 3) := by decide +kernel
theorem dX2_init_133 : decode cX2_init 133 = .ok (.iconst 0, 1) := by decide +kernel
theorem dX2_init_134 : decode cX2_init 134 = .ok (.istore_n 1, 1) := by decide +kernel
theorem dX2_init_135 : decode cX2_init 135 = .ok (.iload_n 1, 1) := by decide +kernel
theorem dX2_init_136 : decode cX2_init 136 = .ok (.bipush 6, 2) := by decide +kernel
theorem dX2_init_138 : decode cX2_init 138 = .ok (.if_icmp .ge 25, 3) := by decide +kernel
theorem dX2_init_141 : decode cX2_init 141 = .ok (.aload_n 0, 1) := by decide +kernel
theorem dX2_init_142 : decode cX2_init 142 = .ok (.getfield 16, 3) := by decide +kernel
theorem dX2_init_145 : decode cX2_init 145 = .ok (.iload_n 1, 1) := by decide +kernel
theorem dX2_init_146 : decode cX2_init 146 = .ok (.bipush 10, 2) := by decide +kernel
theorem dX2_init_148 : decode cX2_init 148 = .ok (.iastore, 1) := by decide +kernel
theorem dX2_init_149 : decode cX2_init 149 = .ok (.aload_n 0, 1) := by decide +kernel
theorem dX2_init_150 : decode cX2_init 150 = .ok (.getfield 22, 3) := by decide +kernel
theorem dX2_init_153 : decode cX2_init 153 = .ok (.iload_n 1, 1) := by decide +kernel
theorem dX2_init_154 : decode cX2_init 154 = .ok (.bipush 20, 2) := by decide +kernel
theorem dX2_init_156 : decode cX2_init 156 = .ok (.iastore, 1) := by decide +kernel
theorem dX2_init_157 : decode cX2_init 157 = .ok (.iinc 1 1, 3) := by decide +kernel
theorem dX2_init_160 : decode cX2_init 160 = .ok (.goto (-25), 3) := by decide +kernel
theorem dX2_init_163 : decode cX2_init 163 = .ok (.iconst 0, 1) := by decide +kernel
theorem dX2_init_164 : decode cX2_init 164 = .ok (.istore_n 1, 1) := by decide +kernel
theorem dX2_init_165 : decode cX2_init 165 = .ok (.iload_n 1, 1) := by decide +kernel
theorem dX2_init_166 : decode cX2_init 166 = .ok (.iconst 5, 1) := by decide +kernel
theorem dX2_init_167 : decode cX2_init 167 = .ok (.if_icmp .ge 17, 3) := by decide +kernel
theorem dX2_init_170 : decode cX2_init 170 = .ok (.aload_n 0, 1) := by decide +kernel
theorem dX2_init_171 : decode cX2_init 171 = .ok (.getfield 19, 3) := by decide +kernel
theorem dX2_init_174 : decode cX2_init 174 = .ok (.iload_n 1, 1) := by decide +kernel
theorem dX2_init_175 : decode cX2_init 175 = .ok (.bipush 100, 2) := by decide +kernel
theorem dX2_init_177 : decode cX2_init 177 = .ok (.iastore, 1) := by decide +kernel
theorem dX2_init_178 : decode cX2_init 178 = .ok (.iinc 1 1, 3) := by decide +kernel
theorem dX2_init_181 : decode cX2_init 181 = .ok (.goto (-16), 3) := by decide +kernel
theorem dX2_init_184 : decode cX2_init 184 = .ok (.return_, 1) := by decide +kernel
theorem dX2_thrown_0 : decode cX2_thrown 0 = .ok (.aload_n 0, 1) := by decide +kernel
theorem dX2_thrown_1 : decode cX2_thrown 1 = .ok (.getfield 63, 3) := by decide +kernel
theorem dX2_thrown_4 : decode cX2_thrown 4 = .ok (.ireturn, 1) := by decide +kernel
theorem dX2_in_0 : decode cX2_in 0 = .ok (.iload_n 0, 1) := by decide +kernel
theorem dX2_in_1 : decode cX2_in 1 = .ok (.iload_n 1, 1) := by decide +kernel
theorem dX2_in_2 : decode cX2_in 2 = .ok (.if_icmp .lt 12, 3) := by decide +kernel
theorem dX2_in_5 : decode cX2_in 5 = .ok (.iload_n 0, 1) := by decide +kernel
theorem dX2_in_6 : decode cX2_in 6 = .ok (.iload_n 2, 1) := by decide +kernel
theorem dX2_in_7 : decode cX2_in 7 = .ok (.if_icmp .gt 7, 3) := by decide +kernel
theorem dX2_in_10 : decode cX2_in 10 = .ok (.iconst 1, 1) := by decide +kernel
theorem dX2_in_11 : decode cX2_in 11 = .ok (.goto 4, 3) := by decide +kernel
theorem dX2_in_14 : decode cX2_in 14 = .ok (.iconst 0, 1) := by decide +kernel
theorem dX2_in_15 : decode cX2_in 15 = .ok (.ireturn, 1) := by decide +kernel
theorem dX2_goes_0 : decode cX2_goes 0 = .ok (.aload_n 0, 1) := by decide +kernel
theorem dX2_goes_1 : decode cX2_goes 1 = .ok (.iload_n 1, 1) := by decide +kernel
theorem dX2_goes_2 : decode cX2_goes 2 = .ok (.ifCond .ne 7, 3) := by decide +kernel
theorem dX2_goes_5 : decode cX2_goes 5 = .ok (.iconst 1, 1) := by decide +kernel
theorem dX2_goes_6 : decode cX2_goes 6 = .ok (.goto 20, 3) := by decide +kernel
theorem dX2_goes_9 : decode cX2_goes 9 = .ok (.iload_n 2, 1) := by decide +kernel
theorem dX2_goes_10 : decode cX2_goes 10 = .ok (.ifCond .ne 7, 3) := by decide +kernel
theorem dX2_goes_13 : decode cX2_goes 13 = .ok (.iconst 2, 1) := by decide +kernel
theorem dX2_goes_14 : decode cX2_goes 14 = .ok (.goto 12, 3) := by decide +kernel
theorem dX2_goes_17 : decode cX2_goes 17 = .ok (.iload_n 3, 1) := by decide +kernel
theorem dX2_goes_18 : decode cX2_goes 18 = .ok (.ifCond .eq 7, 3) := by decide +kernel
theorem dX2_goes_21 : decode cX2_goes 21 = .ok (.iconst 0, 1) := by decide +kernel
theorem dX2_goes_22 : decode cX2_goes 22 = .ok (.goto 4, 3) := by decide +kernel
theorem dX2_goes_25 : decode cX2_goes 25 = .ok (.iconst 3, 1) := by decide +kernel
theorem dX2_goes_26 : decode cX2_goes 26 = .ok (.putfield 63, 3) := by decide +kernel
theorem dX2_goes_29 : decode cX2_goes 29 = .ok (.aload_n 0, 1) := by decide +kernel
theorem dX2_goes_30 : decode cX2_goes 30 = .ok (.getfield 63, 3) := by decide +kernel
theorem dX2_goes_33 : decode cX2_goes 33 = .ok (.ifCond .ne 7, 3) := by decide +kernel
theorem dX2_goes_36 : decode cX2_goes 36 = .ok (.iconst 1, 1) := by decide +kernel
theorem dX2_goes_37 : decode cX2_goes 37 = .ok (.goto 4, 3) := by decide +kernel
theorem dX2_goes_40 : decode cX2_goes 40 = .ok (.iconst 0, 1) := by decide +kernel
theorem dX2_goes_41 : decode cX2_goes 41 = .ok (.ireturn, 1) := by decide +kernel
set_option maxRecDepth 20000 in
theorem ggX2_isHouse_X2_in : GoodIn wsX2_isHouse wsX2_in := goodIn_r _ [4] (by decide +kernel) (by decide +kernel)
set_option maxRecDepth 20000 in
theorem gX2_isHouse_X2_in : GoodIn wsX2_isHouse (va_wsS RX2 66 yX2_in wsX2_in) := goodIn_app (goodIn_of _ (by decide +kernel)) ggX2_isHouse_X2_in
theorem dX2_isHouse_0 : decode cX2_isHouse 0 = .ok (.iload_n 0, 1) := by decide +kernel
theorem dX2_isHouse_1 : decode cX2_isHouse 1 = .ok (.iconst 0, 1) := by decide +kernel
theorem dX2_isHouse_2 : decode cX2_isHouse 2 = .ok (.iconst 5, 1) := by decide +kernel
theorem dX2_isHouse_3 : decode cX2_isHouse 3 = .ok (.invokestatic 66, 3) := by decide +kernel
theorem dX2_isHouse_6 : decode cX2_isHouse 6 = .ok (.ireturn, 1) := by decide +kernel
set_option maxRecDepth 20000 in
theorem ggX2_belongs_X2_isHouse : GoodIn wsX2_belongs wsX2_isHouse := goodIn_r _ [5, 6, 7, 4, 8] (by decide +kernel) (by decide +kernel)
set_option maxRecDepth 20000 in
theorem gX2_belongs_X2_isHouse : GoodIn wsX2_belongs (va_wsS RX2 70 yX2_isHouse wsX2_isHouse) := goodIn_app (goodIn_of _ (by decide +kernel)) ggX2_belongs_X2_isHouse
theorem dX2_belongs_0 : decode cX2_belongs 0 = .ok (.iload_n 1, 1) := by decide +kernel
theorem dX2_belongs_1 : decode cX2_belongs 1 = .ok (.invokestatic 70, 3) := by decide +kernel
theorem dX2_belongs_4 : decode cX2_belongs 4 = .ok (.ifCond .eq 16, 3) := by decide +kernel
theorem dX2_belongs_7 : decode cX2_belongs 7 = .ok (.aload_n 0, 1) := by decide +kernel
theorem dX2_belongs_8 : decode cX2_belongs 8 = .ok (.getfield 31, 3) := by decide +kernel
theorem dX2_belongs_11 : decode cX2_belongs 11 = .ok (.iload_n 1, 1) := by decide +kernel
theorem dX2_belongs_12 : decode cX2_belongs 12 = .ok (.baload, 1) := by decide +kernel
theorem dX2_belongs_13 : decode cX2_belongs 13 = .ok (.ifCond .ne 7, 3) := by decide +kernel
theorem dX2_belongs_16 : decode cX2_belongs 16 = .ok (.iconst 1, 1) := by decide +kernel
theorem dX2_belongs_17 : decode cX2_belongs 17 = .ok (.goto 4, 3) := by decide +kernel
theorem dX2_belongs_20 : decode cX2_belongs 20 = .ok (.iconst 0, 1) := by decide +kernel
theorem dX2_belongs_21 : decode cX2_belongs 21 = .ok (.ireturn, 1) := by decide +kernel
theorem dX2_lesser_0 : decode cX2_lesser 0 = .ok (.iload_n 0, 1) := by decide +kernel
theorem dX2_lesser_1 : decode cX2_lesser 1 = .ok (.iload_n 1, 1) := by decide +kernel
theorem dX2_lesser_2 : decode cX2_lesser 2 = .ok (.if_icmp .ge 7, 3) := by decide +kernel
theorem dX2_lesser_5 : decode cX2_lesser 5 = .ok (.iload_n 0, 1) := by decide +kernel
theorem dX2_lesser_6 : decode cX2_lesser 6 = .ok (.goto 4, 3) := by decide +kernel
theorem dX2_lesser_9 : decode cX2_lesser 9 = .ok (.iload_n 1, 1) := by decide +kernel
theorem dX2_lesser_10 : decode cX2_lesser 10 = .ok (.ireturn, 1) := by decide +kernel
theorem dX2_size_0 : decode cX2_size 0 = .ok (.iload_n 0, 1) := by decide +kernel
theorem dX2_size_1 : decode cX2_size 1 = .ok (.ifCond .ge 8, 3) := by decide +kernel
theorem dX2_size_4 : decode cX2_size 4 = .ok (.iload_n 0, 1) := by decide +kernel
theorem dX2_size_5 : decode cX2_size 5 = .ok (.ineg, 1) := by decide +kernel
theorem dX2_size_6 : decode cX2_size 6 = .ok (.goto 4, 3) := by decide +kernel
theorem dX2_size_9 : decode cX2_size 9 = .ok (.iload_n 0, 1) := by decide +kernel
theorem dX2_size_10 : decode cX2_size 10 = .ok (.ireturn, 1) := by decide +kernel
set_option maxRecDepth 20000 in
theorem ggX2_forecast_X2_isHouse : GoodIn wsX2_forecast wsX2_isHouse := goodIn_r _ [5, 6, 7, 4, 8] (by decide +kernel) (by decide +kernel)
set_option maxRecDepth 20000 in
theorem gX2_forecast_X2_isHouse : GoodIn wsX2_forecast (va_wsS RX2 70 yX2_isHouse wsX2_isHouse) := goodIn_app (goodIn_of _ (by decide +kernel)) ggX2_forecast_X2_isHouse
set_option maxRecDepth 20000 in
theorem ggX2_forecast_X2_in : GoodIn wsX2_forecast wsX2_in := goodIn_r _ [8] (by decide +kernel) (by decide +kernel)
set_option maxRecDepth 20000 in
theorem gX2_forecast_X2_in : GoodIn wsX2_forecast (va_wsS RX2 66 yX2_in wsX2_in) := goodIn_app (goodIn_of _ (by decide +kernel)) ggX2_forecast_X2_in
set_option maxRecDepth 20000 in
theorem ggX2_forecast_X2_belongs : GoodIn wsX2_forecast wsX2_belongs := goodIn_r _ [12, 13, 2, 3, 4, 5, 6, 7, 8, 19, 20, 21, 22, 23, 24, 25, 26, 27, 28, 29, 30, 31, 32, 33, 34, 35, 36, 37, 38, 39, 40] (by decide +kernel) (by decide +kernel)
set_option maxRecDepth 20000 in
theorem gX2_forecast_X2_belongs : GoodIn wsX2_forecast (wsV RX2 74 RX2 yX2_belongs wsX2_belongs) := goodIn_app (goodIn_of _ (by decide +kernel)) ggX2_forecast_X2_belongs
set_option maxRecDepth 20000 in
theorem ggX2_forecast_X2_goes : GoodIn wsX2_forecast wsX2_goes := goodIn_r _ [17, 18, 19, 20, 21, 22, 23, 24, 25, 26, 27, 28, 29, 30, 31, 32, 33, 34, 35, 36, 37, 38, 39, 40] (by decide +kernel) (by decide +kernel)
set_option maxRecDepth 20000 in
theorem gX2_forecast_X2_goes : GoodIn wsX2_forecast (wsV RX2 77 RX2 yX2_goes wsX2_goes) := goodIn_app (goodIn_of _ (by decide +kernel)) ggX2_forecast_X2_goes
theorem dX2_forecast_0 : decode cX2_forecast 0 = .ok (.aload_n 0, 1) := by decide +kernel
theorem dX2_forecast_1 : decode cX2_forecast 1 = .ok (.iload_n 1, 1) := by decide +kernel
theorem dX2_forecast_2 : decode cX2_forecast 2 = .ok (.invokestatic 70, 3) := by decide +kernel
theorem dX2_forecast_5 : decode cX2_forecast 5 = .ok (.iload_n 2, 1) := by decide +kernel
theorem dX2_forecast_6 : decode cX2_forecast 6 = .ok (.bipush (-50), 2) := by decide +kernel
theorem dX2_forecast_8 : decode cX2_forecast 8 = .ok (.bipush 50, 2) := by decide +kernel
theorem dX2_forecast_10 : decode cX2_forecast 10 = .ok (.invokestatic 66, 3) := by decide +kernel
theorem dX2_forecast_13 : decode cX2_forecast 13 = .ok (.aload_n 0, 1) := by decide +kernel
theorem dX2_forecast_14 : decode cX2_forecast 14 = .ok (.iload_n 1, 1) := by decide +kernel
theorem dX2_forecast_15 : decode cX2_forecast 15 = .ok (.invokevirtual 74, 3) := by decide +kernel
theorem dX2_forecast_18 : decode cX2_forecast 18 = .ok (.invokevirtual 77, 3) := by decide +kernel
theorem dX2_forecast_21 : decode cX2_forecast 21 = .ok (.ifCond .ne 5, 3) := by decide +kernel
theorem dX2_forecast_24 : decode cX2_forecast 24 = .ok (.iconst 0, 1) := by decide +kernel
theorem dX2_forecast_25 : decode cX2_forecast 25 = .ok (.ireturn, 1) := by decide +kernel
theorem dX2_forecast_26 : decode cX2_forecast 26 = .ok (.aload_n 0, 1) := by decide +kernel
theorem dX2_forecast_27 : decode cX2_forecast 27 = .ok (.getfield 7, 3) := by decide +kernel
theorem dX2_forecast_30 : decode cX2_forecast 30 = .ok (.iload_n 1, 1) := by decide +kernel
theorem dX2_forecast_31 : decode cX2_forecast 31 = .ok (.iaload, 1) := by decide +kernel
theorem dX2_forecast_32 : decode cX2_forecast 32 = .ok (.istore_n 3, 1) := by decide +kernel
theorem dX2_forecast_33 : decode cX2_forecast 33 = .ok (.aload_n 0, 1) := by decide +kernel
theorem dX2_forecast_34 : decode cX2_forecast 34 = .ok (.getfield 7, 3) := by decide +kernel
theorem dX2_forecast_37 : decode cX2_forecast 37 = .ok (.iload_n 1, 1) := by decide +kernel
theorem dX2_forecast_38 : decode cX2_forecast 38 = .ok (.iload_n 2, 1) := by decide +kernel
theorem dX2_forecast_39 : decode cX2_forecast 39 = .ok (.iastore, 1) := by decide +kernel
theorem dX2_forecast_40 : decode cX2_forecast 40 = .ok (.iload_n 3, 1) := by decide +kernel
theorem dX2_forecast_41 : decode cX2_forecast 41 = .ok (.ireturn, 1) := by decide +kernel
set_option maxRecDepth 20000 in
theorem ggX2_meter_X2_isHouse : GoodIn wsX2_meter wsX2_isHouse := goodIn_r _ [5, 6, 7, 4, 8] (by decide +kernel) (by decide +kernel)
set_option maxRecDepth 20000 in
theorem gX2_meter_X2_isHouse : GoodIn wsX2_meter (va_wsS RX2 70 yX2_isHouse wsX2_isHouse) := goodIn_app (goodIn_of _ (by decide +kernel)) ggX2_meter_X2_isHouse
set_option maxRecDepth 20000 in
theorem ggX2_meter_X2_in : GoodIn wsX2_meter wsX2_in := goodIn_r _ [8] (by decide +kernel) (by decide +kernel)
set_option maxRecDepth 20000 in
theorem gX2_meter_X2_in : GoodIn wsX2_meter (va_wsS RX2 66 yX2_in wsX2_in) := goodIn_app (goodIn_of _ (by decide +kernel)) ggX2_meter_X2_in
set_option maxRecDepth 20000 in
theorem ggX2_meter_X2_belongs : GoodIn wsX2_meter wsX2_belongs := goodIn_r _ [12, 13, 2, 3, 4, 5, 6, 7, 8, 19, 20, 21, 22, 23, 24, 25, 26, 27, 28, 29, 30, 31, 32, 33, 34, 35, 36, 37, 38, 39, 40] (by decide +kernel) (by decide +kernel)
set_option maxRecDepth 20000 in
theorem gX2_meter_X2_belongs : GoodIn wsX2_meter (wsV RX2 74 RX2 yX2_belongs wsX2_belongs) := goodIn_app (goodIn_of _ (by decide +kernel)) ggX2_meter_X2_belongs
set_option maxRecDepth 20000 in
theorem ggX2_meter_X2_goes : GoodIn wsX2_meter wsX2_goes := goodIn_r _ [17, 18, 19, 20, 21, 22, 23, 24, 25, 26, 27, 28, 29, 30, 31, 32, 33, 34, 35, 36, 37, 38, 39, 40] (by decide +kernel) (by decide +kernel)
set_option maxRecDepth 20000 in
theorem gX2_meter_X2_goes : GoodIn wsX2_meter (wsV RX2 77 RX2 yX2_goes wsX2_goes) := goodIn_app (goodIn_of _ (by decide +kernel)) ggX2_meter_X2_goes
theorem dX2_meter_0 : decode cX2_meter 0 = .ok (.aload_n 0, 1) := by decide +kernel
theorem dX2_meter_1 : decode cX2_meter 1 = .ok (.iload_n 1, 1) := by decide +kernel
theorem dX2_meter_2 : decode cX2_meter 2 = .ok (.invokestatic 70, 3) := by decide +kernel
theorem dX2_meter_5 : decode cX2_meter 5 = .ok (.iload_n 2, 1) := by decide +kernel
theorem dX2_meter_6 : decode cX2_meter 6 = .ok (.bipush (-50), 2) := by decide +kernel
theorem dX2_meter_8 : decode cX2_meter 8 = .ok (.bipush 50, 2) := by decide +kernel
theorem dX2_meter_10 : decode cX2_meter 10 = .ok (.invokestatic 66, 3) := by decide +kernel
theorem dX2_meter_13 : decode cX2_meter 13 = .ok (.aload_n 0, 1) := by decide +kernel
theorem dX2_meter_14 : decode cX2_meter 14 = .ok (.iload_n 1, 1) := by decide +kernel
theorem dX2_meter_15 : decode cX2_meter 15 = .ok (.invokevirtual 74, 3) := by decide +kernel
theorem dX2_meter_18 : decode cX2_meter 18 = .ok (.invokevirtual 77, 3) := by decide +kernel
theorem dX2_meter_21 : decode cX2_meter 21 = .ok (.ifCond .ne 5, 3) := by decide +kernel
theorem dX2_meter_24 : decode cX2_meter 24 = .ok (.iconst 0, 1) := by decide +kernel
theorem dX2_meter_25 : decode cX2_meter 25 = .ok (.ireturn, 1) := by decide +kernel
theorem dX2_meter_26 : decode cX2_meter 26 = .ok (.aload_n 0, 1) := by decide +kernel
theorem dX2_meter_27 : decode cX2_meter 27 = .ok (.getfield 13, 3) := by decide +kernel
theorem dX2_meter_30 : decode cX2_meter 30 = .ok (.iload_n 1, 1) := by decide +kernel
theorem dX2_meter_31 : decode cX2_meter 31 = .ok (.iaload, 1) := by decide +kernel
theorem dX2_meter_32 : decode cX2_meter 32 = .ok (.istore_n 3, 1) := by decide +kernel
theorem dX2_meter_33 : decode cX2_meter 33 = .ok (.aload_n 0, 1) := by decide +kernel
theorem dX2_meter_34 : decode cX2_meter 34 = .ok (.getfield 13, 3) := by decide +kernel
theorem dX2_meter_37 : decode cX2_meter 37 = .ok (.iload_n 1, 1) := by decide +kernel
theorem dX2_meter_38 : decode cX2_meter 38 = .ok (.iload_n 2, 1) := by decide +kernel
theorem dX2_meter_39 : decode cX2_meter 39 = .ok (.iastore, 1) := by decide +kernel
theorem dX2_meter_40 : decode cX2_meter 40 = .ok (.iload_n 3, 1) := by decide +kernel
theorem dX2_meter_41 : decode cX2_meter 41 = .ok (.ireturn, 1) := by decide +kernel
set_option maxRecDepth 20000 in
theorem ggX2_setPrice_X2_isHouse : GoodIn wsX2_setPrice wsX2_isHouse := goodIn_r _ [5, 6, 7, 4, 8] (by decide +kernel) (by decide +kernel)
set_option maxRecDepth 20000 in
theorem gX2_setPrice_X2_isHouse : GoodIn wsX2_setPrice (va_wsS RX2 70 yX2_isHouse wsX2_isHouse) := goodIn_app (goodIn_of _ (by decide +kernel)) ggX2_setPrice_X2_isHouse
set_option maxRecDepth 20000 in
theorem ggX2_setPrice_X2_in : GoodIn wsX2_setPrice wsX2_in := goodIn_r _ [8] (by decide +kernel) (by decide +kernel)
set_option maxRecDepth 20000 in
theorem gX2_setPrice_X2_in : GoodIn wsX2_setPrice (va_wsS RX2 66 yX2_in wsX2_in) := goodIn_app (goodIn_of _ (by decide +kernel)) ggX2_setPrice_X2_in
set_option maxRecDepth 20000 in
theorem ggX2_setPrice_X2_goes : GoodIn wsX2_setPrice wsX2_goes := goodIn_r _ [12, 13, 14, 15, 16, 17, 18, 19, 20, 21, 22, 23, 24, 25, 26, 27, 28, 29, 30, 31, 32, 33, 34, 35] (by decide +kernel) (by decide +kernel)
set_option maxRecDepth 20000 in
theorem gX2_setPrice_X2_goes : GoodIn wsX2_setPrice (wsV RX2 77 RX2 yX2_goes wsX2_goes) := goodIn_app (goodIn_of _ (by decide +kernel)) ggX2_setPrice_X2_goes
theorem dX2_setPrice_0 : decode cX2_setPrice 0 = .ok (.aload_n 0, 1) := by decide +kernel
theorem dX2_setPrice_1 : decode cX2_setPrice 1 = .ok (.iload_n 1, 1) := by decide +kernel
theorem dX2_setPrice_2 : decode cX2_setPrice 2 = .ok (.invokestatic 70, 3) := by decide +kernel
theorem dX2_setPrice_5 : decode cX2_setPrice 5 = .ok (.iload_n 2, 1) := by decide +kernel
theorem dX2_setPrice_6 : decode cX2_setPrice 6 = .ok (.iconst 0, 1) := by decide +kernel
theorem dX2_setPrice_7 : decode cX2_setPrice 7 = .ok (.bipush 100, 2) := by decide +kernel
theorem dX2_setPrice_9 : decode cX2_setPrice 9 = .ok (.invokestatic 66, 3) := by decide +kernel
theorem dX2_setPrice_12 : decode cX2_setPrice 12 = .ok (.iconst 1, 1) := by decide +kernel
theorem dX2_setPrice_13 : decode cX2_setPrice 13 = .ok (.invokevirtual 77, 3) := by decide +kernel
theorem dX2_setPrice_16 : decode cX2_setPrice 16 = .ok (.ifCond .ne 5, 3) := by decide +kernel
theorem dX2_setPrice_19 : decode cX2_setPrice 19 = .ok (.iconst 0, 1) := by decide +kernel
theorem dX2_setPrice_20 : decode cX2_setPrice 20 = .ok (.ireturn, 1) := by decide +kernel
theorem dX2_setPrice_21 : decode cX2_setPrice 21 = .ok (.aload_n 0, 1) := by decide +kernel
theorem dX2_setPrice_22 : decode cX2_setPrice 22 = .ok (.getfield 16, 3) := by decide +kernel
theorem dX2_setPrice_25 : decode cX2_setPrice 25 = .ok (.iload_n 1, 1) := by decide +kernel
theorem dX2_setPrice_26 : decode cX2_setPrice 26 = .ok (.iaload, 1) := by decide +kernel
theorem dX2_setPrice_27 : decode cX2_setPrice 27 = .ok (.istore_n 3, 1) := by decide +kernel
theorem dX2_setPrice_28 : decode cX2_setPrice 28 = .ok (.aload_n 0, 1) := by decide +kernel
theorem dX2_setPrice_29 : decode cX2_setPrice 29 = .ok (.getfield 16, 3) := by decide +kernel
theorem dX2_setPrice_32 : decode cX2_setPrice 32 = .ok (.iload_n 1, 1) := by decide +kernel
theorem dX2_setPrice_33 : decode cX2_setPrice 33 = .ok (.iload_n 2, 1) := by decide +kernel
theorem dX2_setPrice_34 : decode cX2_setPrice 34 = .ok (.iastore, 1) := by decide +kernel
theorem dX2_setPrice_35 : decode cX2_setPrice 35 = .ok (.iload_n 3, 1) := by decide +kernel
theorem dX2_setPrice_36 : decode cX2_setPrice 36 = .ok (.ireturn, 1) := by decide +kernel
set_option maxRecDepth 20000 in
theorem ggX2_setLimit_X2_in : GoodIn wsX2_setLimit wsX2_in := goodIn_r _ [5] (by decide +kernel) (by decide +kernel)
set_option maxRecDepth 20000 in
theorem gX2_setLimit_X2_in : GoodIn wsX2_setLimit (va_wsS RX2 66 yX2_in wsX2_in) := goodIn_app (goodIn_of _ (by decide +kernel)) ggX2_setLimit_X2_in
set_option maxRecDepth 20000 in
theorem ggX2_setLimit_X2_goes : GoodIn wsX2_setLimit wsX2_goes := goodIn_r _ [9, 10, 11, 12, 13, 14, 15, 16, 17, 18, 19, 20, 21, 22, 23, 24, 25, 26, 27, 28, 29, 30, 31, 32] (by decide +kernel) (by decide +kernel)
set_option maxRecDepth 20000 in
theorem gX2_setLimit_X2_goes : GoodIn wsX2_setLimit (wsV RX2 77 RX2 yX2_goes wsX2_goes) := goodIn_app (goodIn_of _ (by decide +kernel)) ggX2_setLimit_X2_goes
theorem dX2_setLimit_0 : decode cX2_setLimit 0 = .ok (.aload_n 0, 1) := by decide +kernel
theorem dX2_setLimit_1 : decode cX2_setLimit 1 = .ok (.iload_n 1, 1) := by decide +kernel
theorem dX2_setLimit_2 : decode cX2_setLimit 2 = .ok (.iconst 0, 1) := by decide +kernel
theorem dX2_setLimit_3 : decode cX2_setLimit 3 = .ok (.iconst 4, 1) := by decide +kernel
theorem dX2_setLimit_4 : decode cX2_setLimit 4 = .ok (.invokestatic 66, 3) := by decide +kernel
theorem dX2_setLimit_7 : decode cX2_setLimit 7 = .ok (.iload_n 2, 1) := by decide +kernel
theorem dX2_setLimit_8 : decode cX2_setLimit 8 = .ok (.iconst 0, 1) := by decide +kernel
theorem dX2_setLimit_9 : decode cX2_setLimit 9 = .ok (.sipush 300, 3) := by decide +kernel
theorem dX2_setLimit_12 : decode cX2_setLimit 12 = .ok (.invokestatic 66, 3) := by decide +kernel
theorem dX2_setLimit_15 : decode cX2_setLimit 15 = .ok (.iconst 1, 1) := by decide +kernel
theorem dX2_setLimit_16 : decode cX2_setLimit 16 = .ok (.invokevirtual 77, 3) := by decide +kernel
theorem dX2_setLimit_19 : decode cX2_setLimit 19 = .ok (.ifCond .ne 5, 3) := by decide +kernel
theorem dX2_setLimit_22 : decode cX2_setLimit 22 = .ok (.iconst 0, 1) := by decide +kernel
theorem dX2_setLimit_23 : decode cX2_setLimit 23 = .ok (.ireturn, 1) := by decide +kernel
theorem dX2_setLimit_24 : decode cX2_setLimit 24 = .ok (.aload_n 0, 1) := by decide +kernel
theorem dX2_setLimit_25 : decode cX2_setLimit 25 = .ok (.getfield 19, 3) := by decide +kernel
theorem dX2_setLimit_28 : decode cX2_setLimit 28 = .ok (.iload_n 1, 1) := by decide +kernel
theorem dX2_setLimit_29 : decode cX2_setLimit 29 = .ok (.iaload, 1) := by decide +kernel
theorem dX2_setLimit_30 : decode cX2_setLimit 30 = .ok (.istore_n 3, 1) := by decide +kernel
theorem dX2_setLimit_31 : decode cX2_setLimit 31 = .ok (.aload_n 0, 1) := by decide +kernel
theorem dX2_setLimit_32 : decode cX2_setLimit 32 = .ok (.getfield 19, 3) := by decide +kernel
theorem dX2_setLimit_35 : decode cX2_setLimit 35 = .ok (.iload_n 1, 1) := by decide +kernel
theorem dX2_setLimit_36 : decode cX2_setLimit 36 = .ok (.iload_n 2, 1) := by decide +kernel
theorem dX2_setLimit_37 : decode cX2_setLimit 37 = .ok (.iastore, 1) := by decide +kernel
theorem dX2_setLimit_38 : decode cX2_setLimit 38 = .ok (.iload_n 3, 1) := by decide +kernel
theorem dX2_setLimit_39 : decode cX2_setLimit 39 = .ok (.ireturn, 1) := by decide +kernel
set_option maxRecDepth 20000 in
theorem ggX2_setSupplier_X2_in : GoodIn wsX2_setSupplier wsX2_in := goodIn_r _ [6] (by decide +kernel) (by decide +kernel)
set_option maxRecDepth 20000 in
theorem gX2_setSupplier_X2_in : GoodIn wsX2_setSupplier (va_wsS RX2 66 yX2_in wsX2_in) := goodIn_app (goodIn_of _ (by decide +kernel)) ggX2_setSupplier_X2_in
set_option maxRecDepth 20000 in
theorem ggX2_setSupplier_X2_goes : GoodIn wsX2_setSupplier wsX2_goes := goodIn_r _ [10, 11, 12, 13, 14, 15, 16, 17, 18, 19, 20, 21, 22, 23, 24, 25, 26, 27, 28, 29, 30, 31, 32, 33] (by decide +kernel) (by decide +kernel)
set_option maxRecDepth 20000 in
theorem gX2_setSupplier_X2_goes : GoodIn wsX2_setSupplier (wsV RX2 77 RX2 yX2_goes wsX2_goes) := goodIn_app (goodIn_of _ (by decide +kernel)) ggX2_setSupplier_X2_goes
theorem dX2_setSupplier_0 : decode cX2_setSupplier 0 = .ok (.aload_n 0, 1) := by decide +kernel
theorem dX2_setSupplier_1 : decode cX2_setSupplier 1 = .ok (.iload_n 1, 1) := by decide +kernel
theorem dX2_setSupplier_2 : decode cX2_setSupplier 2 = .ok (.iconst 1, 1) := by decide +kernel
theorem dX2_setSupplier_3 : decode cX2_setSupplier 3 = .ok (.bipush 100, 2) := by decide +kernel
theorem dX2_setSupplier_5 : decode cX2_setSupplier 5 = .ok (.invokestatic 66, 3) := by decide +kernel
theorem dX2_setSupplier_8 : decode cX2_setSupplier 8 = .ok (.ifCond .eq 16, 3) := by decide +kernel
theorem dX2_setSupplier_11 : decode cX2_setSupplier 11 = .ok (.iload_n 2, 1) := by decide +kernel
theorem dX2_setSupplier_12 : decode cX2_setSupplier 12 = .ok (.iconst 0, 1) := by decide +kernel
theorem dX2_setSupplier_13 : decode cX2_setSupplier 13 = .ok (.iload_n 1, 1) := by decide +kernel
theorem dX2_setSupplier_14 : decode cX2_setSupplier 14 = .ok (.invokestatic 66, 3) := by decide +kernel
theorem dX2_setSupplier_17 : decode cX2_setSupplier 17 = .ok (.ifCond .eq 7, 3) := by decide +kernel
theorem dX2_setSupplier_20 : decode cX2_setSupplier 20 = .ok (.iconst 1, 1) := by decide +kernel
theorem dX2_setSupplier_21 : decode cX2_setSupplier 21 = .ok (.goto 4, 3) := by decide +kernel
theorem dX2_setSupplier_24 : decode cX2_setSupplier 24 = .ok (.iconst 0, 1) := by decide +kernel
theorem dX2_setSupplier_25 : decode cX2_setSupplier 25 = .ok (.iconst 1, 1) := by decide +kernel
theorem dX2_setSupplier_26 : decode cX2_setSupplier 26 = .ok (.iconst 1, 1) := by decide +kernel
theorem dX2_setSupplier_27 : decode cX2_setSupplier 27 = .ok (.invokevirtual 77, 3) := by decide +kernel
theorem dX2_setSupplier_30 : decode cX2_setSupplier 30 = .ok (.ifCond .eq 13, 3) := by decide +kernel
theorem dX2_setSupplier_33 : decode cX2_setSupplier 33 = .ok (.aload_n 0, 1) := by decide +kernel
theorem dX2_setSupplier_34 : decode cX2_setSupplier 34 = .ok (.iload_n 1, 1) := by decide +kernel
theorem dX2_setSupplier_35 : decode cX2_setSupplier 35 = .ok (.putfield 35, 3) := by decide +kernel
theorem dX2_setSupplier_38 : decode cX2_setSupplier 38 = .ok (.aload_n 0, 1) := by decide +kernel
theorem dX2_setSupplier_39 : decode cX2_setSupplier 39 = .ok (.iload_n 2, 1) := by decide +kernel
theorem dX2_setSupplier_40 : decode cX2_setSupplier 40 = .ok (.putfield 39, 3) := by decide +kernel
theorem dX2_setSupplier_43 : decode cX2_setSupplier 43 = .ok (.return_, 1) := by decide +kernel
set_option maxRecDepth 20000 in
theorem ggX2_rent_X2_isHouse : GoodIn wsX2_rent wsX2_isHouse := goodIn_r _ [6, 7, 8, 5, 9] (by decide +kernel) (by decide +kernel)
set_option maxRecDepth 20000 in
theorem gX2_rent_X2_isHouse : GoodIn wsX2_rent (va_wsS RX2 70 yX2_isHouse wsX2_isHouse) := goodIn_app (goodIn_of _ (by decide +kernel)) ggX2_rent_X2_isHouse
set_option maxRecDepth 20000 in
theorem ggX2_rent_X2_belongs : GoodIn wsX2_rent wsX2_belongs := goodIn_r _ [13, 14, 3, 4, 5, 6, 7, 8, 9, 20, 21, 22, 23, 24, 25, 26, 27, 28, 29, 30, 31, 32, 33, 34, 35, 36, 37, 38, 39, 40, 41] (by decide +kernel) (by decide +kernel)
set_option maxRecDepth 20000 in
theorem gX2_rent_X2_belongs : GoodIn wsX2_rent (wsV RX2 74 RX2 yX2_belongs wsX2_belongs) := goodIn_app (goodIn_of _ (by decide +kernel)) ggX2_rent_X2_belongs
set_option maxRecDepth 20000 in
theorem ggX2_rent_X2_in : GoodIn wsX2_rent wsX2_in := goodIn_r _ [9] (by decide +kernel) (by decide +kernel)
set_option maxRecDepth 20000 in
theorem gX2_rent_X2_in : GoodIn wsX2_rent (va_wsS RX2 66 yX2_in wsX2_in) := goodIn_app (goodIn_of _ (by decide +kernel)) ggX2_rent_X2_in
set_option maxRecDepth 20000 in
theorem ggX2_rent_X2_goes : GoodIn wsX2_rent wsX2_goes := goodIn_r _ [18, 19, 20, 21, 22, 23, 24, 25, 26, 27, 28, 29, 30, 31, 32, 33, 34, 35, 36, 37, 38, 39, 40, 41] (by decide +kernel) (by decide +kernel)
set_option maxRecDepth 20000 in
theorem gX2_rent_X2_goes : GoodIn wsX2_rent (wsV RX2 77 RX2 yX2_goes wsX2_goes) := goodIn_app (goodIn_of _ (by decide +kernel)) ggX2_rent_X2_goes
theorem dX2_rent_0 : decode cX2_rent 0 = .ok (.iload_n 1, 1) := by decide +kernel
theorem dX2_rent_1 : decode cX2_rent 1 = .ok (.invokestatic 70, 3) := by decide +kernel
theorem dX2_rent_4 : decode cX2_rent 4 = .ok (.ifCond .eq 14, 3) := by decide +kernel
theorem dX2_rent_7 : decode cX2_rent 7 = .ok (.iload_n 2, 1) := by decide +kernel
theorem dX2_rent_8 : decode cX2_rent 8 = .ok (.invokestatic 70, 3) := by decide +kernel
theorem dX2_rent_11 : decode cX2_rent 11 = .ok (.ifCond .eq 7, 3) := by decide +kernel
theorem dX2_rent_14 : decode cX2_rent 14 = .ok (.iconst 1, 1) := by decide +kernel
theorem dX2_rent_15 : decode cX2_rent 15 = .ok (.goto 4, 3) := by decide +kernel
theorem dX2_rent_18 : decode cX2_rent 18 = .ok (.iconst 0, 1) := by decide +kernel
theorem dX2_rent_19 : decode cX2_rent 19 = .ok (.istore 4, 2) := by decide +kernel
theorem dX2_rent_21 : decode cX2_rent 21 = .ok (.aload_n 0, 1) := by decide +kernel
theorem dX2_rent_22 : decode cX2_rent 22 = .ok (.iload_n 1, 1) := by decide +kernel
theorem dX2_rent_23 : decode cX2_rent 23 = .ok (.invokevirtual 74, 3) := by decide +kernel
theorem dX2_rent_26 : decode cX2_rent 26 = .ok (.ifCond .eq 32, 3) := by decide +kernel
theorem dX2_rent_29 : decode cX2_rent 29 = .ok (.aload_n 0, 1) := by decide +kernel
theorem dX2_rent_30 : decode cX2_rent 30 = .ok (.iload_n 2, 1) := by decide +kernel
theorem dX2_rent_31 : decode cX2_rent 31 = .ok (.invokevirtual 74, 3) := by decide +kernel
theorem dX2_rent_34 : decode cX2_rent 34 = .ok (.ifCond .eq 24, 3) := by decide +kernel
theorem dX2_rent_37 : decode cX2_rent 37 = .ok (.aload_n 0, 1) := by decide +kernel
theorem dX2_rent_38 : decode cX2_rent 38 = .ok (.getfield 22, 3) := by decide +kernel
theorem dX2_rent_41 : decode cX2_rent 41 = .ok (.iload_n 1, 1) := by decide +kernel
theorem dX2_rent_42 : decode cX2_rent 42 = .ok (.iaload, 1) := by decide +kernel
theorem dX2_rent_43 : decode cX2_rent 43 = .ok (.iload_n 3, 1) := by decide +kernel
theorem dX2_rent_44 : decode cX2_rent 44 = .ok (.isub, 1) := by decide +kernel
theorem dX2_rent_45 : decode cX2_rent 45 = .ok (.aload_n 0, 1) := by decide +kernel
theorem dX2_rent_46 : decode cX2_rent 46 = .ok (.getfield 25, 3) := by decide +kernel
theorem dX2_rent_49 : decode cX2_rent 49 = .ok (.iload_n 1, 1) := by decide +kernel
theorem dX2_rent_50 : decode cX2_rent 50 = .ok (.iaload, 1) := by decide +kernel
theorem dX2_rent_51 : decode cX2_rent 51 = .ok (.if_icmp .lt 7, 3) := by decide +kernel
theorem dX2_rent_54 : decode cX2_rent 54 = .ok (.iconst 1, 1) := by decide +kernel
theorem dX2_rent_55 : decode cX2_rent 55 = .ok (.goto 4, 3) := by decide +kernel
theorem dX2_rent_58 : decode cX2_rent 58 = .ok (.iconst 0, 1) := by decide +kernel
theorem dX2_rent_59 : decode cX2_rent 59 = .ok (.istore 5, 2) := by decide +kernel
theorem dX2_rent_61 : decode cX2_rent 61 = .ok (.aload_n 0, 1) := by decide +kernel
theorem dX2_rent_62 : decode cX2_rent 62 = .ok (.iload 4, 2) := by decide +kernel
theorem dX2_rent_64 : decode cX2_rent 64 = .ok (.iload_n 1, 1) := by decide +kernel
theorem dX2_rent_65 : decode cX2_rent 65 = .ok (.iload_n 2, 1) := by decide +kernel
theorem dX2_rent_66 : decode cX2_rent 66 = .ok (.if_icmp .eq 17, 3) := by decide +kernel
theorem dX2_rent_69 : decode cX2_rent 69 = .ok (.iload_n 3, 1) := by decide +kernel
theorem dX2_rent_70 : decode cX2_rent 70 = .ok (.iconst 1, 1) := by decide +kernel
theorem dX2_rent_71 : decode cX2_rent 71 = .ok (.bipush 100, 2) := by decide +kernel
theorem dX2_rent_73 : decode cX2_rent 73 = .ok (.invokestatic 66, 3) := by decide +kernel
theorem dX2_rent_76 : decode cX2_rent 76 = .ok (.ifCond .eq 7, 3) := by decide +kernel
theorem dX2_rent_79 : decode cX2_rent 79 = .ok (.iconst 1, 1) := by decide +kernel
theorem dX2_rent_80 : decode cX2_rent 80 = .ok (.goto 4, 3) := by decide +kernel
theorem dX2_rent_83 : decode cX2_rent 83 = .ok (.iconst 0, 1) := by decide +kernel
theorem dX2_rent_84 : decode cX2_rent 84 = .ok (.iload 4, 2) := by decide +kernel
theorem dX2_rent_86 : decode cX2_rent 86 = .ok (.ifCond .eq 12, 3) := by decide +kernel
theorem dX2_rent_89 : decode cX2_rent 89 = .ok (.iload 5, 2) := by decide +kernel
theorem dX2_rent_91 : decode cX2_rent 91 = .ok (.ifCond .eq 7, 3) := by decide +kernel
theorem dX2_rent_94 : decode cX2_rent 94 = .ok (.iconst 1, 1) := by decide +kernel
theorem dX2_rent_95 : decode cX2_rent 95 = .ok (.goto 4, 3) := by decide +kernel
theorem dX2_rent_98 : decode cX2_rent 98 = .ok (.iconst 0, 1) := by decide +kernel
theorem dX2_rent_99 : decode cX2_rent 99 = .ok (.invokevirtual 77, 3) := by decide +kernel
theorem dX2_rent_102 : decode cX2_rent 102 = .ok (.ifCond .ne 5, 3) := by decide +kernel
theorem dX2_rent_105 : decode cX2_rent 105 = .ok (.iconst 0, 1) := by decide +kernel
theorem dX2_rent_106 : decode cX2_rent 106 = .ok (.ireturn, 1) := by decide +kernel
theorem dX2_rent_107 : decode cX2_rent 107 = .ok (.aload_n 0, 1) := by decide +kernel
theorem dX2_rent_108 : decode cX2_rent 108 = .ok (.getfield 22, 3) := by decide +kernel
theorem dX2_rent_111 : decode cX2_rent 111 = .ok (.iload_n 1, 1) := by decide +kernel
theorem dX2_rent_112 : decode cX2_rent 112 = .ok (.dup2, 1) := by decide +kernel
theorem dX2_rent_113 : decode cX2_rent 113 = .ok (.iaload, 1) := by decide +kernel
theorem dX2_rent_114 : decode cX2_rent 114 = .ok (.iload_n 3, 1) := by decide +kernel
theorem dX2_rent_115 : decode cX2_rent 115 = .ok (.isub, 1) := by decide +kernel
theorem dX2_rent_116 : decode cX2_rent 116 = .ok (.iastore, 1) := by decide +kernel
theorem dX2_rent_117 : decode cX2_rent 117 = .ok (.aload_n 0, 1) := by decide +kernel
theorem dX2_rent_118 : decode cX2_rent 118 = .ok (.getfield 22, 3) := by decide +kernel
theorem dX2_rent_121 : decode cX2_rent 121 = .ok (.iload_n 2, 1) := by decide +kernel
theorem dX2_rent_122 : decode cX2_rent 122 = .ok (.dup2, 1) := by decide +kernel
theorem dX2_rent_123 : decode cX2_rent 123 = .ok (.iaload, 1) := by decide +kernel
theorem dX2_rent_124 : decode cX2_rent 124 = .ok (.iload_n 3, 1) := by decide +kernel
theorem dX2_rent_125 : decode cX2_rent 125 = .ok (.iadd, 1) := by decide +kernel
theorem dX2_rent_126 : decode cX2_rent 126 = .ok (.iastore, 1) := by decide +kernel
theorem dX2_rent_127 : decode cX2_rent 127 = .ok (.aload_n 0, 1) := by decide +kernel
theorem dX2_rent_128 : decode cX2_rent 128 = .ok (.getfield 22, 3) := by decide +kernel
theorem dX2_rent_131 : decode cX2_rent 131 = .ok (.iload_n 2, 1) := by decide +kernel
theorem dX2_rent_132 : decode cX2_rent 132 = .ok (.iaload, 1) := by decide +kernel
theorem dX2_rent_133 : decode cX2_rent 133 = .ok (.ireturn, 1) := by decide +kernel
set_option maxRecDepth 20000 in
theorem ggX2_leave_X2_isHouse : GoodIn wsX2_leave wsX2_isHouse := goodIn_r _ [10, 11, 12, 9, 13] (by decide +kernel) (by decide +kernel)
set_option maxRecDepth 20000 in
theorem gX2_leave_X2_isHouse : GoodIn wsX2_leave (va_wsS RX2 70 yX2_isHouse wsX2_isHouse) := goodIn_app (goodIn_of _ (by decide +kernel)) ggX2_leave_X2_isHouse
set_option maxRecDepth 20000 in
theorem ggX2_leave_X2_belongs : GoodIn wsX2_leave wsX2_belongs := goodIn_r _ [17, 6, 7, 8, 9, 10, 11, 12, 13, 23, 24, 25, 26, 27, 28, 29, 30, 31, 32, 33, 34, 35, 36, 37, 38, 39, 40, 41, 42, 43, 44] (by decide +kernel) (by decide +kernel)
set_option maxRecDepth 20000 in
theorem gX2_leave_X2_belongs : GoodIn wsX2_leave (wsV RX2 74 RX2 yX2_belongs wsX2_belongs) := goodIn_app (goodIn_of _ (by decide +kernel)) ggX2_leave_X2_belongs
set_option maxRecDepth 20000 in
theorem ggX2_leave_X2_goes : GoodIn wsX2_leave wsX2_goes := goodIn_r _ [21, 22, 23, 24, 25, 26, 27, 28, 29, 30, 31, 32, 33, 34, 35, 36, 37, 38, 39, 40, 41, 42, 43, 44] (by decide +kernel) (by decide +kernel)
set_option maxRecDepth 20000 in
theorem gX2_leave_X2_goes : GoodIn wsX2_leave (wsV RX2 77 RX2 yX2_goes wsX2_goes) := goodIn_app (goodIn_of _ (by decide +kernel)) ggX2_leave_X2_goes
theorem dX2_leave_0 : decode cX2_leave 0 = .ok (.aload_n 0, 1) := by decide +kernel
theorem dX2_leave_1 : decode cX2_leave 1 = .ok (.iload_n 1, 1) := by decide +kernel
theorem dX2_leave_2 : decode cX2_leave 2 = .ok (.invokestatic 70, 3) := by decide +kernel
theorem dX2_leave_5 : decode cX2_leave 5 = .ok (.aload_n 0, 1) := by decide +kernel
theorem dX2_leave_6 : decode cX2_leave 6 = .ok (.iload_n 1, 1) := by decide +kernel
theorem dX2_leave_7 : decode cX2_leave 7 = .ok (.invokevirtual 74, 3) := by decide +kernel
theorem dX2_leave_10 : decode cX2_leave 10 = .ok (.iconst 1, 1) := by decide +kernel
theorem dX2_leave_11 : decode cX2_leave 11 = .ok (.invokevirtual 77, 3) := by decide +kernel
theorem dX2_leave_14 : decode cX2_leave 14 = .ok (.ifCond .ne 5, 3) := by decide +kernel
theorem dX2_leave_17 : decode cX2_leave 17 = .ok (.iconst 0, 1) := by decide +kernel
theorem dX2_leave_18 : decode cX2_leave 18 = .ok (.ireturn, 1) := by decide +kernel
theorem dX2_leave_19 : decode cX2_leave 19 = .ok (.aload_n 0, 1) := by decide +kernel
theorem dX2_leave_20 : decode cX2_leave 20 = .ok (.getfield 25, 3) := by decide +kernel
theorem dX2_leave_23 : decode cX2_leave 23 = .ok (.iload_n 1, 1) := by decide +kernel
theorem dX2_leave_24 : decode cX2_leave 24 = .ok (.iaload, 1) := by decide +kernel
theorem dX2_leave_25 : decode cX2_leave 25 = .ok (.aload_n 0, 1) := by decide +kernel
theorem dX2_leave_26 : decode cX2_leave 26 = .ok (.getfield 39, 3) := by decide +kernel
theorem dX2_leave_29 : decode cX2_leave 29 = .ok (.imul, 1) := by decide +kernel
theorem dX2_leave_30 : decode cX2_leave 30 = .ok (.istore_n 2, 1) := by decide +kernel
theorem dX2_leave_31 : decode cX2_leave 31 = .ok (.aload_n 0, 1) := by decide +kernel
theorem dX2_leave_32 : decode cX2_leave 32 = .ok (.getfield 28, 3) := by decide +kernel
theorem dX2_leave_35 : decode cX2_leave 35 = .ok (.iload_n 1, 1) := by decide +kernel
theorem dX2_leave_36 : decode cX2_leave 36 = .ok (.dup2, 1) := by decide +kernel
theorem dX2_leave_37 : decode cX2_leave 37 = .ok (.iaload, 1) := by decide +kernel
theorem dX2_leave_38 : decode cX2_leave 38 = .ok (.iload_n 2, 1) := by decide +kernel
theorem dX2_leave_39 : decode cX2_leave 39 = .ok (.isub, 1) := by decide +kernel
theorem dX2_leave_40 : decode cX2_leave 40 = .ok (.iastore, 1) := by decide +kernel
theorem dX2_leave_41 : decode cX2_leave 41 = .ok (.aload_n 0, 1) := by decide +kernel
theorem dX2_leave_42 : decode cX2_leave 42 = .ok (.dup, 1) := by decide +kernel
theorem dX2_leave_43 : decode cX2_leave 43 = .ok (.getfield 81, 3) := by decide +kernel
theorem dX2_leave_46 : decode cX2_leave 46 = .ok (.iload_n 2, 1) := by decide +kernel
theorem dX2_leave_47 : decode cX2_leave 47 = .ok (.isub, 1) := by decide +kernel
theorem dX2_leave_48 : decode cX2_leave 48 = .ok (.putfield 81, 3) := by decide +kernel
theorem dX2_leave_51 : decode cX2_leave 51 = .ok (.aload_n 0, 1) := by decide +kernel
theorem dX2_leave_52 : decode cX2_leave 52 = .ok (.getfield 22, 3) := by decide +kernel
theorem dX2_leave_55 : decode cX2_leave 55 = .ok (.iload_n 1, 1) := by decide +kernel
theorem dX2_leave_56 : decode cX2_leave 56 = .ok (.iconst 0, 1) := by decide +kernel
theorem dX2_leave_57 : decode cX2_leave 57 = .ok (.iastore, 1) := by decide +kernel
theorem dX2_leave_58 : decode cX2_leave 58 = .ok (.aload_n 0, 1) := by decide +kernel
theorem dX2_leave_59 : decode cX2_leave 59 = .ok (.getfield 25, 3) := by decide +kernel
theorem dX2_leave_62 : decode cX2_leave 62 = .ok (.iload_n 1, 1) := by decide +kernel
theorem dX2_leave_63 : decode cX2_leave 63 = .ok (.iconst 0, 1) := by decide +kernel
theorem dX2_leave_64 : decode cX2_leave 64 = .ok (.iastore, 1) := by decide +kernel
theorem dX2_leave_65 : decode cX2_leave 65 = .ok (.aload_n 0, 1) := by decide +kernel
theorem dX2_leave_66 : decode cX2_leave 66 = .ok (.getfield 31, 3) := by decide +kernel
theorem dX2_leave_69 : decode cX2_leave 69 = .ok (.iload_n 1, 1) := by decide +kernel
theorem dX2_leave_70 : decode cX2_leave 70 = .ok (.iconst 1, 1) := by decide +kernel
theorem dX2_leave_71 : decode cX2_leave 71 = .ok (.bastore, 1) := by decide +kernel
theorem dX2_leave_72 : decode cX2_leave 72 = .ok (.iload_n 2, 1) := by decide +kernel
theorem dX2_leave_73 : decode cX2_leave 73 = .ok (.ireturn, 1) := by decide +kernel
theorem dX2_isBuyer_0 : decode cX2_isBuyer 0 = .ok (.aload_n 0, 1) := by decide +kernel
theorem dX2_isBuyer_1 : decode cX2_isBuyer 1 = .ok (.getfield 31, 3) := by decide +kernel
theorem dX2_isBuyer_4 : decode cX2_isBuyer 4 = .ok (.iload_n 1, 1) := by decide +kernel
theorem dX2_isBuyer_5 : decode cX2_isBuyer 5 = .ok (.baload, 1) := by decide +kernel
theorem dX2_isBuyer_6 : decode cX2_isBuyer 6 = .ok (.ifCond .ne 16, 3) := by decide +kernel
theorem dX2_isBuyer_9 : decode cX2_isBuyer 9 = .ok (.aload_n 0, 1) := by decide +kernel
theorem dX2_isBuyer_10 : decode cX2_isBuyer 10 = .ok (.getfield 13, 3) := by decide +kernel
theorem dX2_isBuyer_13 : decode cX2_isBuyer 13 = .ok (.iload_n 1, 1) := by decide +kernel
theorem dX2_isBuyer_14 : decode cX2_isBuyer 14 = .ok (.iaload, 1) := by decide +kernel
theorem dX2_isBuyer_15 : decode cX2_isBuyer 15 = .ok (.ifCond .ge 7, 3) := by decide +kernel
theorem dX2_isBuyer_18 : decode cX2_isBuyer 18 = .ok (.iconst 1, 1) := by decide +kernel
theorem dX2_isBuyer_19 : decode cX2_isBuyer 19 = .ok (.goto 4, 3) := by decide +kernel
theorem dX2_isBuyer_22 : decode cX2_isBuyer 22 = .ok (.iconst 0, 1) := by decide +kernel
theorem dX2_isBuyer_23 : decode cX2_isBuyer 23 = .ok (.ireturn, 1) := by decide +kernel
theorem dX2_isSeller_0 : decode cX2_isSeller 0 = .ok (.aload_n 0, 1) := by decide +kernel
theorem dX2_isSeller_1 : decode cX2_isSeller 1 = .ok (.getfield 31, 3) := by decide +kernel
theorem dX2_isSeller_4 : decode cX2_isSeller 4 = .ok (.iload_n 1, 1) := by decide +kernel
theorem dX2_isSeller_5 : decode cX2_isSeller 5 = .ok (.baload, 1) := by decide +kernel
theorem dX2_isSeller_6 : decode cX2_isSeller 6 = .ok (.ifCond .ne 16, 3) := by decide +kernel
theorem dX2_isSeller_9 : decode cX2_isSeller 9 = .ok (.aload_n 0, 1) := by decide +kernel
theorem dX2_isSeller_10 : decode cX2_isSeller 10 = .ok (.getfield 13, 3) := by decide +kernel
theorem dX2_isSeller_13 : decode cX2_isSeller 13 = .ok (.iload_n 1, 1) := by decide +kernel
theorem dX2_isSeller_14 : decode cX2_isSeller 14 = .ok (.iaload, 1) := by decide +kernel
theorem dX2_isSeller_15 : decode cX2_isSeller 15 = .ok (.ifCond .le 7, 3) := by decide +kernel
theorem dX2_isSeller_18 : decode cX2_isSeller 18 = .ok (.iconst 1, 1) := by decide +kernel
theorem dX2_isSeller_19 : decode cX2_isSeller 19 = .ok (.goto 4, 3) := by decide +kernel
theorem dX2_isSeller_22 : decode cX2_isSeller 22 = .ok (.iconst 0, 1) := by decide +kernel
theorem dX2_isSeller_23 : decode cX2_isSeller 23 = .ok (.ireturn, 1) := by decide +kernel
set_option maxRecDepth 20000 in
theorem ggX2_turnOf_X2_isBuyer : GoodIn wsX2_turnOf wsX2_isBuyer := goodIn_r _ [6, 7, 8, 9, 10, 11, 12, 13, 14, 15, 16, 17, 18, 19, 20, 21, 22, 23, 24, 25, 26, 27, 28, 29, 30] (by decide +kernel) (by decide +kernel)
set_option maxRecDepth 20000 in
theorem gX2_turnOf_X2_isBuyer : GoodIn wsX2_turnOf (wsV RX2 84 RX2 yX2_isBuyer wsX2_isBuyer) := goodIn_app (goodIn_of _ (by decide +kernel)) ggX2_turnOf_X2_isBuyer
theorem dX2_turnOf_0 : decode cX2_turnOf 0 = .ok (.iconst 0, 1) := by decide +kernel
theorem dX2_turnOf_1 : decode cX2_turnOf 1 = .ok (.istore_n 2, 1) := by decide +kernel
theorem dX2_turnOf_2 : decode cX2_turnOf 2 = .ok (.iconst 0, 1) := by decide +kernel
theorem dX2_turnOf_3 : decode cX2_turnOf 3 = .ok (.istore_n 3, 1) := by decide +kernel
theorem dX2_turnOf_4 : decode cX2_turnOf 4 = .ok (.iload_n 3, 1) := by decide +kernel
theorem dX2_turnOf_5 : decode cX2_turnOf 5 = .ok (.bipush 6, 2) := by decide +kernel
theorem dX2_turnOf_7 : decode cX2_turnOf 7 = .ok (.if_icmp .ge 60, 3) := by decide +kernel
theorem dX2_turnOf_10 : decode cX2_turnOf 10 = .ok (.iload_n 2, 1) := by decide +kernel
theorem dX2_turnOf_11 : decode cX2_turnOf 11 = .ok (.aload_n 0, 1) := by decide +kernel
theorem dX2_turnOf_12 : decode cX2_turnOf 12 = .ok (.iload_n 3, 1) := by decide +kernel
theorem dX2_turnOf_13 : decode cX2_turnOf 13 = .ok (.invokevirtual 84, 3) := by decide +kernel
theorem dX2_turnOf_16 : decode cX2_turnOf 16 = .ok (.ifCond .eq 42, 3) := by decide +kernel
theorem dX2_turnOf_19 : decode cX2_turnOf 19 = .ok (.aload_n 0, 1) := by decide +kernel
theorem dX2_turnOf_20 : decode cX2_turnOf 20 = .ok (.getfield 16, 3) := by decide +kernel
theorem dX2_turnOf_23 : decode cX2_turnOf 23 = .ok (.iload_n 3, 1) := by decide +kernel
theorem dX2_turnOf_24 : decode cX2_turnOf 24 = .ok (.iaload, 1) := by decide +kernel
theorem dX2_turnOf_25 : decode cX2_turnOf 25 = .ok (.aload_n 0, 1) := by decide +kernel
theorem dX2_turnOf_26 : decode cX2_turnOf 26 = .ok (.getfield 16, 3) := by decide +kernel
theorem dX2_turnOf_29 : decode cX2_turnOf 29 = .ok (.iload_n 1, 1) := by decide +kernel
theorem dX2_turnOf_30 : decode cX2_turnOf 30 = .ok (.iaload, 1) := by decide +kernel
theorem dX2_turnOf_31 : decode cX2_turnOf 31 = .ok (.if_icmp .gt 23, 3) := by decide +kernel
theorem dX2_turnOf_34 : decode cX2_turnOf 34 = .ok (.aload_n 0, 1) := by decide +kernel
theorem dX2_turnOf_35 : decode cX2_turnOf 35 = .ok (.getfield 16, 3) := by decide +kernel
theorem dX2_turnOf_38 : decode cX2_turnOf 38 = .ok (.iload_n 3, 1) := by decide +kernel
theorem dX2_turnOf_39 : decode cX2_turnOf 39 = .ok (.iaload, 1) := by decide +kernel
theorem dX2_turnOf_40 : decode cX2_turnOf 40 = .ok (.aload_n 0, 1) := by decide +kernel
theorem dX2_turnOf_41 : decode cX2_turnOf 41 = .ok (.getfield 16, 3) := by decide +kernel
theorem dX2_turnOf_44 : decode cX2_turnOf 44 = .ok (.iload_n 1, 1) := by decide +kernel
theorem dX2_turnOf_45 : decode cX2_turnOf 45 = .ok (.iaload, 1) := by decide +kernel
theorem dX2_turnOf_46 : decode cX2_turnOf 46 = .ok (.if_icmp .ne 12, 3) := by decide +kernel
theorem dX2_turnOf_49 : decode cX2_turnOf 49 = .ok (.iload_n 3, 1) := by decide +kernel
theorem dX2_turnOf_50 : decode cX2_turnOf 50 = .ok (.iload_n 1, 1) := by decide +kernel
theorem dX2_turnOf_51 : decode cX2_turnOf 51 = .ok (.if_icmp .ge 7, 3) := by decide +kernel
theorem dX2_turnOf_54 : decode cX2_turnOf 54 = .ok (.iconst 1, 1) := by decide +kernel
theorem dX2_turnOf_55 : decode cX2_turnOf 55 = .ok (.goto 4, 3) := by decide +kernel
theorem dX2_turnOf_58 : decode cX2_turnOf 58 = .ok (.iconst 0, 1) := by decide +kernel
theorem dX2_turnOf_59 : decode cX2_turnOf 59 = .ok (.iadd, 1) := by decide +kernel
theorem dX2_turnOf_60 : decode cX2_turnOf 60 = .ok (.istore_n 2, 1) := by decide +kernel
theorem dX2_turnOf_61 : decode cX2_turnOf 61 = .ok (.iinc 3 1, 3) := by decide +kernel
theorem dX2_turnOf_64 : decode cX2_turnOf 64 = .ok (.goto (-60), 3) := by decide +kernel
theorem dX2_turnOf_67 : decode cX2_turnOf 67 = .ok (.iload_n 2, 1) := by decide +kernel
theorem dX2_turnOf_68 : decode cX2_turnOf 68 = .ok (.ireturn, 1) := by decide +kernel
set_option maxRecDepth 20000 in
theorem ggX2_sellerFor_X2_isSeller : GoodIn wsX2_sellerFor wsX2_isSeller := goodIn_r _ [7, 8, 9, 13, 14, 15, 16, 17, 18, 19, 20, 21, 22, 23, 24, 25, 26, 27, 28, 29, 30, 31, 32, 33, 34] (by decide +kernel) (by decide +kernel)
set_option maxRecDepth 20000 in
theorem gX2_sellerFor_X2_isSeller : GoodIn wsX2_sellerFor (wsV RX2 87 RX2 yX2_isSeller wsX2_isSeller) := goodIn_app (goodIn_of _ (by decide +kernel)) ggX2_sellerFor_X2_isSeller
set_option maxRecDepth 20000 in
theorem ggX2_sellerFor_X2_size : GoodIn wsX2_sellerFor wsX2_size := goodIn_r _ [12] (by decide +kernel) (by decide +kernel)
set_option maxRecDepth 20000 in
theorem gX2_sellerFor_X2_size : GoodIn wsX2_sellerFor (va_wsS RX2 90 yX2_size wsX2_size) := goodIn_app (goodIn_of _ (by decide +kernel)) ggX2_sellerFor_X2_size
theorem dX2_sellerFor_0 : decode cX2_sellerFor 0 = .ok (.iconst (-1), 1) := by decide +kernel
theorem dX2_sellerFor_1 : decode cX2_sellerFor 1 = .ok (.istore_n 2, 1) := by decide +kernel
theorem dX2_sellerFor_2 : decode cX2_sellerFor 2 = .ok (.iconst 0, 1) := by decide +kernel
theorem dX2_sellerFor_3 : decode cX2_sellerFor 3 = .ok (.istore_n 3, 1) := by decide +kernel
theorem dX2_sellerFor_4 : decode cX2_sellerFor 4 = .ok (.iload_n 3, 1) := by decide +kernel
theorem dX2_sellerFor_5 : decode cX2_sellerFor 5 = .ok (.bipush 6, 2) := by decide +kernel
theorem dX2_sellerFor_7 : decode cX2_sellerFor 7 = .ok (.if_icmp .ge 126, 3) := by decide +kernel
theorem dX2_sellerFor_10 : decode cX2_sellerFor 10 = .ok (.aload_n 0, 1) := by decide +kernel
theorem dX2_sellerFor_11 : decode cX2_sellerFor 11 = .ok (.iload_n 3, 1) := by decide +kernel
theorem dX2_sellerFor_12 : decode cX2_sellerFor 12 = .ok (.invokevirtual 87, 3) := by decide +kernel
theorem dX2_sellerFor_15 : decode cX2_sellerFor 15 = .ok (.ifCond .eq 112, 3) := by decide +kernel
theorem dX2_sellerFor_18 : decode cX2_sellerFor 18 = .ok (.aload_n 0, 1) := by decide +kernel
theorem dX2_sellerFor_19 : decode cX2_sellerFor 19 = .ok (.getfield 60, 3) := by decide +kernel
theorem dX2_sellerFor_22 : decode cX2_sellerFor 22 = .ok (.iload_n 3, 1) := by decide +kernel
theorem dX2_sellerFor_23 : decode cX2_sellerFor 23 = .ok (.iaload, 1) := by decide +kernel
theorem dX2_sellerFor_24 : decode cX2_sellerFor 24 = .ok (.ifCond .le 103, 3) := by decide +kernel
theorem dX2_sellerFor_27 : decode cX2_sellerFor 27 = .ok (.aload_n 0, 1) := by decide +kernel
theorem dX2_sellerFor_28 : decode cX2_sellerFor 28 = .ok (.getfield 16, 3) := by decide +kernel
theorem dX2_sellerFor_31 : decode cX2_sellerFor 31 = .ok (.iload_n 3, 1) := by decide +kernel
theorem dX2_sellerFor_32 : decode cX2_sellerFor 32 = .ok (.iaload, 1) := by decide +kernel
theorem dX2_sellerFor_33 : decode cX2_sellerFor 33 = .ok (.aload_n 0, 1) := by decide +kernel
theorem dX2_sellerFor_34 : decode cX2_sellerFor 34 = .ok (.getfield 16, 3) := by decide +kernel
theorem dX2_sellerFor_37 : decode cX2_sellerFor 37 = .ok (.iload_n 1, 1) := by decide +kernel
theorem dX2_sellerFor_38 : decode cX2_sellerFor 38 = .ok (.iaload, 1) := by decide +kernel
theorem dX2_sellerFor_39 : decode cX2_sellerFor 39 = .ok (.if_icmp .gt 88, 3) := by decide +kernel
theorem dX2_sellerFor_42 : decode cX2_sellerFor 42 = .ok (.iload_n 2, 1) := by decide +kernel
theorem dX2_sellerFor_43 : decode cX2_sellerFor 43 = .ok (.iconst (-1), 1) := by decide +kernel
theorem dX2_sellerFor_44 : decode cX2_sellerFor 44 = .ok (.if_icmp .eq 18, 3) := by decide +kernel
theorem dX2_sellerFor_47 : decode cX2_sellerFor 47 = .ok (.aload_n 0, 1) := by decide +kernel
theorem dX2_sellerFor_48 : decode cX2_sellerFor 48 = .ok (.getfield 16, 3) := by decide +kernel
theorem dX2_sellerFor_51 : decode cX2_sellerFor 51 = .ok (.iload_n 3, 1) := by decide +kernel
theorem dX2_sellerFor_52 : decode cX2_sellerFor 52 = .ok (.iaload, 1) := by decide +kernel
theorem dX2_sellerFor_53 : decode cX2_sellerFor 53 = .ok (.aload_n 0, 1) := by decide +kernel
theorem dX2_sellerFor_54 : decode cX2_sellerFor 54 = .ok (.getfield 16, 3) := by decide +kernel
theorem dX2_sellerFor_57 : decode cX2_sellerFor 57 = .ok (.iload_n 2, 1) := by decide +kernel
theorem dX2_sellerFor_58 : decode cX2_sellerFor 58 = .ok (.iaload, 1) := by decide +kernel
theorem dX2_sellerFor_59 : decode cX2_sellerFor 59 = .ok (.if_icmp .ge 7, 3) := by decide +kernel
theorem dX2_sellerFor_62 : decode cX2_sellerFor 62 = .ok (.iconst 1, 1) := by decide +kernel
theorem dX2_sellerFor_63 : decode cX2_sellerFor 63 = .ok (.goto 4, 3) := by decide +kernel
theorem dX2_sellerFor_66 : decode cX2_sellerFor 66 = .ok (.iconst 0, 1) := by decide +kernel
theorem dX2_sellerFor_67 : decode cX2_sellerFor 67 = .ok (.istore 4, 2) := by decide +kernel
theorem dX2_sellerFor_69 : decode cX2_sellerFor 69 = .ok (.iload_n 2, 1) := by decide +kernel
theorem dX2_sellerFor_70 : decode cX2_sellerFor 70 = .ok (.iconst (-1), 1) := by decide +kernel
theorem dX2_sellerFor_71 : decode cX2_sellerFor 71 = .ok (.if_icmp .eq 37, 3) := by decide +kernel
theorem dX2_sellerFor_74 : decode cX2_sellerFor 74 = .ok (.aload_n 0, 1) := by decide +kernel
theorem dX2_sellerFor_75 : decode cX2_sellerFor 75 = .ok (.getfield 16, 3) := by decide +kernel
theorem dX2_sellerFor_78 : decode cX2_sellerFor 78 = .ok (.iload_n 3, 1) := by decide +kernel
theorem dX2_sellerFor_79 : decode cX2_sellerFor 79 = .ok (.iaload, 1) := by decide +kernel
theorem dX2_sellerFor_80 : decode cX2_sellerFor 80 = .ok (.aload_n 0, 1) := by decide +kernel
theorem dX2_sellerFor_81 : decode cX2_sellerFor 81 = .ok (.getfield 16, 3) := by decide +kernel
theorem dX2_sellerFor_84 : decode cX2_sellerFor 84 = .ok (.iload_n 2, 1) := by decide +kernel
theorem dX2_sellerFor_85 : decode cX2_sellerFor 85 = .ok (.iaload, 1) := by decide +kernel
theorem dX2_sellerFor_86 : decode cX2_sellerFor 86 = .ok (.if_icmp .ne 22, 3) := by decide +kernel
theorem dX2_sellerFor_89 : decode cX2_sellerFor 89 = .ok (.iload_n 3, 1) := by decide +kernel
theorem dX2_sellerFor_90 : decode cX2_sellerFor 90 = .ok (.iload_n 1, 1) := by decide +kernel
theorem dX2_sellerFor_91 : decode cX2_sellerFor 91 = .ok (.isub, 1) := by decide +kernel
theorem dX2_sellerFor_92 : decode cX2_sellerFor 92 = .ok (.invokestatic 90, 3) := by decide +kernel
theorem dX2_sellerFor_95 : decode cX2_sellerFor 95 = .ok (.iload_n 2, 1) := by decide +kernel
theorem dX2_sellerFor_96 : decode cX2_sellerFor 96 = .ok (.iload_n 1, 1) := by decide +kernel
theorem dX2_sellerFor_97 : decode cX2_sellerFor 97 = .ok (.isub, 1) := by decide +kernel
theorem dX2_sellerFor_98 : decode cX2_sellerFor 98 = .ok (.invokestatic 90, 3) := by decide +kernel
theorem dX2_sellerFor_101 : decode cX2_sellerFor 101 = .ok (.if_icmp .ge 7, 3) := by decide +kernel
theorem dX2_sellerFor_104 : decode cX2_sellerFor 104 = .ok (.iconst 1, 1) := by decide +kernel
theorem dX2_sellerFor_105 : decode cX2_sellerFor 105 = .ok (.goto 4, 3) := by decide +kernel
theorem dX2_sellerFor_108 : decode cX2_sellerFor 108 = .ok (.iconst 0, 1) := by decide +kernel
theorem dX2_sellerFor_109 : decode cX2_sellerFor 109 = .ok (.istore 5, 2) := by decide +kernel
theorem dX2_sellerFor_111 : decode cX2_sellerFor 111 = .ok (.iload 4, 2) := by decide +kernel
theorem dX2_sellerFor_113 : decode cX2_sellerFor 113 = .ok (.ifCond .ne 8, 3) := by decide +kernel
theorem dX2_sellerFor_116 : decode cX2_sellerFor 116 = .ok (.iload 5, 2) := by decide +kernel
theorem dX2_sellerFor_118 : decode cX2_sellerFor 118 = .ok (.ifCond .eq 7, 3) := by decide +kernel
theorem dX2_sellerFor_121 : decode cX2_sellerFor 121 = .ok (.iload_n 3, 1) := by decide +kernel
theorem dX2_sellerFor_122 : decode cX2_sellerFor 122 = .ok (.goto 4, 3) := by decide +kernel
theorem dX2_sellerFor_125 : decode cX2_sellerFor 125 = .ok (.iload_n 2, 1) := by decide +kernel
theorem dX2_sellerFor_126 : decode cX2_sellerFor 126 = .ok (.istore_n 2, 1) := by decide +kernel
theorem dX2_sellerFor_127 : decode cX2_sellerFor 127 = .ok (.iinc 3 1, 3) := by decide +kernel
theorem dX2_sellerFor_130 : decode cX2_sellerFor 130 = .ok (.goto (-126), 3) := by decide +kernel
theorem dX2_sellerFor_133 : decode cX2_sellerFor 133 = .ok (.iload_n 2, 1) := by decide +kernel
theorem dX2_sellerFor_134 : decode cX2_sellerFor 134 = .ok (.ireturn, 1) := by decide +kernel
set_option maxRecDepth 20000 in
theorem ggX2_takes_X2_sellerFor : GoodIn wsX2_takes wsX2_sellerFor := goodIn_r _ [12, 1, 7, 13, 14, 15, 11, 16, 17, 18, 19, 20, 21, 25, 26, 27, 28, 29, 30, 31, 32, 33, 34, 35, 36, 37, 38, 39, 40, 41, 42, 43, 44, 45, 46] (by decide +kernel) (by decide +kernel)
set_option maxRecDepth 20000 in
theorem gX2_takes_X2_sellerFor : GoodIn wsX2_takes (wsV RX2 94 RX2 yX2_sellerFor wsX2_sellerFor) := goodIn_app (goodIn_of _ (by decide +kernel)) ggX2_takes_X2_sellerFor
set_option maxRecDepth 20000 in
theorem ggX2_takes_X2_lesser : GoodIn wsX2_takes wsX2_lesser := goodIn_r _ [24] (by decide +kernel) (by decide +kernel)
set_option maxRecDepth 20000 in
theorem gX2_takes_X2_lesser : GoodIn wsX2_takes (va_wsS RX2 97 yX2_lesser wsX2_lesser) := goodIn_app (goodIn_of _ (by decide +kernel)) ggX2_takes_X2_lesser
theorem dX2_takes_0 : decode cX2_takes 0 = .ok (.aload_n 0, 1) := by decide +kernel
theorem dX2_takes_1 : decode cX2_takes 1 = .ok (.iload_n 1, 1) := by decide +kernel
theorem dX2_takes_2 : decode cX2_takes 2 = .ok (.invokevirtual 94, 3) := by decide +kernel
theorem dX2_takes_5 : decode cX2_takes 5 = .ok (.istore_n 2, 1) := by decide +kernel
theorem dX2_takes_6 : decode cX2_takes 6 = .ok (.aload_n 0, 1) := by decide +kernel
theorem dX2_takes_7 : decode cX2_takes 7 = .ok (.getfield 60, 3) := by decide +kernel
theorem dX2_takes_10 : decode cX2_takes 10 = .ok (.iload_n 1, 1) := by decide +kernel
theorem dX2_takes_11 : decode cX2_takes 11 = .ok (.iaload, 1) := by decide +kernel
theorem dX2_takes_12 : decode cX2_takes 12 = .ok (.ifCond .le 117, 3) := by decide +kernel
theorem dX2_takes_15 : decode cX2_takes 15 = .ok (.iload_n 2, 1) := by decide +kernel
theorem dX2_takes_16 : decode cX2_takes 16 = .ok (.iconst (-1), 1) := by decide +kernel
theorem dX2_takes_17 : decode cX2_takes 17 = .ok (.if_icmp .eq 112, 3) := by decide +kernel
theorem dX2_takes_20 : decode cX2_takes 20 = .ok (.aload_n 0, 1) := by decide +kernel
theorem dX2_takes_21 : decode cX2_takes 21 = .ok (.getfield 60, 3) := by decide +kernel
theorem dX2_takes_24 : decode cX2_takes 24 = .ok (.iload_n 1, 1) := by decide +kernel
theorem dX2_takes_25 : decode cX2_takes 25 = .ok (.iaload, 1) := by decide +kernel
theorem dX2_takes_26 : decode cX2_takes 26 = .ok (.aload_n 0, 1) := by decide +kernel
theorem dX2_takes_27 : decode cX2_takes 27 = .ok (.getfield 60, 3) := by decide +kernel
theorem dX2_takes_30 : decode cX2_takes 30 = .ok (.iload_n 2, 1) := by decide +kernel
theorem dX2_takes_31 : decode cX2_takes 31 = .ok (.iaload, 1) := by decide +kernel
theorem dX2_takes_32 : decode cX2_takes 32 = .ok (.invokestatic 97, 3) := by decide +kernel
theorem dX2_takes_35 : decode cX2_takes 35 = .ok (.istore_n 3, 1) := by decide +kernel
theorem dX2_takes_36 : decode cX2_takes 36 = .ok (.aload_n 0, 1) := by decide +kernel
theorem dX2_takes_37 : decode cX2_takes 37 = .ok (.getfield 42, 3) := by decide +kernel
theorem dX2_takes_40 : decode cX2_takes 40 = .ok (.aload_n 0, 1) := by decide +kernel
theorem dX2_takes_41 : decode cX2_takes 41 = .ok (.getfield 101, 3) := by decide +kernel
theorem dX2_takes_44 : decode cX2_takes 44 = .ok (.iload_n 2, 1) := by decide +kernel
theorem dX2_takes_45 : decode cX2_takes 45 = .ok (.iastore, 1) := by decide +kernel
theorem dX2_takes_46 : decode cX2_takes 46 = .ok (.aload_n 0, 1) := by decide +kernel
theorem dX2_takes_47 : decode cX2_takes 47 = .ok (.getfield 45, 3) := by decide +kernel
theorem dX2_takes_50 : decode cX2_takes 50 = .ok (.aload_n 0, 1) := by decide +kernel
theorem dX2_takes_51 : decode cX2_takes 51 = .ok (.getfield 101, 3) := by decide +kernel
theorem dX2_takes_54 : decode cX2_takes 54 = .ok (.iload_n 1, 1) := by decide +kernel
theorem dX2_takes_55 : decode cX2_takes 55 = .ok (.iastore, 1) := by decide +kernel
theorem dX2_takes_56 : decode cX2_takes 56 = .ok (.aload_n 0, 1) := by decide +kernel
theorem dX2_takes_57 : decode cX2_takes 57 = .ok (.getfield 48, 3) := by decide +kernel
theorem dX2_takes_60 : decode cX2_takes 60 = .ok (.aload_n 0, 1) := by decide +kernel
theorem dX2_takes_61 : decode cX2_takes 61 = .ok (.getfield 101, 3) := by decide +kernel
theorem dX2_takes_64 : decode cX2_takes 64 = .ok (.iload_n 3, 1) := by decide +kernel
theorem dX2_takes_65 : decode cX2_takes 65 = .ok (.iastore, 1) := by decide +kernel
theorem dX2_takes_66 : decode cX2_takes 66 = .ok (.aload_n 0, 1) := by decide +kernel
theorem dX2_takes_67 : decode cX2_takes 67 = .ok (.getfield 51, 3) := by decide +kernel
theorem dX2_takes_70 : decode cX2_takes 70 = .ok (.aload_n 0, 1) := by decide +kernel
theorem dX2_takes_71 : decode cX2_takes 71 = .ok (.getfield 101, 3) := by decide +kernel
theorem dX2_takes_74 : decode cX2_takes 74 = .ok (.aload_n 0, 1) := by decide +kernel
theorem dX2_takes_75 : decode cX2_takes 75 = .ok (.getfield 16, 3) := by decide +kernel
theorem dX2_takes_78 : decode cX2_takes 78 = .ok (.iload_n 2, 1) := by decide +kernel
theorem dX2_takes_79 : decode cX2_takes 79 = .ok (.iaload, 1) := by decide +kernel
theorem dX2_takes_80 : decode cX2_takes 80 = .ok (.aload_n 0, 1) := by decide +kernel
theorem dX2_takes_81 : decode cX2_takes 81 = .ok (.getfield 16, 3) := by decide +kernel
theorem dX2_takes_84 : decode cX2_takes 84 = .ok (.iload_n 1, 1) := by decide +kernel
theorem dX2_takes_85 : decode cX2_takes 85 = .ok (.iaload, 1) := by decide +kernel
theorem dX2_takes_86 : decode cX2_takes 86 = .ok (.iadd, 1) := by decide +kernel
theorem dX2_takes_87 : decode cX2_takes 87 = .ok (.iconst 2, 1) := by decide +kernel
theorem dX2_takes_88 : decode cX2_takes 88 = .ok (.idiv, 1) := by decide +kernel
theorem dX2_takes_89 : decode cX2_takes 89 = .ok (.iastore, 1) := by decide +kernel
theorem dX2_takes_90 : decode cX2_takes 90 = .ok (.aload_n 0, 1) := by decide +kernel
theorem dX2_takes_91 : decode cX2_takes 91 = .ok (.dup, 1) := by decide +kernel
theorem dX2_takes_92 : decode cX2_takes 92 = .ok (.getfield 101, 3) := by decide +kernel
theorem dX2_takes_95 : decode cX2_takes 95 = .ok (.iconst 1, 1) := by decide +kernel
theorem dX2_takes_96 : decode cX2_takes 96 = .ok (.iadd, 1) := by decide +kernel
theorem dX2_takes_97 : decode cX2_takes 97 = .ok (.putfield 101, 3) := by decide +kernel
theorem dX2_takes_100 : decode cX2_takes 100 = .ok (.aload_n 0, 1) := by decide +kernel
theorem dX2_takes_101 : decode cX2_takes 101 = .ok (.getfield 60, 3) := by decide +kernel
theorem dX2_takes_104 : decode cX2_takes 104 = .ok (.iload_n 1, 1) := by decide +kernel
theorem dX2_takes_105 : decode cX2_takes 105 = .ok (.dup2, 1) := by decide +kernel
theorem dX2_takes_106 : decode cX2_takes 106 = .ok (.iaload, 1) := by decide +kernel
theorem dX2_takes_107 : decode cX2_takes 107 = .ok (.iload_n 3, 1) := by decide +kernel
theorem dX2_takes_108 : decode cX2_takes 108 = .ok (.isub, 1) := by decide +kernel
theorem dX2_takes_109 : decode cX2_takes 109 = .ok (.iastore, 1) := by decide +kernel
theorem dX2_takes_110 : decode cX2_takes 110 = .ok (.aload_n 0, 1) := by decide +kernel
theorem dX2_takes_111 : decode cX2_takes 111 = .ok (.getfield 60, 3) := by decide +kernel
theorem dX2_takes_114 : decode cX2_takes 114 = .ok (.iload_n 2, 1) := by decide +kernel
theorem dX2_takes_115 : decode cX2_takes 115 = .ok (.dup2, 1) := by decide +kernel
theorem dX2_takes_116 : decode cX2_takes 116 = .ok (.iaload, 1) := by decide +kernel
theorem dX2_takes_117 : decode cX2_takes 117 = .ok (.iload_n 3, 1) := by decide +kernel
theorem dX2_takes_118 : decode cX2_takes 118 = .ok (.isub, 1) := by decide +kernel
theorem dX2_takes_119 : decode cX2_takes 119 = .ok (.iastore, 1) := by decide +kernel
theorem dX2_takes_120 : decode cX2_takes 120 = .ok (.aload_n 0, 1) := by decide +kernel
theorem dX2_takes_121 : decode cX2_takes 121 = .ok (.iload_n 1, 1) := by decide +kernel
theorem dX2_takes_122 : decode cX2_takes 122 = .ok (.invokevirtual 94, 3) := by decide +kernel
theorem dX2_takes_125 : decode cX2_takes 125 = .ok (.istore_n 2, 1) := by decide +kernel
theorem dX2_takes_126 : decode cX2_takes 126 = .ok (.goto (-120), 3) := by decide +kernel
theorem dX2_takes_129 : decode cX2_takes 129 = .ok (.return_, 1) := by decide +kernel
set_option maxRecDepth 20000 in
theorem ggX2_over_X2_lesser : GoodIn wsX2_over wsX2_lesser := goodIn_r _ [6] (by decide +kernel) (by decide +kernel)
set_option maxRecDepth 20000 in
theorem gX2_over_X2_lesser : GoodIn wsX2_over (va_wsS RX2 97 yX2_lesser wsX2_lesser) := goodIn_app (goodIn_of _ (by decide +kernel)) ggX2_over_X2_lesser
theorem dX2_over_0 : decode cX2_over 0 = .ok (.aload_n 0, 1) := by decide +kernel
theorem dX2_over_1 : decode cX2_over 1 = .ok (.getfield 42, 3) := by decide +kernel
theorem dX2_over_4 : decode cX2_over 4 = .ok (.iload_n 1, 1) := by decide +kernel
theorem dX2_over_5 : decode cX2_over 5 = .ok (.iaload, 1) := by decide +kernel
theorem dX2_over_6 : decode cX2_over 6 = .ok (.aload_n 0, 1) := by decide +kernel
theorem dX2_over_7 : decode cX2_over 7 = .ok (.getfield 45, 3) := by decide +kernel
theorem dX2_over_10 : decode cX2_over 10 = .ok (.iload_n 1, 1) := by decide +kernel
theorem dX2_over_11 : decode cX2_over 11 = .ok (.iaload, 1) := by decide +kernel
theorem dX2_over_12 : decode cX2_over 12 = .ok (.invokestatic 97, 3) := by decide +kernel
theorem dX2_over_15 : decode cX2_over 15 = .ok (.istore_n 3, 1) := by decide +kernel
theorem dX2_over_16 : decode cX2_over 16 = .ok (.aload_n 0, 1) := by decide +kernel
theorem dX2_over_17 : decode cX2_over 17 = .ok (.getfield 42, 3) := by decide +kernel
theorem dX2_over_20 : decode cX2_over 20 = .ok (.iload_n 1, 1) := by decide +kernel
theorem dX2_over_21 : decode cX2_over 21 = .ok (.iaload, 1) := by decide +kernel
theorem dX2_over_22 : decode cX2_over 22 = .ok (.aload_n 0, 1) := by decide +kernel
theorem dX2_over_23 : decode cX2_over 23 = .ok (.getfield 45, 3) := by decide +kernel
theorem dX2_over_26 : decode cX2_over 26 = .ok (.iload_n 1, 1) := by decide +kernel
theorem dX2_over_27 : decode cX2_over 27 = .ok (.iaload, 1) := by decide +kernel
theorem dX2_over_28 : decode cX2_over 28 = .ok (.iadd, 1) := by decide +kernel
theorem dX2_over_29 : decode cX2_over 29 = .ok (.iload_n 3, 1) := by decide +kernel
theorem dX2_over_30 : decode cX2_over 30 = .ok (.isub, 1) := by decide +kernel
theorem dX2_over_31 : decode cX2_over 31 = .ok (.istore 4, 2) := by decide +kernel
theorem dX2_over_33 : decode cX2_over 33 = .ok (.iload_n 2, 1) := by decide +kernel
theorem dX2_over_34 : decode cX2_over 34 = .ok (.iload_n 3, 1) := by decide +kernel
theorem dX2_over_35 : decode cX2_over 35 = .ok (.if_icmp .lt 9, 3) := by decide +kernel
theorem dX2_over_38 : decode cX2_over 38 = .ok (.iload_n 2, 1) := by decide +kernel
theorem dX2_over_39 : decode cX2_over 39 = .ok (.iload 4, 2) := by decide +kernel
theorem dX2_over_41 : decode cX2_over 41 = .ok (.if_icmp .lt 7, 3) := by decide +kernel
theorem dX2_over_44 : decode cX2_over 44 = .ok (.iconst 0, 1) := by decide +kernel
theorem dX2_over_45 : decode cX2_over 45 = .ok (.goto 18, 3) := by decide +kernel
theorem dX2_over_48 : decode cX2_over 48 = .ok (.aload_n 0, 1) := by decide +kernel
theorem dX2_over_49 : decode cX2_over 49 = .ok (.getfield 42, 3) := by decide +kernel
theorem dX2_over_52 : decode cX2_over 52 = .ok (.iload_n 1, 1) := by decide +kernel
theorem dX2_over_53 : decode cX2_over 53 = .ok (.iaload, 1) := by decide +kernel
theorem dX2_over_54 : decode cX2_over 54 = .ok (.iload_n 3, 1) := by decide +kernel
theorem dX2_over_55 : decode cX2_over 55 = .ok (.if_icmp .ne 7, 3) := by decide +kernel
theorem dX2_over_58 : decode cX2_over 58 = .ok (.iconst 1, 1) := by decide +kernel
theorem dX2_over_59 : decode cX2_over 59 = .ok (.goto 4, 3) := by decide +kernel
theorem dX2_over_62 : decode cX2_over 62 = .ok (.iconst (-1), 1) := by decide +kernel
theorem dX2_over_63 : decode cX2_over 63 = .ok (.ireturn, 1) := by decide +kernel
set_option maxRecDepth 20000 in
theorem ggX2_flowOver_X2_over : GoodIn wsX2_flowOver wsX2_over := goodIn_r _ [7, 8, 9, 10, 11, 6, 12, 13, 14, 15, 16, 17, 18, 19, 20, 21, 22, 23, 24, 25, 26, 27, 28, 29, 30, 31, 32, 33, 34] (by decide +kernel) (by decide +kernel)
set_option maxRecDepth 20000 in
theorem gX2_flowOver_X2_over : GoodIn wsX2_flowOver (wsV RX2 104 RX2 yX2_over wsX2_over) := goodIn_app (goodIn_of _ (by decide +kernel)) ggX2_flowOver_X2_over
theorem dX2_flowOver_0 : decode cX2_flowOver 0 = .ok (.iconst 0, 1) := by decide +kernel
theorem dX2_flowOver_1 : decode cX2_flowOver 1 = .ok (.istore_n 2, 1) := by decide +kernel
theorem dX2_flowOver_2 : decode cX2_flowOver 2 = .ok (.iconst 0, 1) := by decide +kernel
theorem dX2_flowOver_3 : decode cX2_flowOver 3 = .ok (.istore_n 3, 1) := by decide +kernel
theorem dX2_flowOver_4 : decode cX2_flowOver 4 = .ok (.iload_n 3, 1) := by decide +kernel
theorem dX2_flowOver_5 : decode cX2_flowOver 5 = .ok (.aload_n 0, 1) := by decide +kernel
theorem dX2_flowOver_6 : decode cX2_flowOver 6 = .ok (.getfield 101, 3) := by decide +kernel
theorem dX2_flowOver_9 : decode cX2_flowOver 9 = .ok (.if_icmp .ge 25, 3) := by decide +kernel
theorem dX2_flowOver_12 : decode cX2_flowOver 12 = .ok (.iload_n 2, 1) := by decide +kernel
theorem dX2_flowOver_13 : decode cX2_flowOver 13 = .ok (.aload_n 0, 1) := by decide +kernel
theorem dX2_flowOver_14 : decode cX2_flowOver 14 = .ok (.iload_n 3, 1) := by decide +kernel
theorem dX2_flowOver_15 : decode cX2_flowOver 15 = .ok (.iload_n 1, 1) := by decide +kernel
theorem dX2_flowOver_16 : decode cX2_flowOver 16 = .ok (.invokevirtual 104, 3) := by decide +kernel
theorem dX2_flowOver_19 : decode cX2_flowOver 19 = .ok (.aload_n 0, 1) := by decide +kernel
theorem dX2_flowOver_20 : decode cX2_flowOver 20 = .ok (.getfield 48, 3) := by decide +kernel
theorem dX2_flowOver_23 : decode cX2_flowOver 23 = .ok (.iload_n 3, 1) := by decide +kernel
theorem dX2_flowOver_24 : decode cX2_flowOver 24 = .ok (.iaload, 1) := by decide +kernel
theorem dX2_flowOver_25 : decode cX2_flowOver 25 = .ok (.imul, 1) := by decide +kernel
theorem dX2_flowOver_26 : decode cX2_flowOver 26 = .ok (.iadd, 1) := by decide +kernel
theorem dX2_flowOver_27 : decode cX2_flowOver 27 = .ok (.istore_n 2, 1) := by decide +kernel
theorem dX2_flowOver_28 : decode cX2_flowOver 28 = .ok (.iinc 3 1, 3) := by decide +kernel
theorem dX2_flowOver_31 : decode cX2_flowOver 31 = .ok (.goto (-27), 3) := by decide +kernel
theorem dX2_flowOver_34 : decode cX2_flowOver 34 = .ok (.iload_n 2, 1) := by decide +kernel
theorem dX2_flowOver_35 : decode cX2_flowOver 35 = .ok (.ireturn, 1) := by decide +kernel
set_option maxRecDepth 20000 in
theorem ggX2_cuts_X2_flowOver : GoodIn wsX2_cuts wsX2_flowOver := goodIn_r _ [13, 2, 3, 14, 15, 16, 12, 17, 5, 6, 18, 19, 20, 24, 25, 26, 27, 28, 29, 30, 31, 32, 33, 34, 35, 36, 37, 38, 39, 40, 41, 42, 43, 44, 45] (by decide +kernel) (by decide +kernel)
set_option maxRecDepth 20000 in
theorem gX2_cuts_X2_flowOver : GoodIn wsX2_cuts (wsV RX2 107 RX2 yX2_flowOver wsX2_flowOver) := goodIn_app (goodIn_of _ (by decide +kernel)) ggX2_cuts_X2_flowOver
set_option maxRecDepth 20000 in
theorem ggX2_cuts_X2_size : GoodIn wsX2_cuts wsX2_size := goodIn_r _ [23] (by decide +kernel) (by decide +kernel)
set_option maxRecDepth 20000 in
theorem gX2_cuts_X2_size : GoodIn wsX2_cuts (va_wsS RX2 90 yX2_size wsX2_size) := goodIn_app (goodIn_of _ (by decide +kernel)) ggX2_cuts_X2_size
set_option maxRecDepth 20000 in
theorem ggX2_cuts_X2_over : GoodIn wsX2_cuts wsX2_over := goodIn_r _ [17, 5, 6, 18, 19, 12, 20, 24, 25, 26, 27, 28, 29, 30, 31, 32, 33, 34, 35, 36, 37, 38, 39, 40, 41, 42, 43, 44, 45] (by decide +kernel) (by decide +kernel)
set_option maxRecDepth 20000 in
theorem gX2_cuts_X2_over : GoodIn wsX2_cuts (wsV RX2 104 RX2 yX2_over wsX2_over) := goodIn_app (goodIn_of _ (by decide +kernel)) ggX2_cuts_X2_over
set_option maxRecDepth 20000 in
theorem ggX2_cuts_X2_lesser : GoodIn wsX2_cuts wsX2_lesser := goodIn_r _ [20] (by decide +kernel) (by decide +kernel)
set_option maxRecDepth 20000 in
theorem gX2_cuts_X2_lesser : GoodIn wsX2_cuts (va_wsS RX2 97 yX2_lesser wsX2_lesser) := goodIn_app (goodIn_of _ (by decide +kernel)) ggX2_cuts_X2_lesser
theorem dX2_cuts_0 : decode cX2_cuts 0 = .ok (.iconst 0, 1) := by decide +kernel
theorem dX2_cuts_1 : decode cX2_cuts 1 = .ok (.istore_n 2, 1) := by decide +kernel
theorem dX2_cuts_2 : decode cX2_cuts 2 = .ok (.aload_n 0, 1) := by decide +kernel
theorem dX2_cuts_3 : decode cX2_cuts 3 = .ok (.iload_n 1, 1) := by decide +kernel
theorem dX2_cuts_4 : decode cX2_cuts 4 = .ok (.invokevirtual 107, 3) := by decide +kernel
theorem dX2_cuts_7 : decode cX2_cuts 7 = .ok (.invokestatic 90, 3) := by decide +kernel
theorem dX2_cuts_10 : decode cX2_cuts 10 = .ok (.aload_n 0, 1) := by decide +kernel
theorem dX2_cuts_11 : decode cX2_cuts 11 = .ok (.getfield 19, 3) := by decide +kernel
theorem dX2_cuts_14 : decode cX2_cuts 14 = .ok (.iload_n 1, 1) := by decide +kernel
theorem dX2_cuts_15 : decode cX2_cuts 15 = .ok (.iaload, 1) := by decide +kernel
theorem dX2_cuts_16 : decode cX2_cuts 16 = .ok (.if_icmp .le 173, 3) := by decide +kernel
theorem dX2_cuts_19 : decode cX2_cuts 19 = .ok (.aload_n 0, 1) := by decide +kernel
theorem dX2_cuts_20 : decode cX2_cuts 20 = .ok (.iload_n 1, 1) := by decide +kernel
theorem dX2_cuts_21 : decode cX2_cuts 21 = .ok (.invokevirtual 107, 3) := by decide +kernel
theorem dX2_cuts_24 : decode cX2_cuts 24 = .ok (.istore_n 3, 1) := by decide +kernel
theorem dX2_cuts_25 : decode cX2_cuts 25 = .ok (.iconst (-1), 1) := by decide +kernel
theorem dX2_cuts_26 : decode cX2_cuts 26 = .ok (.istore 4, 2) := by decide +kernel
theorem dX2_cuts_28 : decode cX2_cuts 28 = .ok (.iconst 0, 1) := by decide +kernel
theorem dX2_cuts_29 : decode cX2_cuts 29 = .ok (.istore 5, 2) := by decide +kernel
theorem dX2_cuts_31 : decode cX2_cuts 31 = .ok (.iload 5, 2) := by decide +kernel
theorem dX2_cuts_33 : decode cX2_cuts 33 = .ok (.aload_n 0, 1) := by decide +kernel
theorem dX2_cuts_34 : decode cX2_cuts 34 = .ok (.getfield 101, 3) := by decide +kernel
theorem dX2_cuts_37 : decode cX2_cuts 37 = .ok (.if_icmp .ge 47, 3) := by decide +kernel
theorem dX2_cuts_40 : decode cX2_cuts 40 = .ok (.aload_n 0, 1) := by decide +kernel
theorem dX2_cuts_41 : decode cX2_cuts 41 = .ok (.getfield 48, 3) := by decide +kernel
theorem dX2_cuts_44 : decode cX2_cuts 44 = .ok (.iload 5, 2) := by decide +kernel
theorem dX2_cuts_46 : decode cX2_cuts 46 = .ok (.iaload, 1) := by decide +kernel
theorem dX2_cuts_47 : decode cX2_cuts 47 = .ok (.ifCond .le 27, 3) := by decide +kernel
theorem dX2_cuts_50 : decode cX2_cuts 50 = .ok (.aload_n 0, 1) := by decide +kernel
theorem dX2_cuts_51 : decode cX2_cuts 51 = .ok (.iload 5, 2) := by decide +kernel
theorem dX2_cuts_53 : decode cX2_cuts 53 = .ok (.iload_n 1, 1) := by decide +kernel
theorem dX2_cuts_54 : decode cX2_cuts 54 = .ok (.invokevirtual 104, 3) := by decide +kernel
theorem dX2_cuts_57 : decode cX2_cuts 57 = .ok (.iload_n 3, 1) := by decide +kernel
theorem dX2_cuts_58 : decode cX2_cuts 58 = .ok (.ifCond .le 7, 3) := by decide +kernel
theorem dX2_cuts_61 : decode cX2_cuts 61 = .ok (.iconst 1, 1) := by decide +kernel
theorem dX2_cuts_62 : decode cX2_cuts 62 = .ok (.goto 4, 3) := by decide +kernel
theorem dX2_cuts_65 : decode cX2_cuts 65 = .ok (.iconst (-1), 1) := by decide +kernel
theorem dX2_cuts_66 : decode cX2_cuts 66 = .ok (.if_icmp .ne 8, 3) := by decide +kernel
theorem dX2_cuts_69 : decode cX2_cuts 69 = .ok (.iload 5, 2) := by decide +kernel
theorem dX2_cuts_71 : decode cX2_cuts 71 = .ok (.goto 5, 3) := by decide +kernel
theorem dX2_cuts_74 : decode cX2_cuts 74 = .ok (.iload 4, 2) := by decide +kernel
theorem dX2_cuts_76 : decode cX2_cuts 76 = .ok (.istore 4, 2) := by decide +kernel
theorem dX2_cuts_78 : decode cX2_cuts 78 = .ok (.iinc 5 1, 3) := by decide +kernel
theorem dX2_cuts_81 : decode cX2_cuts 81 = .ok (.goto (-50), 3) := by decide +kernel
theorem dX2_cuts_84 : decode cX2_cuts 84 = .ok (.aload_n 0, 1) := by decide +kernel
theorem dX2_cuts_85 : decode cX2_cuts 85 = .ok (.getfield 48, 3) := by decide +kernel
theorem dX2_cuts_88 : decode cX2_cuts 88 = .ok (.iload 4, 2) := by decide +kernel
theorem dX2_cuts_90 : decode cX2_cuts 90 = .ok (.iaload, 1) := by decide +kernel
theorem dX2_cuts_91 : decode cX2_cuts 91 = .ok (.iload_n 3, 1) := by decide +kernel
theorem dX2_cuts_92 : decode cX2_cuts 92 = .ok (.invokestatic 90, 3) := by decide +kernel
theorem dX2_cuts_95 : decode cX2_cuts 95 = .ok (.aload_n 0, 1) := by decide +kernel
theorem dX2_cuts_96 : decode cX2_cuts 96 = .ok (.getfield 19, 3) := by decide +kernel
theorem dX2_cuts_99 : decode cX2_cuts 99 = .ok (.iload_n 1, 1) := by decide +kernel
theorem dX2_cuts_100 : decode cX2_cuts 100 = .ok (.iaload, 1) := by decide +kernel
theorem dX2_cuts_101 : decode cX2_cuts 101 = .ok (.isub, 1) := by decide +kernel
theorem dX2_cuts_102 : decode cX2_cuts 102 = .ok (.invokestatic 97, 3) := by decide +kernel
theorem dX2_cuts_105 : decode cX2_cuts 105 = .ok (.istore 5, 2) := by decide +kernel
theorem dX2_cuts_107 : decode cX2_cuts 107 = .ok (.aload_n 0, 1) := by decide +kernel
theorem dX2_cuts_108 : decode cX2_cuts 108 = .ok (.getfield 48, 3) := by decide +kernel
theorem dX2_cuts_111 : decode cX2_cuts 111 = .ok (.iload 4, 2) := by decide +kernel
theorem dX2_cuts_113 : decode cX2_cuts 113 = .ok (.dup2, 1) := by decide +kernel
theorem dX2_cuts_114 : decode cX2_cuts 114 = .ok (.iaload, 1) := by decide +kernel
theorem dX2_cuts_115 : decode cX2_cuts 115 = .ok (.iload 5, 2) := by decide +kernel
theorem dX2_cuts_117 : decode cX2_cuts 117 = .ok (.isub, 1) := by decide +kernel
theorem dX2_cuts_118 : decode cX2_cuts 118 = .ok (.iastore, 1) := by decide +kernel
theorem dX2_cuts_119 : decode cX2_cuts 119 = .ok (.aload_n 0, 1) := by decide +kernel
theorem dX2_cuts_120 : decode cX2_cuts 120 = .ok (.getfield 60, 3) := by decide +kernel
theorem dX2_cuts_123 : decode cX2_cuts 123 = .ok (.aload_n 0, 1) := by decide +kernel
theorem dX2_cuts_124 : decode cX2_cuts 124 = .ok (.getfield 42, 3) := by decide +kernel
theorem dX2_cuts_127 : decode cX2_cuts 127 = .ok (.iload 4, 2) := by decide +kernel
theorem dX2_cuts_129 : decode cX2_cuts 129 = .ok (.iaload, 1) := by decide +kernel
theorem dX2_cuts_130 : decode cX2_cuts 130 = .ok (.dup2, 1) := by decide +kernel
theorem dX2_cuts_131 : decode cX2_cuts 131 = .ok (.iaload, 1) := by decide +kernel
theorem dX2_cuts_132 : decode cX2_cuts 132 = .ok (.iload 5, 2) := by decide +kernel
theorem dX2_cuts_134 : decode cX2_cuts 134 = .ok (.iadd, 1) := by decide +kernel
theorem dX2_cuts_135 : decode cX2_cuts 135 = .ok (.iastore, 1) := by decide +kernel
theorem dX2_cuts_136 : decode cX2_cuts 136 = .ok (.aload_n 0, 1) := by decide +kernel
theorem dX2_cuts_137 : decode cX2_cuts 137 = .ok (.getfield 60, 3) := by decide +kernel
theorem dX2_cuts_140 : decode cX2_cuts 140 = .ok (.aload_n 0, 1) := by decide +kernel
theorem dX2_cuts_141 : decode cX2_cuts 141 = .ok (.getfield 45, 3) := by decide +kernel
theorem dX2_cuts_144 : decode cX2_cuts 144 = .ok (.iload 4, 2) := by decide +kernel
theorem dX2_cuts_146 : decode cX2_cuts 146 = .ok (.iaload, 1) := by decide +kernel
theorem dX2_cuts_147 : decode cX2_cuts 147 = .ok (.dup2, 1) := by decide +kernel
theorem dX2_cuts_148 : decode cX2_cuts 148 = .ok (.iaload, 1) := by decide +kernel
theorem dX2_cuts_149 : decode cX2_cuts 149 = .ok (.iload 5, 2) := by decide +kernel
theorem dX2_cuts_151 : decode cX2_cuts 151 = .ok (.iadd, 1) := by decide +kernel
theorem dX2_cuts_152 : decode cX2_cuts 152 = .ok (.iastore, 1) := by decide +kernel
theorem dX2_cuts_153 : decode cX2_cuts 153 = .ok (.aload_n 0, 1) := by decide +kernel
theorem dX2_cuts_154 : decode cX2_cuts 154 = .ok (.getfield 28, 3) := by decide +kernel
theorem dX2_cuts_157 : decode cX2_cuts 157 = .ok (.aload_n 0, 1) := by decide +kernel
theorem dX2_cuts_158 : decode cX2_cuts 158 = .ok (.getfield 42, 3) := by decide +kernel
theorem dX2_cuts_161 : decode cX2_cuts 161 = .ok (.iload 4, 2) := by decide +kernel
theorem dX2_cuts_163 : decode cX2_cuts 163 = .ok (.iaload, 1) := by decide +kernel
theorem dX2_cuts_164 : decode cX2_cuts 164 = .ok (.dup2, 1) := by decide +kernel
theorem dX2_cuts_165 : decode cX2_cuts 165 = .ok (.iaload, 1) := by decide +kernel
theorem dX2_cuts_166 : decode cX2_cuts 166 = .ok (.iload 5, 2) := by decide +kernel
theorem dX2_cuts_168 : decode cX2_cuts 168 = .ok (.isub, 1) := by decide +kernel
theorem dX2_cuts_169 : decode cX2_cuts 169 = .ok (.iastore, 1) := by decide +kernel
theorem dX2_cuts_170 : decode cX2_cuts 170 = .ok (.aload_n 0, 1) := by decide +kernel
theorem dX2_cuts_171 : decode cX2_cuts 171 = .ok (.dup, 1) := by decide +kernel
theorem dX2_cuts_172 : decode cX2_cuts 172 = .ok (.getfield 81, 3) := by decide +kernel
theorem dX2_cuts_175 : decode cX2_cuts 175 = .ok (.iload 5, 2) := by decide +kernel
theorem dX2_cuts_177 : decode cX2_cuts 177 = .ok (.isub, 1) := by decide +kernel
theorem dX2_cuts_178 : decode cX2_cuts 178 = .ok (.putfield 81, 3) := by decide +kernel
theorem dX2_cuts_181 : decode cX2_cuts 181 = .ok (.iload_n 2, 1) := by decide +kernel
theorem dX2_cuts_182 : decode cX2_cuts 182 = .ok (.iload 5, 2) := by decide +kernel
theorem dX2_cuts_184 : decode cX2_cuts 184 = .ok (.iadd, 1) := by decide +kernel
theorem dX2_cuts_185 : decode cX2_cuts 185 = .ok (.istore_n 2, 1) := by decide +kernel
theorem dX2_cuts_186 : decode cX2_cuts 186 = .ok (.goto (-184), 3) := by decide +kernel
theorem dX2_cuts_189 : decode cX2_cuts 189 = .ok (.iload_n 2, 1) := by decide +kernel
theorem dX2_cuts_190 : decode cX2_cuts 190 = .ok (.ireturn, 1) := by decide +kernel
set_option maxRecDepth 20000 in
theorem ggX2_keeps_X2_lesser : GoodIn wsX2_keeps wsX2_lesser := goodIn_r _ [11] (by decide +kernel) (by decide +kernel)
set_option maxRecDepth 20000 in
theorem gX2_keeps_X2_lesser : GoodIn wsX2_keeps (va_wsS RX2 97 yX2_lesser wsX2_lesser) := goodIn_app (goodIn_of _ (by decide +kernel)) ggX2_keeps_X2_lesser
theorem dX2_keeps_0 : decode cX2_keeps 0 = .ok (.aload_n 0, 1) := by decide +kernel
theorem dX2_keeps_1 : decode cX2_keeps 1 = .ok (.getfield 60, 3) := by decide +kernel
theorem dX2_keeps_4 : decode cX2_keeps 4 = .ok (.iload_n 1, 1) := by decide +kernel
theorem dX2_keeps_5 : decode cX2_keeps 5 = .ok (.iaload, 1) := by decide +kernel
theorem dX2_keeps_6 : decode cX2_keeps 6 = .ok (.aload_n 0, 1) := by decide +kernel
theorem dX2_keeps_7 : decode cX2_keeps 7 = .ok (.getfield 22, 3) := by decide +kernel
theorem dX2_keeps_10 : decode cX2_keeps 10 = .ok (.iload_n 1, 1) := by decide +kernel
theorem dX2_keeps_11 : decode cX2_keeps 11 = .ok (.iaload, 1) := by decide +kernel
theorem dX2_keeps_12 : decode cX2_keeps 12 = .ok (.aload_n 0, 1) := by decide +kernel
theorem dX2_keeps_13 : decode cX2_keeps 13 = .ok (.getfield 25, 3) := by decide +kernel
theorem dX2_keeps_16 : decode cX2_keeps 16 = .ok (.iload_n 1, 1) := by decide +kernel
theorem dX2_keeps_17 : decode cX2_keeps 17 = .ok (.iaload, 1) := by decide +kernel
theorem dX2_keeps_18 : decode cX2_keeps 18 = .ok (.isub, 1) := by decide +kernel
theorem dX2_keeps_19 : decode cX2_keeps 19 = .ok (.invokestatic 97, 3) := by decide +kernel
theorem dX2_keeps_22 : decode cX2_keeps 22 = .ok (.istore_n 2, 1) := by decide +kernel
theorem dX2_keeps_23 : decode cX2_keeps 23 = .ok (.aload_n 0, 1) := by decide +kernel
theorem dX2_keeps_24 : decode cX2_keeps 24 = .ok (.getfield 25, 3) := by decide +kernel
theorem dX2_keeps_27 : decode cX2_keeps 27 = .ok (.iload_n 1, 1) := by decide +kernel
theorem dX2_keeps_28 : decode cX2_keeps 28 = .ok (.dup2, 1) := by decide +kernel
theorem dX2_keeps_29 : decode cX2_keeps 29 = .ok (.iaload, 1) := by decide +kernel
theorem dX2_keeps_30 : decode cX2_keeps 30 = .ok (.iload_n 2, 1) := by decide +kernel
theorem dX2_keeps_31 : decode cX2_keeps 31 = .ok (.iadd, 1) := by decide +kernel
theorem dX2_keeps_32 : decode cX2_keeps 32 = .ok (.iastore, 1) := by decide +kernel
theorem dX2_keeps_33 : decode cX2_keeps 33 = .ok (.aload_n 0, 1) := by decide +kernel
theorem dX2_keeps_34 : decode cX2_keeps 34 = .ok (.getfield 60, 3) := by decide +kernel
theorem dX2_keeps_37 : decode cX2_keeps 37 = .ok (.iload_n 1, 1) := by decide +kernel
theorem dX2_keeps_38 : decode cX2_keeps 38 = .ok (.dup2, 1) := by decide +kernel
theorem dX2_keeps_39 : decode cX2_keeps 39 = .ok (.iaload, 1) := by decide +kernel
theorem dX2_keeps_40 : decode cX2_keeps 40 = .ok (.iload_n 2, 1) := by decide +kernel
theorem dX2_keeps_41 : decode cX2_keeps 41 = .ok (.isub, 1) := by decide +kernel
theorem dX2_keeps_42 : decode cX2_keeps 42 = .ok (.iastore, 1) := by decide +kernel
theorem dX2_keeps_43 : decode cX2_keeps 43 = .ok (.aload_n 0, 1) := by decide +kernel
theorem dX2_keeps_44 : decode cX2_keeps 44 = .ok (.getfield 54, 3) := by decide +kernel
theorem dX2_keeps_47 : decode cX2_keeps 47 = .ok (.iconst 2, 1) := by decide +kernel
theorem dX2_keeps_48 : decode cX2_keeps 48 = .ok (.dup2, 1) := by decide +kernel
theorem dX2_keeps_49 : decode cX2_keeps 49 = .ok (.iaload, 1) := by decide +kernel
theorem dX2_keeps_50 : decode cX2_keeps 50 = .ok (.iload_n 2, 1) := by decide +kernel
theorem dX2_keeps_51 : decode cX2_keeps 51 = .ok (.iadd, 1) := by decide +kernel
theorem dX2_keeps_52 : decode cX2_keeps 52 = .ok (.iastore, 1) := by decide +kernel
theorem dX2_keeps_53 : decode cX2_keeps 53 = .ok (.aload_n 0, 1) := by decide +kernel
theorem dX2_keeps_54 : decode cX2_keeps 54 = .ok (.getfield 54, 3) := by decide +kernel
theorem dX2_keeps_57 : decode cX2_keeps 57 = .ok (.iconst 5, 1) := by decide +kernel
theorem dX2_keeps_58 : decode cX2_keeps 58 = .ok (.dup2, 1) := by decide +kernel
theorem dX2_keeps_59 : decode cX2_keeps 59 = .ok (.iaload, 1) := by decide +kernel
theorem dX2_keeps_60 : decode cX2_keeps 60 = .ok (.aload_n 0, 1) := by decide +kernel
theorem dX2_keeps_61 : decode cX2_keeps 61 = .ok (.getfield 60, 3) := by decide +kernel
theorem dX2_keeps_64 : decode cX2_keeps 64 = .ok (.iload_n 1, 1) := by decide +kernel
theorem dX2_keeps_65 : decode cX2_keeps 65 = .ok (.iaload, 1) := by decide +kernel
theorem dX2_keeps_66 : decode cX2_keeps 66 = .ok (.iadd, 1) := by decide +kernel
theorem dX2_keeps_67 : decode cX2_keeps 67 = .ok (.iastore, 1) := by decide +kernel
theorem dX2_keeps_68 : decode cX2_keeps 68 = .ok (.aload_n 0, 1) := by decide +kernel
theorem dX2_keeps_69 : decode cX2_keeps 69 = .ok (.getfield 28, 3) := by decide +kernel
theorem dX2_keeps_72 : decode cX2_keeps 72 = .ok (.iload_n 1, 1) := by decide +kernel
theorem dX2_keeps_73 : decode cX2_keeps 73 = .ok (.dup2, 1) := by decide +kernel
theorem dX2_keeps_74 : decode cX2_keeps 74 = .ok (.iaload, 1) := by decide +kernel
theorem dX2_keeps_75 : decode cX2_keeps 75 = .ok (.aload_n 0, 1) := by decide +kernel
theorem dX2_keeps_76 : decode cX2_keeps 76 = .ok (.getfield 60, 3) := by decide +kernel
theorem dX2_keeps_79 : decode cX2_keeps 79 = .ok (.iload_n 1, 1) := by decide +kernel
theorem dX2_keeps_80 : decode cX2_keeps 80 = .ok (.iaload, 1) := by decide +kernel
theorem dX2_keeps_81 : decode cX2_keeps 81 = .ok (.aload_n 0, 1) := by decide +kernel
theorem dX2_keeps_82 : decode cX2_keeps 82 = .ok (.getfield 39, 3) := by decide +kernel
theorem dX2_keeps_85 : decode cX2_keeps 85 = .ok (.imul, 1) := by decide +kernel
theorem dX2_keeps_86 : decode cX2_keeps 86 = .ok (.isub, 1) := by decide +kernel
theorem dX2_keeps_87 : decode cX2_keeps 87 = .ok (.iastore, 1) := by decide +kernel
theorem dX2_keeps_88 : decode cX2_keeps 88 = .ok (.aload_n 0, 1) := by decide +kernel
theorem dX2_keeps_89 : decode cX2_keeps 89 = .ok (.dup, 1) := by decide +kernel
theorem dX2_keeps_90 : decode cX2_keeps 90 = .ok (.getfield 110, 3) := by decide +kernel
theorem dX2_keeps_93 : decode cX2_keeps 93 = .ok (.aload_n 0, 1) := by decide +kernel
theorem dX2_keeps_94 : decode cX2_keeps 94 = .ok (.getfield 60, 3) := by decide +kernel
theorem dX2_keeps_97 : decode cX2_keeps 97 = .ok (.iload_n 1, 1) := by decide +kernel
theorem dX2_keeps_98 : decode cX2_keeps 98 = .ok (.iaload, 1) := by decide +kernel
theorem dX2_keeps_99 : decode cX2_keeps 99 = .ok (.aload_n 0, 1) := by decide +kernel
theorem dX2_keeps_100 : decode cX2_keeps 100 = .ok (.getfield 39, 3) := by decide +kernel
theorem dX2_keeps_103 : decode cX2_keeps 103 = .ok (.imul, 1) := by decide +kernel
theorem dX2_keeps_104 : decode cX2_keeps 104 = .ok (.isub, 1) := by decide +kernel
theorem dX2_keeps_105 : decode cX2_keeps 105 = .ok (.putfield 110, 3) := by decide +kernel
theorem dX2_keeps_108 : decode cX2_keeps 108 = .ok (.return_, 1) := by decide +kernel
set_option maxRecDepth 20000 in
theorem ggX2_draws_X2_lesser : GoodIn wsX2_draws wsX2_lesser := goodIn_r _ [12] (by decide +kernel) (by decide +kernel)
set_option maxRecDepth 20000 in
theorem gX2_draws_X2_lesser : GoodIn wsX2_draws (va_wsS RX2 97 yX2_lesser wsX2_lesser) := goodIn_app (goodIn_of _ (by decide +kernel)) ggX2_draws_X2_lesser
theorem dX2_draws_0 : decode cX2_draws 0 = .ok (.aload_n 0, 1) := by decide +kernel
theorem dX2_draws_1 : decode cX2_draws 1 = .ok (.getfield 60, 3) := by decide +kernel
theorem dX2_draws_4 : decode cX2_draws 4 = .ok (.iload_n 1, 1) := by decide +kernel
theorem dX2_draws_5 : decode cX2_draws 5 = .ok (.iaload, 1) := by decide +kernel
theorem dX2_draws_6 : decode cX2_draws 6 = .ok (.aload_n 0, 1) := by decide +kernel
theorem dX2_draws_7 : decode cX2_draws 7 = .ok (.getfield 25, 3) := by decide +kernel
theorem dX2_draws_10 : decode cX2_draws 10 = .ok (.iload_n 1, 1) := by decide +kernel
theorem dX2_draws_11 : decode cX2_draws 11 = .ok (.iaload, 1) := by decide +kernel
theorem dX2_draws_12 : decode cX2_draws 12 = .ok (.invokestatic 97, 3) := by decide +kernel
theorem dX2_draws_15 : decode cX2_draws 15 = .ok (.istore_n 2, 1) := by decide +kernel
theorem dX2_draws_16 : decode cX2_draws 16 = .ok (.aload_n 0, 1) := by decide +kernel
theorem dX2_draws_17 : decode cX2_draws 17 = .ok (.getfield 25, 3) := by decide +kernel
theorem dX2_draws_20 : decode cX2_draws 20 = .ok (.iload_n 1, 1) := by decide +kernel
theorem dX2_draws_21 : decode cX2_draws 21 = .ok (.dup2, 1) := by decide +kernel
theorem dX2_draws_22 : decode cX2_draws 22 = .ok (.iaload, 1) := by decide +kernel
theorem dX2_draws_23 : decode cX2_draws 23 = .ok (.iload_n 2, 1) := by decide +kernel
theorem dX2_draws_24 : decode cX2_draws 24 = .ok (.isub, 1) := by decide +kernel
theorem dX2_draws_25 : decode cX2_draws 25 = .ok (.iastore, 1) := by decide +kernel
theorem dX2_draws_26 : decode cX2_draws 26 = .ok (.aload_n 0, 1) := by decide +kernel
theorem dX2_draws_27 : decode cX2_draws 27 = .ok (.getfield 60, 3) := by decide +kernel
theorem dX2_draws_30 : decode cX2_draws 30 = .ok (.iload_n 1, 1) := by decide +kernel
theorem dX2_draws_31 : decode cX2_draws 31 = .ok (.dup2, 1) := by decide +kernel
theorem dX2_draws_32 : decode cX2_draws 32 = .ok (.iaload, 1) := by decide +kernel
theorem dX2_draws_33 : decode cX2_draws 33 = .ok (.iload_n 2, 1) := by decide +kernel
theorem dX2_draws_34 : decode cX2_draws 34 = .ok (.isub, 1) := by decide +kernel
theorem dX2_draws_35 : decode cX2_draws 35 = .ok (.iastore, 1) := by decide +kernel
theorem dX2_draws_36 : decode cX2_draws 36 = .ok (.aload_n 0, 1) := by decide +kernel
theorem dX2_draws_37 : decode cX2_draws 37 = .ok (.getfield 22, 3) := by decide +kernel
theorem dX2_draws_40 : decode cX2_draws 40 = .ok (.iload_n 1, 1) := by decide +kernel
theorem dX2_draws_41 : decode cX2_draws 41 = .ok (.iaload, 1) := by decide +kernel
theorem dX2_draws_42 : decode cX2_draws 42 = .ok (.iconst 4, 1) := by decide +kernel
theorem dX2_draws_43 : decode cX2_draws 43 = .ok (.idiv, 1) := by decide +kernel
theorem dX2_draws_44 : decode cX2_draws 44 = .ok (.aload_n 0, 1) := by decide +kernel
theorem dX2_draws_45 : decode cX2_draws 45 = .ok (.getfield 25, 3) := by decide +kernel
theorem dX2_draws_48 : decode cX2_draws 48 = .ok (.iload_n 1, 1) := by decide +kernel
theorem dX2_draws_49 : decode cX2_draws 49 = .ok (.iaload, 1) := by decide +kernel
theorem dX2_draws_50 : decode cX2_draws 50 = .ok (.isub, 1) := by decide +kernel
theorem dX2_draws_51 : decode cX2_draws 51 = .ok (.istore_n 3, 1) := by decide +kernel
theorem dX2_draws_52 : decode cX2_draws 52 = .ok (.iload_n 2, 1) := by decide +kernel
theorem dX2_draws_53 : decode cX2_draws 53 = .ok (.ifCond .ne 7, 3) := by decide +kernel
theorem dX2_draws_56 : decode cX2_draws 56 = .ok (.iconst 0, 1) := by decide +kernel
theorem dX2_draws_57 : decode cX2_draws 57 = .ok (.goto 16, 3) := by decide +kernel
theorem dX2_draws_60 : decode cX2_draws 60 = .ok (.iconst 2, 1) := by decide +kernel
theorem dX2_draws_61 : decode cX2_draws 61 = .ok (.iload_n 2, 1) := by decide +kernel
theorem dX2_draws_62 : decode cX2_draws 62 = .ok (.imul, 1) := by decide +kernel
theorem dX2_draws_63 : decode cX2_draws 63 = .ok (.iload_n 3, 1) := by decide +kernel
theorem dX2_draws_64 : decode cX2_draws 64 = .ok (.ifCond .le 7, 3) := by decide +kernel
theorem dX2_draws_67 : decode cX2_draws 67 = .ok (.iload_n 3, 1) := by decide +kernel
theorem dX2_draws_68 : decode cX2_draws 68 = .ok (.goto 4, 3) := by decide +kernel
theorem dX2_draws_71 : decode cX2_draws 71 = .ok (.iconst 0, 1) := by decide +kernel
theorem dX2_draws_72 : decode cX2_draws 72 = .ok (.iadd, 1) := by decide +kernel
theorem dX2_draws_73 : decode cX2_draws 73 = .ok (.istore 4, 2) := by decide +kernel
theorem dX2_draws_75 : decode cX2_draws 75 = .ok (.aload_n 0, 1) := by decide +kernel
theorem dX2_draws_76 : decode cX2_draws 76 = .ok (.getfield 28, 3) := by decide +kernel
theorem dX2_draws_79 : decode cX2_draws 79 = .ok (.iload_n 1, 1) := by decide +kernel
theorem dX2_draws_80 : decode cX2_draws 80 = .ok (.dup2, 1) := by decide +kernel
theorem dX2_draws_81 : decode cX2_draws 81 = .ok (.iaload, 1) := by decide +kernel
theorem dX2_draws_82 : decode cX2_draws 82 = .ok (.iload 4, 2) := by decide +kernel
theorem dX2_draws_84 : decode cX2_draws 84 = .ok (.iadd, 1) := by decide +kernel
theorem dX2_draws_85 : decode cX2_draws 85 = .ok (.iastore, 1) := by decide +kernel
theorem dX2_draws_86 : decode cX2_draws 86 = .ok (.aload_n 0, 1) := by decide +kernel
theorem dX2_draws_87 : decode cX2_draws 87 = .ok (.dup, 1) := by decide +kernel
theorem dX2_draws_88 : decode cX2_draws 88 = .ok (.getfield 81, 3) := by decide +kernel
theorem dX2_draws_91 : decode cX2_draws 91 = .ok (.iload 4, 2) := by decide +kernel
theorem dX2_draws_93 : decode cX2_draws 93 = .ok (.iadd, 1) := by decide +kernel
theorem dX2_draws_94 : decode cX2_draws 94 = .ok (.putfield 81, 3) := by decide +kernel
theorem dX2_draws_97 : decode cX2_draws 97 = .ok (.aload_n 0, 1) := by decide +kernel
theorem dX2_draws_98 : decode cX2_draws 98 = .ok (.getfield 54, 3) := by decide +kernel
theorem dX2_draws_101 : decode cX2_draws 101 = .ok (.iconst 3, 1) := by decide +kernel
theorem dX2_draws_102 : decode cX2_draws 102 = .ok (.dup2, 1) := by decide +kernel
theorem dX2_draws_103 : decode cX2_draws 103 = .ok (.iaload, 1) := by decide +kernel
theorem dX2_draws_104 : decode cX2_draws 104 = .ok (.iload_n 2, 1) := by decide +kernel
theorem dX2_draws_105 : decode cX2_draws 105 = .ok (.iadd, 1) := by decide +kernel
theorem dX2_draws_106 : decode cX2_draws 106 = .ok (.iastore, 1) := by decide +kernel
theorem dX2_draws_107 : decode cX2_draws 107 = .ok (.aload_n 0, 1) := by decide +kernel
theorem dX2_draws_108 : decode cX2_draws 108 = .ok (.getfield 54, 3) := by decide +kernel
theorem dX2_draws_111 : decode cX2_draws 111 = .ok (.iconst 4, 1) := by decide +kernel
theorem dX2_draws_112 : decode cX2_draws 112 = .ok (.dup2, 1) := by decide +kernel
theorem dX2_draws_113 : decode cX2_draws 113 = .ok (.iaload, 1) := by decide +kernel
theorem dX2_draws_114 : decode cX2_draws 114 = .ok (.aload_n 0, 1) := by decide +kernel
theorem dX2_draws_115 : decode cX2_draws 115 = .ok (.getfield 60, 3) := by decide +kernel
theorem dX2_draws_118 : decode cX2_draws 118 = .ok (.iload_n 1, 1) := by decide +kernel
theorem dX2_draws_119 : decode cX2_draws 119 = .ok (.iaload, 1) := by decide +kernel
theorem dX2_draws_120 : decode cX2_draws 120 = .ok (.iadd, 1) := by decide +kernel
theorem dX2_draws_121 : decode cX2_draws 121 = .ok (.iastore, 1) := by decide +kernel
theorem dX2_draws_122 : decode cX2_draws 122 = .ok (.aload_n 0, 1) := by decide +kernel
theorem dX2_draws_123 : decode cX2_draws 123 = .ok (.getfield 28, 3) := by decide +kernel
theorem dX2_draws_126 : decode cX2_draws 126 = .ok (.iload_n 1, 1) := by decide +kernel
theorem dX2_draws_127 : decode cX2_draws 127 = .ok (.dup2, 1) := by decide +kernel
theorem dX2_draws_128 : decode cX2_draws 128 = .ok (.iaload, 1) := by decide +kernel
theorem dX2_draws_129 : decode cX2_draws 129 = .ok (.aload_n 0, 1) := by decide +kernel
theorem dX2_draws_130 : decode cX2_draws 130 = .ok (.getfield 60, 3) := by decide +kernel
theorem dX2_draws_133 : decode cX2_draws 133 = .ok (.iload_n 1, 1) := by decide +kernel
theorem dX2_draws_134 : decode cX2_draws 134 = .ok (.iaload, 1) := by decide +kernel
theorem dX2_draws_135 : decode cX2_draws 135 = .ok (.aload_n 0, 1) := by decide +kernel
theorem dX2_draws_136 : decode cX2_draws 136 = .ok (.getfield 35, 3) := by decide +kernel
theorem dX2_draws_139 : decode cX2_draws 139 = .ok (.imul, 1) := by decide +kernel
theorem dX2_draws_140 : decode cX2_draws 140 = .ok (.iadd, 1) := by decide +kernel
theorem dX2_draws_141 : decode cX2_draws 141 = .ok (.iastore, 1) := by decide +kernel
theorem dX2_draws_142 : decode cX2_draws 142 = .ok (.aload_n 0, 1) := by decide +kernel
theorem dX2_draws_143 : decode cX2_draws 143 = .ok (.dup, 1) := by decide +kernel
theorem dX2_draws_144 : decode cX2_draws 144 = .ok (.getfield 110, 3) := by decide +kernel
theorem dX2_draws_147 : decode cX2_draws 147 = .ok (.aload_n 0, 1) := by decide +kernel
theorem dX2_draws_148 : decode cX2_draws 148 = .ok (.getfield 60, 3) := by decide +kernel
theorem dX2_draws_151 : decode cX2_draws 151 = .ok (.iload_n 1, 1) := by decide +kernel
theorem dX2_draws_152 : decode cX2_draws 152 = .ok (.iaload, 1) := by decide +kernel
theorem dX2_draws_153 : decode cX2_draws 153 = .ok (.aload_n 0, 1) := by decide +kernel
theorem dX2_draws_154 : decode cX2_draws 154 = .ok (.getfield 35, 3) := by decide +kernel
theorem dX2_draws_157 : decode cX2_draws 157 = .ok (.imul, 1) := by decide +kernel
theorem dX2_draws_158 : decode cX2_draws 158 = .ok (.iadd, 1) := by decide +kernel
theorem dX2_draws_159 : decode cX2_draws 159 = .ok (.putfield 110, 3) := by decide +kernel
theorem dX2_draws_162 : decode cX2_draws 162 = .ok (.return_, 1) := by decide +kernel
set_option maxRecDepth 20000 in
theorem ggX2_clear_X2_goes : GoodIn wsX2_clear wsX2_goes := goodIn_r _ [19, 20, 74, 75, 76, 77, 78, 79, 80, 81, 82, 83, 84, 85, 86, 87, 88, 89, 90, 91, 92, 93, 94, 95] (by decide +kernel) (by decide +kernel)
set_option maxRecDepth 20000 in
theorem gX2_clear_X2_goes : GoodIn wsX2_clear (wsV RX2 77 RX2 yX2_goes wsX2_goes) := goodIn_app (goodIn_of _ (by decide +kernel)) ggX2_clear_X2_goes
set_option maxRecDepth 20000 in
theorem ggX2_clear_X2_size : GoodIn wsX2_clear wsX2_size := goodIn_r _ [23] (by decide +kernel) (by decide +kernel)
set_option maxRecDepth 20000 in
theorem gX2_clear_X2_size : GoodIn wsX2_clear (va_wsS RX2 90 yX2_size wsX2_size) := goodIn_app (goodIn_of _ (by decide +kernel)) ggX2_clear_X2_size
set_option maxRecDepth 20000 in
theorem ggX2_clear_X2_isBuyer : GoodIn wsX2_clear wsX2_isBuyer := goodIn_r _ [27, 5, 6, 74, 75, 76, 77, 78, 79, 80, 81, 82, 83, 84, 85, 86, 87, 88, 89, 90, 91, 92, 93, 94, 95] (by decide +kernel) (by decide +kernel)
set_option maxRecDepth 20000 in
theorem gX2_clear_X2_isBuyer : GoodIn wsX2_clear (wsV RX2 84 RX2 yX2_isBuyer wsX2_isBuyer) := goodIn_app (goodIn_of _ (by decide +kernel)) ggX2_clear_X2_isBuyer
set_option maxRecDepth 20000 in
theorem ggX2_clear_X2_turnOf : GoodIn wsX2_clear wsX2_turnOf := goodIn_r _ [31, 32, 24, 25, 26, 18, 27, 5, 6, 74, 75, 76, 77, 78, 79, 80, 81, 82, 83, 84, 85, 86, 87, 88, 89, 90, 91, 92, 93, 94, 95] (by decide +kernel) (by decide +kernel)
set_option maxRecDepth 20000 in
theorem gX2_clear_X2_turnOf : GoodIn wsX2_clear (wsV RX2 116 RX2 yX2_turnOf wsX2_turnOf) := goodIn_app (goodIn_of _ (by decide +kernel)) ggX2_clear_X2_turnOf
set_option maxRecDepth 20000 in
theorem ggX2_clear_X2_takes : GoodIn wsX2_clear wsX2_takes := goodIn_r _ [36, 4, 11, 2, 8, 9, 10, 32, 37, 38, 39, 18, 40, 41, 42, 43, 44, 5, 6, 21, 22, 23, 45, 46, 47, 74, 75, 76, 77, 78, 79, 80, 81, 82, 83, 84, 85, 86, 87, 88, 89, 90, 91, 92, 93, 94, 95] (by decide +kernel) (by decide +kernel)
set_option maxRecDepth 20000 in
theorem gX2_clear_X2_takes : GoodIn wsX2_clear (wsV RX2 119 RX2 yX2_takes wsX2_takes) := goodIn_app (goodIn_of _ (by decide +kernel)) ggX2_clear_X2_takes
set_option maxRecDepth 20000 in
theorem ggX2_clear_X2_cuts : GoodIn wsX2_clear wsX2_cuts := goodIn_r _ [51, 52, 2, 9, 4, 11, 8, 7, 13, 53, 54, 55, 18, 56, 57, 58, 59, 60, 45, 46, 47, 21, 22, 23, 74, 75, 76, 77, 78, 79, 80, 81, 82, 83, 84, 85, 86, 87, 88, 89, 90, 91, 92, 93, 94, 95] (by decide +kernel) (by decide +kernel)
set_option maxRecDepth 20000 in
theorem gX2_clear_X2_cuts : GoodIn wsX2_clear (wsV RX2 123 RX2 yX2_cuts wsX2_cuts) := goodIn_app (goodIn_of _ (by decide +kernel)) ggX2_clear_X2_cuts
set_option maxRecDepth 20000 in
theorem ggX2_clear_X2_isSeller : GoodIn wsX2_clear wsX2_isSeller := goodIn_r _ [44, 5, 6, 74, 75, 76, 77, 78, 79, 80, 81, 82, 83, 84, 85, 86, 87, 88, 89, 90, 91, 92, 93, 94, 95] (by decide +kernel) (by decide +kernel)
set_option maxRecDepth 20000 in
theorem gX2_clear_X2_isSeller : GoodIn wsX2_clear (wsV RX2 87 RX2 yX2_isSeller wsX2_isSeller) := goodIn_app (goodIn_of _ (by decide +kernel)) ggX2_clear_X2_isSeller
set_option maxRecDepth 20000 in
theorem ggX2_clear_X2_keeps : GoodIn wsX2_clear wsX2_keeps := goodIn_r _ [64, 4, 65, 66, 3, 7, 67, 68, 45, 46, 18, 47, 74, 75, 76, 77, 78, 79, 80, 81, 82, 83, 84, 85, 86, 87, 88, 89, 90, 91, 92, 93, 94, 95] (by decide +kernel) (by decide +kernel)
set_option maxRecDepth 20000 in
theorem gX2_clear_X2_keeps : GoodIn wsX2_clear (wsV RX2 126 RX2 yX2_keeps wsX2_keeps) := goodIn_app (goodIn_of _ (by decide +kernel)) ggX2_clear_X2_keeps
set_option maxRecDepth 20000 in
theorem ggX2_clear_X2_draws : GoodIn wsX2_clear wsX2_draws := goodIn_r _ [72, 4, 66, 65, 7, 13, 3, 73, 68, 45, 46, 18, 47, 74, 75, 76, 77, 78, 79, 80, 81, 82, 83, 84, 85, 86, 87, 88, 89, 90, 91, 92, 93, 94, 95] (by decide +kernel) (by decide +kernel)
set_option maxRecDepth 20000 in
theorem gX2_clear_X2_draws : GoodIn wsX2_clear (wsV RX2 129 RX2 yX2_draws wsX2_draws) := goodIn_app (goodIn_of _ (by decide +kernel)) ggX2_clear_X2_draws
set_option maxRecDepth 20000 in
theorem ggX2_clear_X2_flowOver : GoodIn wsX2_clear wsX2_flowOver := goodIn_r _ [56, 2, 9, 57, 58, 59, 18, 60, 11, 8, 45, 46, 47, 74, 75, 76, 77, 78, 79, 80, 81, 82, 83, 84, 85, 86, 87, 88, 89, 90, 91, 92, 93, 94, 95] (by decide +kernel) (by decide +kernel)
set_option maxRecDepth 20000 in
theorem gX2_clear_X2_flowOver : GoodIn wsX2_clear (wsV RX2 107 RX2 yX2_flowOver wsX2_flowOver) := goodIn_app (goodIn_of _ (by decide +kernel)) ggX2_clear_X2_flowOver
theorem dX2_clear_0 : decode cX2_clear 0 = .ok (.aload_n 0, 1) := by decide +kernel
theorem dX2_clear_1 : decode cX2_clear 1 = .ok (.aload_n 0, 1) := by decide +kernel
theorem dX2_clear_2 : decode cX2_clear 2 = .ok (.getfield 113, 3) := by decide +kernel
theorem dX2_clear_5 : decode cX2_clear 5 = .ok (.sipush 500, 3) := by decide +kernel
theorem dX2_clear_8 : decode cX2_clear 8 = .ok (.if_icmp .ge 7, 3) := by decide +kernel
theorem dX2_clear_11 : decode cX2_clear 11 = .ok (.iconst 1, 1) := by decide +kernel
theorem dX2_clear_12 : decode cX2_clear 12 = .ok (.goto 4, 3) := by decide +kernel
theorem dX2_clear_15 : decode cX2_clear 15 = .ok (.iconst 0, 1) := by decide +kernel
theorem dX2_clear_16 : decode cX2_clear 16 = .ok (.iconst 1, 1) := by decide +kernel
theorem dX2_clear_17 : decode cX2_clear 17 = .ok (.iconst 1, 1) := by decide +kernel
theorem dX2_clear_18 : decode cX2_clear 18 = .ok (.invokevirtual 77, 3) := by decide +kernel
theorem dX2_clear_21 : decode cX2_clear 21 = .ok (.ifCond .ne 5, 3) := by decide +kernel
theorem dX2_clear_24 : decode cX2_clear 24 = .ok (.iconst 0, 1) := by decide +kernel
theorem dX2_clear_25 : decode cX2_clear 25 = .ok (.ireturn, 1) := by decide +kernel
theorem dX2_clear_26 : decode cX2_clear 26 = .ok (.aload_n 0, 1) := by decide +kernel
theorem dX2_clear_27 : decode cX2_clear 27 = .ok (.iconst 0, 1) := by decide +kernel
theorem dX2_clear_28 : decode cX2_clear 28 = .ok (.putfield 101, 3) := by decide +kernel
theorem dX2_clear_31 : decode cX2_clear 31 = .ok (.iconst 0, 1) := by decide +kernel
theorem dX2_clear_32 : decode cX2_clear 32 = .ok (.istore_n 1, 1) := by decide +kernel
theorem dX2_clear_33 : decode cX2_clear 33 = .ok (.iload_n 1, 1) := by decide +kernel
theorem dX2_clear_34 : decode cX2_clear 34 = .ok (.bipush 6, 2) := by decide +kernel
theorem dX2_clear_36 : decode cX2_clear 36 = .ok (.if_icmp .ge 16, 3) := by decide +kernel
theorem dX2_clear_39 : decode cX2_clear 39 = .ok (.aload_n 0, 1) := by decide +kernel
theorem dX2_clear_40 : decode cX2_clear 40 = .ok (.getfield 54, 3) := by decide +kernel
theorem dX2_clear_43 : decode cX2_clear 43 = .ok (.iload_n 1, 1) := by decide +kernel
theorem dX2_clear_44 : decode cX2_clear 44 = .ok (.iconst 0, 1) := by decide +kernel
theorem dX2_clear_45 : decode cX2_clear 45 = .ok (.iastore, 1) := by decide +kernel
theorem dX2_clear_46 : decode cX2_clear 46 = .ok (.iinc 1 1, 3) := by decide +kernel
theorem dX2_clear_49 : decode cX2_clear 49 = .ok (.goto (-16), 3) := by decide +kernel
theorem dX2_clear_52 : decode cX2_clear 52 = .ok (.iconst 0, 1) := by decide +kernel
theorem dX2_clear_53 : decode cX2_clear 53 = .ok (.istore_n 1, 1) := by decide +kernel
theorem dX2_clear_54 : decode cX2_clear 54 = .ok (.iload_n 1, 1) := by decide +kernel
theorem dX2_clear_55 : decode cX2_clear 55 = .ok (.bipush 6, 2) := by decide +kernel
theorem dX2_clear_57 : decode cX2_clear 57 = .ok (.if_icmp .ge 37, 3) := by decide +kernel
theorem dX2_clear_60 : decode cX2_clear 60 = .ok (.aload_n 0, 1) := by decide +kernel
theorem dX2_clear_61 : decode cX2_clear 61 = .ok (.getfield 60, 3) := by decide +kernel
theorem dX2_clear_64 : decode cX2_clear 64 = .ok (.iload_n 1, 1) := by decide +kernel
theorem dX2_clear_65 : decode cX2_clear 65 = .ok (.aload_n 0, 1) := by decide +kernel
theorem dX2_clear_66 : decode cX2_clear 66 = .ok (.getfield 31, 3) := by decide +kernel
theorem dX2_clear_69 : decode cX2_clear 69 = .ok (.iload_n 1, 1) := by decide +kernel
theorem dX2_clear_70 : decode cX2_clear 70 = .ok (.baload, 1) := by decide +kernel
theorem dX2_clear_71 : decode cX2_clear 71 = .ok (.ifCond .eq 7, 3) := by decide +kernel
theorem dX2_clear_74 : decode cX2_clear 74 = .ok (.iconst 0, 1) := by decide +kernel
theorem dX2_clear_75 : decode cX2_clear 75 = .ok (.goto 12, 3) := by decide +kernel
theorem dX2_clear_78 : decode cX2_clear 78 = .ok (.aload_n 0, 1) := by decide +kernel
theorem dX2_clear_79 : decode cX2_clear 79 = .ok (.getfield 13, 3) := by decide +kernel
theorem dX2_clear_82 : decode cX2_clear 82 = .ok (.iload_n 1, 1) := by decide +kernel
theorem dX2_clear_83 : decode cX2_clear 83 = .ok (.iaload, 1) := by decide +kernel
theorem dX2_clear_84 : decode cX2_clear 84 = .ok (.invokestatic 90, 3) := by decide +kernel
theorem dX2_clear_87 : decode cX2_clear 87 = .ok (.iastore, 1) := by decide +kernel
theorem dX2_clear_88 : decode cX2_clear 88 = .ok (.iinc 1 1, 3) := by decide +kernel
theorem dX2_clear_91 : decode cX2_clear 91 = .ok (.goto (-37), 3) := by decide +kernel
theorem dX2_clear_94 : decode cX2_clear 94 = .ok (.iconst 0, 1) := by decide +kernel
theorem dX2_clear_95 : decode cX2_clear 95 = .ok (.istore_n 1, 1) := by decide +kernel
theorem dX2_clear_96 : decode cX2_clear 96 = .ok (.iload_n 1, 1) := by decide +kernel
theorem dX2_clear_97 : decode cX2_clear 97 = .ok (.bipush 6, 2) := by decide +kernel
theorem dX2_clear_99 : decode cX2_clear 99 = .ok (.if_icmp .ge 45, 3) := by decide +kernel
theorem dX2_clear_102 : decode cX2_clear 102 = .ok (.iconst 0, 1) := by decide +kernel
theorem dX2_clear_103 : decode cX2_clear 103 = .ok (.istore_n 2, 1) := by decide +kernel
theorem dX2_clear_104 : decode cX2_clear 104 = .ok (.iload_n 2, 1) := by decide +kernel
theorem dX2_clear_105 : decode cX2_clear 105 = .ok (.bipush 6, 2) := by decide +kernel
theorem dX2_clear_107 : decode cX2_clear 107 = .ok (.if_icmp .ge 31, 3) := by decide +kernel
theorem dX2_clear_110 : decode cX2_clear 110 = .ok (.aload_n 0, 1) := by decide +kernel
theorem dX2_clear_111 : decode cX2_clear 111 = .ok (.iload_n 2, 1) := by decide +kernel
theorem dX2_clear_112 : decode cX2_clear 112 = .ok (.invokevirtual 84, 3) := by decide +kernel
theorem dX2_clear_115 : decode cX2_clear 115 = .ok (.ifCond .eq 17, 3) := by decide +kernel
theorem dX2_clear_118 : decode cX2_clear 118 = .ok (.aload_n 0, 1) := by decide +kernel
theorem dX2_clear_119 : decode cX2_clear 119 = .ok (.iload_n 2, 1) := by decide +kernel
theorem dX2_clear_120 : decode cX2_clear 120 = .ok (.invokevirtual 116, 3) := by decide +kernel
theorem dX2_clear_123 : decode cX2_clear 123 = .ok (.iload_n 1, 1) := by decide +kernel
theorem dX2_clear_124 : decode cX2_clear 124 = .ok (.if_icmp .ne 8, 3) := by decide +kernel
theorem dX2_clear_127 : decode cX2_clear 127 = .ok (.aload_n 0, 1) := by decide +kernel
theorem dX2_clear_128 : decode cX2_clear 128 = .ok (.iload_n 2, 1) := by decide +kernel
theorem dX2_clear_129 : decode cX2_clear 129 = .ok (.invokevirtual 119, 3) := by decide +kernel
theorem dX2_clear_132 : decode cX2_clear 132 = .ok (.iinc 2 1, 3) := by decide +kernel
theorem dX2_clear_135 : decode cX2_clear 135 = .ok (.goto (-31), 3) := by decide +kernel
theorem dX2_clear_138 : decode cX2_clear 138 = .ok (.iinc 1 1, 3) := by decide +kernel
theorem dX2_clear_141 : decode cX2_clear 141 = .ok (.goto (-45), 3) := by decide +kernel
theorem dX2_clear_144 : decode cX2_clear 144 = .ok (.iconst 1, 1) := by decide +kernel
theorem dX2_clear_145 : decode cX2_clear 145 = .ok (.istore_n 1, 1) := by decide +kernel
theorem dX2_clear_146 : decode cX2_clear 146 = .ok (.iload_n 1, 1) := by decide +kernel
theorem dX2_clear_147 : decode cX2_clear 147 = .ok (.ifCond .le 38, 3) := by decide +kernel
theorem dX2_clear_150 : decode cX2_clear 150 = .ok (.iconst 0, 1) := by decide +kernel
theorem dX2_clear_151 : decode cX2_clear 151 = .ok (.istore_n 1, 1) := by decide +kernel
theorem dX2_clear_152 : decode cX2_clear 152 = .ok (.iconst 4, 1) := by decide +kernel
theorem dX2_clear_153 : decode cX2_clear 153 = .ok (.istore_n 2, 1) := by decide +kernel
theorem dX2_clear_154 : decode cX2_clear 154 = .ok (.iload_n 2, 1) := by decide +kernel
theorem dX2_clear_155 : decode cX2_clear 155 = .ok (.ifCond .lt 17, 3) := by decide +kernel
theorem dX2_clear_158 : decode cX2_clear 158 = .ok (.iload_n 1, 1) := by decide +kernel
theorem dX2_clear_159 : decode cX2_clear 159 = .ok (.aload_n 0, 1) := by decide +kernel
theorem dX2_clear_160 : decode cX2_clear 160 = .ok (.iload_n 2, 1) := by decide +kernel
theorem dX2_clear_161 : decode cX2_clear 161 = .ok (.invokevirtual 123, 3) := by decide +kernel
theorem dX2_clear_164 : decode cX2_clear 164 = .ok (.iadd, 1) := by decide +kernel
theorem dX2_clear_165 : decode cX2_clear 165 = .ok (.istore_n 1, 1) := by decide +kernel
theorem dX2_clear_166 : decode cX2_clear 166 = .ok (.iinc 2 (-1), 3) := by decide +kernel
theorem dX2_clear_169 : decode cX2_clear 169 = .ok (.goto (-15), 3) := by decide +kernel
theorem dX2_clear_172 : decode cX2_clear 172 = .ok (.aload_n 0, 1) := by decide +kernel
theorem dX2_clear_173 : decode cX2_clear 173 = .ok (.getfield 54, 3) := by decide +kernel
theorem dX2_clear_176 : decode cX2_clear 176 = .ok (.iconst 1, 1) := by decide +kernel
theorem dX2_clear_177 : decode cX2_clear 177 = .ok (.dup2, 1) := by decide +kernel
theorem dX2_clear_178 : decode cX2_clear 178 = .ok (.iaload, 1) := by decide +kernel
theorem dX2_clear_179 : decode cX2_clear 179 = .ok (.iload_n 1, 1) := by decide +kernel
theorem dX2_clear_180 : decode cX2_clear 180 = .ok (.iadd, 1) := by decide +kernel
theorem dX2_clear_181 : decode cX2_clear 181 = .ok (.iastore, 1) := by decide +kernel
theorem dX2_clear_182 : decode cX2_clear 182 = .ok (.goto (-36), 3) := by decide +kernel
theorem dX2_clear_185 : decode cX2_clear 185 = .ok (.iconst 0, 1) := by decide +kernel
theorem dX2_clear_186 : decode cX2_clear 186 = .ok (.istore_n 2, 1) := by decide +kernel
theorem dX2_clear_187 : decode cX2_clear 187 = .ok (.iload_n 2, 1) := by decide +kernel
theorem dX2_clear_188 : decode cX2_clear 188 = .ok (.aload_n 0, 1) := by decide +kernel
theorem dX2_clear_189 : decode cX2_clear 189 = .ok (.getfield 101, 3) := by decide +kernel
theorem dX2_clear_192 : decode cX2_clear 192 = .ok (.if_icmp .ge 78, 3) := by decide +kernel
theorem dX2_clear_195 : decode cX2_clear 195 = .ok (.aload_n 0, 1) := by decide +kernel
theorem dX2_clear_196 : decode cX2_clear 196 = .ok (.getfield 28, 3) := by decide +kernel
theorem dX2_clear_199 : decode cX2_clear 199 = .ok (.aload_n 0, 1) := by decide +kernel
theorem dX2_clear_200 : decode cX2_clear 200 = .ok (.getfield 45, 3) := by decide +kernel
theorem dX2_clear_203 : decode cX2_clear 203 = .ok (.iload_n 2, 1) := by decide +kernel
theorem dX2_clear_204 : decode cX2_clear 204 = .ok (.iaload, 1) := by decide +kernel
theorem dX2_clear_205 : decode cX2_clear 205 = .ok (.dup2, 1) := by decide +kernel
theorem dX2_clear_206 : decode cX2_clear 206 = .ok (.iaload, 1) := by decide +kernel
theorem dX2_clear_207 : decode cX2_clear 207 = .ok (.aload_n 0, 1) := by decide +kernel
theorem dX2_clear_208 : decode cX2_clear 208 = .ok (.getfield 48, 3) := by decide +kernel
theorem dX2_clear_211 : decode cX2_clear 211 = .ok (.iload_n 2, 1) := by decide +kernel
theorem dX2_clear_212 : decode cX2_clear 212 = .ok (.iaload, 1) := by decide +kernel
theorem dX2_clear_213 : decode cX2_clear 213 = .ok (.aload_n 0, 1) := by decide +kernel
theorem dX2_clear_214 : decode cX2_clear 214 = .ok (.getfield 51, 3) := by decide +kernel
theorem dX2_clear_217 : decode cX2_clear 217 = .ok (.iload_n 2, 1) := by decide +kernel
theorem dX2_clear_218 : decode cX2_clear 218 = .ok (.iaload, 1) := by decide +kernel
theorem dX2_clear_219 : decode cX2_clear 219 = .ok (.imul, 1) := by decide +kernel
theorem dX2_clear_220 : decode cX2_clear 220 = .ok (.iadd, 1) := by decide +kernel
theorem dX2_clear_221 : decode cX2_clear 221 = .ok (.iastore, 1) := by decide +kernel
theorem dX2_clear_222 : decode cX2_clear 222 = .ok (.aload_n 0, 1) := by decide +kernel
theorem dX2_clear_223 : decode cX2_clear 223 = .ok (.getfield 28, 3) := by decide +kernel
theorem dX2_clear_226 : decode cX2_clear 226 = .ok (.aload_n 0, 1) := by decide +kernel
theorem dX2_clear_227 : decode cX2_clear 227 = .ok (.getfield 42, 3) := by decide +kernel
theorem dX2_clear_230 : decode cX2_clear 230 = .ok (.iload_n 2, 1) := by decide +kernel
theorem dX2_clear_231 : decode cX2_clear 231 = .ok (.iaload, 1) := by decide +kernel
theorem dX2_clear_232 : decode cX2_clear 232 = .ok (.dup2, 1) := by decide +kernel
theorem dX2_clear_233 : decode cX2_clear 233 = .ok (.iaload, 1) := by decide +kernel
theorem dX2_clear_234 : decode cX2_clear 234 = .ok (.aload_n 0, 1) := by decide +kernel
theorem dX2_clear_235 : decode cX2_clear 235 = .ok (.getfield 48, 3) := by decide +kernel
theorem dX2_clear_238 : decode cX2_clear 238 = .ok (.iload_n 2, 1) := by decide +kernel
theorem dX2_clear_239 : decode cX2_clear 239 = .ok (.iaload, 1) := by decide +kernel
theorem dX2_clear_240 : decode cX2_clear 240 = .ok (.aload_n 0, 1) := by decide +kernel
theorem dX2_clear_241 : decode cX2_clear 241 = .ok (.getfield 51, 3) := by decide +kernel
theorem dX2_clear_244 : decode cX2_clear 244 = .ok (.iload_n 2, 1) := by decide +kernel
theorem dX2_clear_245 : decode cX2_clear 245 = .ok (.iaload, 1) := by decide +kernel
theorem dX2_clear_246 : decode cX2_clear 246 = .ok (.imul, 1) := by decide +kernel
theorem dX2_clear_247 : decode cX2_clear 247 = .ok (.isub, 1) := by decide +kernel
theorem dX2_clear_248 : decode cX2_clear 248 = .ok (.iastore, 1) := by decide +kernel
theorem dX2_clear_249 : decode cX2_clear 249 = .ok (.aload_n 0, 1) := by decide +kernel
theorem dX2_clear_250 : decode cX2_clear 250 = .ok (.getfield 54, 3) := by decide +kernel
theorem dX2_clear_253 : decode cX2_clear 253 = .ok (.iconst 0, 1) := by decide +kernel
theorem dX2_clear_254 : decode cX2_clear 254 = .ok (.dup2, 1) := by decide +kernel
theorem dX2_clear_255 : decode cX2_clear 255 = .ok (.iaload, 1) := by decide +kernel
theorem dX2_clear_256 : decode cX2_clear 256 = .ok (.aload_n 0, 1) := by decide +kernel
theorem dX2_clear_257 : decode cX2_clear 257 = .ok (.getfield 48, 3) := by decide +kernel
theorem dX2_clear_260 : decode cX2_clear 260 = .ok (.iload_n 2, 1) := by decide +kernel
theorem dX2_clear_261 : decode cX2_clear 261 = .ok (.iaload, 1) := by decide +kernel
theorem dX2_clear_262 : decode cX2_clear 262 = .ok (.iadd, 1) := by decide +kernel
theorem dX2_clear_263 : decode cX2_clear 263 = .ok (.iastore, 1) := by decide +kernel
theorem dX2_clear_264 : decode cX2_clear 264 = .ok (.iinc 2 1, 3) := by decide +kernel
theorem dX2_clear_267 : decode cX2_clear 267 = .ok (.goto (-80), 3) := by decide +kernel
theorem dX2_clear_270 : decode cX2_clear 270 = .ok (.iconst 0, 1) := by decide +kernel
theorem dX2_clear_271 : decode cX2_clear 271 = .ok (.istore_n 2, 1) := by decide +kernel
theorem dX2_clear_272 : decode cX2_clear 272 = .ok (.iload_n 2, 1) := by decide +kernel
theorem dX2_clear_273 : decode cX2_clear 273 = .ok (.bipush 6, 2) := by decide +kernel
theorem dX2_clear_275 : decode cX2_clear 275 = .ok (.if_icmp .ge 88, 3) := by decide +kernel
theorem dX2_clear_278 : decode cX2_clear 278 = .ok (.aload_n 0, 1) := by decide +kernel
theorem dX2_clear_279 : decode cX2_clear 279 = .ok (.iload_n 2, 1) := by decide +kernel
theorem dX2_clear_280 : decode cX2_clear 280 = .ok (.invokevirtual 87, 3) := by decide +kernel
theorem dX2_clear_283 : decode cX2_clear 283 = .ok (.ifCond .eq 11, 3) := by decide +kernel
theorem dX2_clear_286 : decode cX2_clear 286 = .ok (.aload_n 0, 1) := by decide +kernel
theorem dX2_clear_287 : decode cX2_clear 287 = .ok (.iload_n 2, 1) := by decide +kernel
theorem dX2_clear_288 : decode cX2_clear 288 = .ok (.invokevirtual 126, 3) := by decide +kernel
theorem dX2_clear_291 : decode cX2_clear 291 = .ok (.goto 16, 3) := by decide +kernel
theorem dX2_clear_294 : decode cX2_clear 294 = .ok (.aload_n 0, 1) := by decide +kernel
theorem dX2_clear_295 : decode cX2_clear 295 = .ok (.iload_n 2, 1) := by decide +kernel
theorem dX2_clear_296 : decode cX2_clear 296 = .ok (.invokevirtual 84, 3) := by decide +kernel
theorem dX2_clear_299 : decode cX2_clear 299 = .ok (.ifCond .eq 8, 3) := by decide +kernel
theorem dX2_clear_302 : decode cX2_clear 302 = .ok (.aload_n 0, 1) := by decide +kernel
theorem dX2_clear_303 : decode cX2_clear 303 = .ok (.iload_n 2, 1) := by decide +kernel
theorem dX2_clear_304 : decode cX2_clear 304 = .ok (.invokevirtual 129, 3) := by decide +kernel
theorem dX2_clear_307 : decode cX2_clear 307 = .ok (.aload_n 0, 1) := by decide +kernel
theorem dX2_clear_308 : decode cX2_clear 308 = .ok (.getfield 31, 3) := by decide +kernel
theorem dX2_clear_311 : decode cX2_clear 311 = .ok (.iload_n 2, 1) := by decide +kernel
theorem dX2_clear_312 : decode cX2_clear 312 = .ok (.baload, 1) := by decide +kernel
theorem dX2_clear_313 : decode cX2_clear 313 = .ok (.ifCond .eq 7, 3) := by decide +kernel
theorem dX2_clear_316 : decode cX2_clear 316 = .ok (.iconst 0, 1) := by decide +kernel
theorem dX2_clear_317 : decode cX2_clear 317 = .ok (.goto 19, 3) := by decide +kernel
theorem dX2_clear_320 : decode cX2_clear 320 = .ok (.aload_n 0, 1) := by decide +kernel
theorem dX2_clear_321 : decode cX2_clear 321 = .ok (.getfield 13, 3) := by decide +kernel
theorem dX2_clear_324 : decode cX2_clear 324 = .ok (.iload_n 2, 1) := by decide +kernel
theorem dX2_clear_325 : decode cX2_clear 325 = .ok (.iaload, 1) := by decide +kernel
theorem dX2_clear_326 : decode cX2_clear 326 = .ok (.aload_n 0, 1) := by decide +kernel
theorem dX2_clear_327 : decode cX2_clear 327 = .ok (.getfield 7, 3) := by decide +kernel
theorem dX2_clear_330 : decode cX2_clear 330 = .ok (.iload_n 2, 1) := by decide +kernel
theorem dX2_clear_331 : decode cX2_clear 331 = .ok (.iaload, 1) := by decide +kernel
theorem dX2_clear_332 : decode cX2_clear 332 = .ok (.isub, 1) := by decide +kernel
theorem dX2_clear_333 : decode cX2_clear 333 = .ok (.invokestatic 90, 3) := by decide +kernel
theorem dX2_clear_336 : decode cX2_clear 336 = .ok (.istore_n 3, 1) := by decide +kernel
theorem dX2_clear_337 : decode cX2_clear 337 = .ok (.aload_n 0, 1) := by decide +kernel
theorem dX2_clear_338 : decode cX2_clear 338 = .ok (.getfield 28, 3) := by decide +kernel
theorem dX2_clear_341 : decode cX2_clear 341 = .ok (.iload_n 2, 1) := by decide +kernel
theorem dX2_clear_342 : decode cX2_clear 342 = .ok (.dup2, 1) := by decide +kernel
theorem dX2_clear_343 : decode cX2_clear 343 = .ok (.iaload, 1) := by decide +kernel
theorem dX2_clear_344 : decode cX2_clear 344 = .ok (.iload_n 3, 1) := by decide +kernel
theorem dX2_clear_345 : decode cX2_clear 345 = .ok (.iadd, 1) := by decide +kernel
theorem dX2_clear_346 : decode cX2_clear 346 = .ok (.iastore, 1) := by decide +kernel
theorem dX2_clear_347 : decode cX2_clear 347 = .ok (.aload_n 0, 1) := by decide +kernel
theorem dX2_clear_348 : decode cX2_clear 348 = .ok (.dup, 1) := by decide +kernel
theorem dX2_clear_349 : decode cX2_clear 349 = .ok (.getfield 81, 3) := by decide +kernel
theorem dX2_clear_352 : decode cX2_clear 352 = .ok (.iload_n 3, 1) := by decide +kernel
theorem dX2_clear_353 : decode cX2_clear 353 = .ok (.iadd, 1) := by decide +kernel
theorem dX2_clear_354 : decode cX2_clear 354 = .ok (.putfield 81, 3) := by decide +kernel
theorem dX2_clear_357 : decode cX2_clear 357 = .ok (.iinc 2 1, 3) := by decide +kernel
theorem dX2_clear_360 : decode cX2_clear 360 = .ok (.goto (-88), 3) := by decide +kernel
theorem dX2_clear_363 : decode cX2_clear 363 = .ok (.iconst 0, 1) := by decide +kernel
theorem dX2_clear_364 : decode cX2_clear 364 = .ok (.istore_n 2, 1) := by decide +kernel
theorem dX2_clear_365 : decode cX2_clear 365 = .ok (.iload_n 2, 1) := by decide +kernel
theorem dX2_clear_366 : decode cX2_clear 366 = .ok (.iconst 5, 1) := by decide +kernel
theorem dX2_clear_367 : decode cX2_clear 367 = .ok (.if_icmp .ge 20, 3) := by decide +kernel
theorem dX2_clear_370 : decode cX2_clear 370 = .ok (.aload_n 0, 1) := by decide +kernel
theorem dX2_clear_371 : decode cX2_clear 371 = .ok (.getfield 57, 3) := by decide +kernel
theorem dX2_clear_374 : decode cX2_clear 374 = .ok (.iload_n 2, 1) := by decide +kernel
theorem dX2_clear_375 : decode cX2_clear 375 = .ok (.aload_n 0, 1) := by decide +kernel
theorem dX2_clear_376 : decode cX2_clear 376 = .ok (.iload_n 2, 1) := by decide +kernel
theorem dX2_clear_377 : decode cX2_clear 377 = .ok (.invokevirtual 107, 3) := by decide +kernel
theorem dX2_clear_380 : decode cX2_clear 380 = .ok (.iastore, 1) := by decide +kernel
theorem dX2_clear_381 : decode cX2_clear 381 = .ok (.iinc 2 1, 3) := by decide +kernel
theorem dX2_clear_384 : decode cX2_clear 384 = .ok (.goto (-19), 3) := by decide +kernel
theorem dX2_clear_387 : decode cX2_clear 387 = .ok (.iconst 0, 1) := by decide +kernel
theorem dX2_clear_388 : decode cX2_clear 388 = .ok (.istore_n 2, 1) := by decide +kernel
theorem dX2_clear_389 : decode cX2_clear 389 = .ok (.iload_n 2, 1) := by decide +kernel
theorem dX2_clear_390 : decode cX2_clear 390 = .ok (.bipush 6, 2) := by decide +kernel
theorem dX2_clear_392 : decode cX2_clear 392 = .ok (.if_icmp .ge 23, 3) := by decide +kernel
theorem dX2_clear_395 : decode cX2_clear 395 = .ok (.aload_n 0, 1) := by decide +kernel
theorem dX2_clear_396 : decode cX2_clear 396 = .ok (.getfield 7, 3) := by decide +kernel
theorem dX2_clear_399 : decode cX2_clear 399 = .ok (.iload_n 2, 1) := by decide +kernel
theorem dX2_clear_400 : decode cX2_clear 400 = .ok (.iconst 0, 1) := by decide +kernel
theorem dX2_clear_401 : decode cX2_clear 401 = .ok (.iastore, 1) := by decide +kernel
theorem dX2_clear_402 : decode cX2_clear 402 = .ok (.aload_n 0, 1) := by decide +kernel
theorem dX2_clear_403 : decode cX2_clear 403 = .ok (.getfield 13, 3) := by decide +kernel
theorem dX2_clear_406 : decode cX2_clear 406 = .ok (.iload_n 2, 1) := by decide +kernel
theorem dX2_clear_407 : decode cX2_clear 407 = .ok (.iconst 0, 1) := by decide +kernel
theorem dX2_clear_408 : decode cX2_clear 408 = .ok (.iastore, 1) := by decide +kernel
theorem dX2_clear_409 : decode cX2_clear 409 = .ok (.iinc 2 1, 3) := by decide +kernel
theorem dX2_clear_412 : decode cX2_clear 412 = .ok (.goto (-23), 3) := by decide +kernel
theorem dX2_clear_415 : decode cX2_clear 415 = .ok (.aload_n 0, 1) := by decide +kernel
theorem dX2_clear_416 : decode cX2_clear 416 = .ok (.dup, 1) := by decide +kernel
theorem dX2_clear_417 : decode cX2_clear 417 = .ok (.getfield 113, 3) := by decide +kernel
theorem dX2_clear_420 : decode cX2_clear 420 = .ok (.iconst 1, 1) := by decide +kernel
theorem dX2_clear_421 : decode cX2_clear 421 = .ok (.iadd, 1) := by decide +kernel
theorem dX2_clear_422 : decode cX2_clear 422 = .ok (.putfield 113, 3) := by decide +kernel
theorem dX2_clear_425 : decode cX2_clear 425 = .ok (.aload_n 0, 1) := by decide +kernel
theorem dX2_clear_426 : decode cX2_clear 426 = .ok (.getfield 54, 3) := by decide +kernel
theorem dX2_clear_429 : decode cX2_clear 429 = .ok (.iconst 0, 1) := by decide +kernel
theorem dX2_clear_430 : decode cX2_clear 430 = .ok (.iaload, 1) := by decide +kernel
theorem dX2_clear_431 : decode cX2_clear 431 = .ok (.ireturn, 1) := by decide +kernel
theorem dX2_quarter_0 : decode cX2_quarter 0 = .ok (.aload_n 0, 1) := by decide +kernel
theorem dX2_quarter_1 : decode cX2_quarter 1 = .ok (.iconst 0, 1) := by decide +kernel
theorem dX2_quarter_2 : decode cX2_quarter 2 = .ok (.putfield 63, 3) := by decide +kernel
theorem dX2_quarter_5 : decode cX2_quarter 5 = .ok (.aload_n 0, 1) := by decide +kernel
theorem dX2_quarter_6 : decode cX2_quarter 6 = .ok (.getfield 113, 3) := by decide +kernel
theorem dX2_quarter_9 : decode cX2_quarter 9 = .ok (.ireturn, 1) := by decide +kernel
set_option maxRecDepth 20000 in
theorem ggX2_tradable_X2_isBuyer : GoodIn wsX2_tradable wsX2_isBuyer := goodIn_r _ [7, 8, 2, 13, 14, 15, 16, 17, 18, 19, 20, 21, 22, 23, 24, 25, 26, 27, 28, 29, 30, 31, 32, 33, 34] (by decide +kernel) (by decide +kernel)
set_option maxRecDepth 20000 in
theorem gX2_tradable_X2_isBuyer : GoodIn wsX2_tradable (wsV RX2 84 RX2 yX2_isBuyer wsX2_isBuyer) := goodIn_app (goodIn_of _ (by decide +kernel)) ggX2_tradable_X2_isBuyer
set_option maxRecDepth 20000 in
theorem ggX2_tradable_X2_isSeller : GoodIn wsX2_tradable wsX2_isSeller := goodIn_r _ [12, 8, 2, 13, 14, 15, 16, 17, 18, 19, 20, 21, 22, 23, 24, 25, 26, 27, 28, 29, 30, 31, 32, 33, 34] (by decide +kernel) (by decide +kernel)
set_option maxRecDepth 20000 in
theorem gX2_tradable_X2_isSeller : GoodIn wsX2_tradable (wsV RX2 87 RX2 yX2_isSeller wsX2_isSeller) := goodIn_app (goodIn_of _ (by decide +kernel)) ggX2_tradable_X2_isSeller
theorem dX2_tradable_0 : decode cX2_tradable 0 = .ok (.iconst 0, 1) := by decide +kernel
theorem dX2_tradable_1 : decode cX2_tradable 1 = .ok (.istore_n 2, 1) := by decide +kernel
theorem dX2_tradable_2 : decode cX2_tradable 2 = .ok (.iconst 0, 1) := by decide +kernel
theorem dX2_tradable_3 : decode cX2_tradable 3 = .ok (.istore_n 3, 1) := by decide +kernel
theorem dX2_tradable_4 : decode cX2_tradable 4 = .ok (.iload_n 3, 1) := by decide +kernel
theorem dX2_tradable_5 : decode cX2_tradable 5 = .ok (.bipush 6, 2) := by decide +kernel
theorem dX2_tradable_7 : decode cX2_tradable 7 = .ok (.if_icmp .ge 72, 3) := by decide +kernel
theorem dX2_tradable_10 : decode cX2_tradable 10 = .ok (.iload_n 2, 1) := by decide +kernel
theorem dX2_tradable_11 : decode cX2_tradable 11 = .ok (.aload_n 0, 1) := by decide +kernel
theorem dX2_tradable_12 : decode cX2_tradable 12 = .ok (.iload_n 3, 1) := by decide +kernel
theorem dX2_tradable_13 : decode cX2_tradable 13 = .ok (.invokevirtual 84, 3) := by decide +kernel
theorem dX2_tradable_16 : decode cX2_tradable 16 = .ok (.ifCond .eq 23, 3) := by decide +kernel
theorem dX2_tradable_19 : decode cX2_tradable 19 = .ok (.aload_n 0, 1) := by decide +kernel
theorem dX2_tradable_20 : decode cX2_tradable 20 = .ok (.getfield 16, 3) := by decide +kernel
theorem dX2_tradable_23 : decode cX2_tradable 23 = .ok (.iload_n 3, 1) := by decide +kernel
theorem dX2_tradable_24 : decode cX2_tradable 24 = .ok (.iaload, 1) := by decide +kernel
theorem dX2_tradable_25 : decode cX2_tradable 25 = .ok (.iload_n 1, 1) := by decide +kernel
theorem dX2_tradable_26 : decode cX2_tradable 26 = .ok (.if_icmp .le 13, 3) := by decide +kernel
theorem dX2_tradable_29 : decode cX2_tradable 29 = .ok (.aload_n 0, 1) := by decide +kernel
theorem dX2_tradable_30 : decode cX2_tradable 30 = .ok (.getfield 13, 3) := by decide +kernel
theorem dX2_tradable_33 : decode cX2_tradable 33 = .ok (.iload_n 3, 1) := by decide +kernel
theorem dX2_tradable_34 : decode cX2_tradable 34 = .ok (.iaload, 1) := by decide +kernel
theorem dX2_tradable_35 : decode cX2_tradable 35 = .ok (.ineg, 1) := by decide +kernel
theorem dX2_tradable_36 : decode cX2_tradable 36 = .ok (.goto 4, 3) := by decide +kernel
theorem dX2_tradable_39 : decode cX2_tradable 39 = .ok (.iconst 0, 1) := by decide +kernel
theorem dX2_tradable_40 : decode cX2_tradable 40 = .ok (.iadd, 1) := by decide +kernel
theorem dX2_tradable_41 : decode cX2_tradable 41 = .ok (.istore_n 2, 1) := by decide +kernel
theorem dX2_tradable_42 : decode cX2_tradable 42 = .ok (.iload_n 2, 1) := by decide +kernel
theorem dX2_tradable_43 : decode cX2_tradable 43 = .ok (.aload_n 0, 1) := by decide +kernel
theorem dX2_tradable_44 : decode cX2_tradable 44 = .ok (.iload_n 3, 1) := by decide +kernel
theorem dX2_tradable_45 : decode cX2_tradable 45 = .ok (.invokevirtual 87, 3) := by decide +kernel
theorem dX2_tradable_48 : decode cX2_tradable 48 = .ok (.ifCond .eq 22, 3) := by decide +kernel
theorem dX2_tradable_51 : decode cX2_tradable 51 = .ok (.aload_n 0, 1) := by decide +kernel
theorem dX2_tradable_52 : decode cX2_tradable 52 = .ok (.getfield 16, 3) := by decide +kernel
theorem dX2_tradable_55 : decode cX2_tradable 55 = .ok (.iload_n 3, 1) := by decide +kernel
theorem dX2_tradable_56 : decode cX2_tradable 56 = .ok (.iaload, 1) := by decide +kernel
theorem dX2_tradable_57 : decode cX2_tradable 57 = .ok (.iload_n 1, 1) := by decide +kernel
theorem dX2_tradable_58 : decode cX2_tradable 58 = .ok (.if_icmp .gt 12, 3) := by decide +kernel
theorem dX2_tradable_61 : decode cX2_tradable 61 = .ok (.aload_n 0, 1) := by decide +kernel
theorem dX2_tradable_62 : decode cX2_tradable 62 = .ok (.getfield 13, 3) := by decide +kernel
theorem dX2_tradable_65 : decode cX2_tradable 65 = .ok (.iload_n 3, 1) := by decide +kernel
theorem dX2_tradable_66 : decode cX2_tradable 66 = .ok (.iaload, 1) := by decide +kernel
theorem dX2_tradable_67 : decode cX2_tradable 67 = .ok (.goto 4, 3) := by decide +kernel
theorem dX2_tradable_70 : decode cX2_tradable 70 = .ok (.iconst 0, 1) := by decide +kernel
theorem dX2_tradable_71 : decode cX2_tradable 71 = .ok (.iadd, 1) := by decide +kernel
theorem dX2_tradable_72 : decode cX2_tradable 72 = .ok (.istore_n 2, 1) := by decide +kernel
theorem dX2_tradable_73 : decode cX2_tradable 73 = .ok (.iinc 3 1, 3) := by decide +kernel
theorem dX2_tradable_76 : decode cX2_tradable 76 = .ok (.goto (-72), 3) := by decide +kernel
theorem dX2_tradable_79 : decode cX2_tradable 79 = .ok (.iload_n 2, 1) := by decide +kernel
theorem dX2_tradable_80 : decode cX2_tradable 80 = .ok (.ireturn, 1) := by decide +kernel
set_option maxRecDepth 20000 in
theorem ggX2_mostTradable_X2_tradable : GoodIn wsX2_mostTradable wsX2_tradable := goodIn_r _ [7, 2, 8, 9, 10, 11, 6, 12, 13, 14, 15, 16, 17, 21, 22, 23, 24, 25, 26, 27, 28, 29, 30, 31, 32, 33, 34, 35, 36, 37, 38, 39, 40, 41, 42] (by decide +kernel) (by decide +kernel)
set_option maxRecDepth 20000 in
theorem gX2_mostTradable_X2_tradable : GoodIn wsX2_mostTradable (wsV RX2 132 RX2 yX2_tradable wsX2_tradable) := goodIn_app (goodIn_of _ (by decide +kernel)) ggX2_mostTradable_X2_tradable
set_option maxRecDepth 20000 in
theorem ggX2_mostTradable_X2_isBuyer : GoodIn wsX2_mostTradable wsX2_isBuyer := goodIn_r _ [12, 13, 8, 21, 22, 23, 24, 25, 26, 27, 28, 29, 30, 31, 32, 33, 34, 35, 36, 37, 38, 39, 40, 41, 42] (by decide +kernel) (by decide +kernel)
set_option maxRecDepth 20000 in
theorem gX2_mostTradable_X2_isBuyer : GoodIn wsX2_mostTradable (wsV RX2 84 RX2 yX2_isBuyer wsX2_isBuyer) := goodIn_app (goodIn_of _ (by decide +kernel)) ggX2_mostTradable_X2_isBuyer
set_option maxRecDepth 20000 in
theorem ggX2_mostTradable_X2_lesser : GoodIn wsX2_mostTradable wsX2_lesser := goodIn_r _ [20] (by decide +kernel) (by decide +kernel)
set_option maxRecDepth 20000 in
theorem gX2_mostTradable_X2_lesser : GoodIn wsX2_mostTradable (va_wsS RX2 97 yX2_lesser wsX2_lesser) := goodIn_app (goodIn_of _ (by decide +kernel)) ggX2_mostTradable_X2_lesser
theorem dX2_mostTradable_0 : decode cX2_mostTradable 0 = .ok (.aload_n 0, 1) := by decide +kernel
theorem dX2_mostTradable_1 : decode cX2_mostTradable 1 = .ok (.iconst 0, 1) := by decide +kernel
theorem dX2_mostTradable_2 : decode cX2_mostTradable 2 = .ok (.putfield 63, 3) := by decide +kernel
theorem dX2_mostTradable_5 : decode cX2_mostTradable 5 = .ok (.aload_n 0, 1) := by decide +kernel
theorem dX2_mostTradable_6 : decode cX2_mostTradable 6 = .ok (.iconst (-1), 1) := by decide +kernel
theorem dX2_mostTradable_7 : decode cX2_mostTradable 7 = .ok (.invokevirtual 132, 3) := by decide +kernel
theorem dX2_mostTradable_10 : decode cX2_mostTradable 10 = .ok (.istore_n 1, 1) := by decide +kernel
theorem dX2_mostTradable_11 : decode cX2_mostTradable 11 = .ok (.iconst 0, 1) := by decide +kernel
theorem dX2_mostTradable_12 : decode cX2_mostTradable 12 = .ok (.istore_n 2, 1) := by decide +kernel
theorem dX2_mostTradable_13 : decode cX2_mostTradable 13 = .ok (.iload_n 2, 1) := by decide +kernel
theorem dX2_mostTradable_14 : decode cX2_mostTradable 14 = .ok (.bipush 6, 2) := by decide +kernel
theorem dX2_mostTradable_16 : decode cX2_mostTradable 16 = .ok (.if_icmp .ge 36, 3) := by decide +kernel
theorem dX2_mostTradable_19 : decode cX2_mostTradable 19 = .ok (.aload_n 0, 1) := by decide +kernel
theorem dX2_mostTradable_20 : decode cX2_mostTradable 20 = .ok (.iload_n 2, 1) := by decide +kernel
theorem dX2_mostTradable_21 : decode cX2_mostTradable 21 = .ok (.invokevirtual 84, 3) := by decide +kernel
theorem dX2_mostTradable_24 : decode cX2_mostTradable 24 = .ok (.ifCond .eq 20, 3) := by decide +kernel
theorem dX2_mostTradable_27 : decode cX2_mostTradable 27 = .ok (.iload_n 1, 1) := by decide +kernel
theorem dX2_mostTradable_28 : decode cX2_mostTradable 28 = .ok (.aload_n 0, 1) := by decide +kernel
theorem dX2_mostTradable_29 : decode cX2_mostTradable 29 = .ok (.aload_n 0, 1) := by decide +kernel
theorem dX2_mostTradable_30 : decode cX2_mostTradable 30 = .ok (.getfield 16, 3) := by decide +kernel
theorem dX2_mostTradable_33 : decode cX2_mostTradable 33 = .ok (.iload_n 2, 1) := by decide +kernel
theorem dX2_mostTradable_34 : decode cX2_mostTradable 34 = .ok (.iaload, 1) := by decide +kernel
theorem dX2_mostTradable_35 : decode cX2_mostTradable 35 = .ok (.invokevirtual 132, 3) := by decide +kernel
theorem dX2_mostTradable_38 : decode cX2_mostTradable 38 = .ok (.invokestatic 97, 3) := by decide +kernel
theorem dX2_mostTradable_41 : decode cX2_mostTradable 41 = .ok (.goto 4, 3) := by decide +kernel
theorem dX2_mostTradable_44 : decode cX2_mostTradable 44 = .ok (.iload_n 1, 1) := by decide +kernel
theorem dX2_mostTradable_45 : decode cX2_mostTradable 45 = .ok (.istore_n 1, 1) := by decide +kernel
theorem dX2_mostTradable_46 : decode cX2_mostTradable 46 = .ok (.iinc 2 1, 3) := by decide +kernel
theorem dX2_mostTradable_49 : decode cX2_mostTradable 49 = .ok (.goto (-36), 3) := by decide +kernel
theorem dX2_mostTradable_52 : decode cX2_mostTradable 52 = .ok (.iload_n 1, 1) := by decide +kernel
theorem dX2_mostTradable_53 : decode cX2_mostTradable 53 = .ok (.ireturn, 1) := by decide +kernel
theorem dX2_trades_0 : decode cX2_trades 0 = .ok (.aload_n 0, 1) := by decide +kernel
theorem dX2_trades_1 : decode cX2_trades 1 = .ok (.iconst 0, 1) := by decide +kernel
theorem dX2_trades_2 : decode cX2_trades 2 = .ok (.putfield 63, 3) := by decide +kernel
theorem dX2_trades_5 : decode cX2_trades 5 = .ok (.aload_n 0, 1) := by decide +kernel
theorem dX2_trades_6 : decode cX2_trades 6 = .ok (.getfield 101, 3) := by decide +kernel
theorem dX2_trades_9 : decode cX2_trades 9 = .ok (.ireturn, 1) := by decide +kernel
set_option maxRecDepth 20000 in
theorem ggX2_ofTrade_X2_in : GoodIn wsX2_ofTrade wsX2_in := goodIn_r _ [9] (by decide +kernel) (by decide +kernel)
set_option maxRecDepth 20000 in
theorem gX2_ofTrade_X2_in : GoodIn wsX2_ofTrade (va_wsS RX2 66 yX2_in wsX2_in) := goodIn_app (goodIn_of _ (by decide +kernel)) ggX2_ofTrade_X2_in
set_option maxRecDepth 20000 in
theorem ggX2_ofTrade_X2_goes : GoodIn wsX2_ofTrade wsX2_goes := goodIn_r _ [13, 14, 15, 16, 17, 18, 19, 20, 21, 22, 23, 24, 25, 26, 27, 28, 29, 30, 31, 32, 33, 34, 35, 36] (by decide +kernel) (by decide +kernel)
set_option maxRecDepth 20000 in
theorem gX2_ofTrade_X2_goes : GoodIn wsX2_ofTrade (wsV RX2 77 RX2 yX2_goes wsX2_goes) := goodIn_app (goodIn_of _ (by decide +kernel)) ggX2_ofTrade_X2_goes
theorem dX2_ofTrade_0 : decode cX2_ofTrade 0 = .ok (.aload_n 0, 1) := by decide +kernel
theorem dX2_ofTrade_1 : decode cX2_ofTrade 1 = .ok (.iload_n 1, 1) := by decide +kernel
theorem dX2_ofTrade_2 : decode cX2_ofTrade 2 = .ok (.iconst 0, 1) := by decide +kernel
theorem dX2_ofTrade_3 : decode cX2_ofTrade 3 = .ok (.aload_n 0, 1) := by decide +kernel
theorem dX2_ofTrade_4 : decode cX2_ofTrade 4 = .ok (.getfield 101, 3) := by decide +kernel
theorem dX2_ofTrade_7 : decode cX2_ofTrade 7 = .ok (.iconst 1, 1) := by decide +kernel
theorem dX2_ofTrade_8 : decode cX2_ofTrade 8 = .ok (.isub, 1) := by decide +kernel
theorem dX2_ofTrade_9 : decode cX2_ofTrade 9 = .ok (.invokestatic 66, 3) := by decide +kernel
theorem dX2_ofTrade_12 : decode cX2_ofTrade 12 = .ok (.ifCond .eq 16, 3) := by decide +kernel
theorem dX2_ofTrade_15 : decode cX2_ofTrade 15 = .ok (.iload_n 2, 1) := by decide +kernel
theorem dX2_ofTrade_16 : decode cX2_ofTrade 16 = .ok (.iconst 0, 1) := by decide +kernel
theorem dX2_ofTrade_17 : decode cX2_ofTrade 17 = .ok (.iconst 3, 1) := by decide +kernel
theorem dX2_ofTrade_18 : decode cX2_ofTrade 18 = .ok (.invokestatic 66, 3) := by decide +kernel
theorem dX2_ofTrade_21 : decode cX2_ofTrade 21 = .ok (.ifCond .eq 7, 3) := by decide +kernel
theorem dX2_ofTrade_24 : decode cX2_ofTrade 24 = .ok (.iconst 1, 1) := by decide +kernel
theorem dX2_ofTrade_25 : decode cX2_ofTrade 25 = .ok (.goto 4, 3) := by decide +kernel
theorem dX2_ofTrade_28 : decode cX2_ofTrade 28 = .ok (.iconst 0, 1) := by decide +kernel
theorem dX2_ofTrade_29 : decode cX2_ofTrade 29 = .ok (.iconst 1, 1) := by decide +kernel
theorem dX2_ofTrade_30 : decode cX2_ofTrade 30 = .ok (.iconst 1, 1) := by decide +kernel
theorem dX2_ofTrade_31 : decode cX2_ofTrade 31 = .ok (.invokevirtual 77, 3) := by decide +kernel
theorem dX2_ofTrade_34 : decode cX2_ofTrade 34 = .ok (.ifCond .ne 5, 3) := by decide +kernel
theorem dX2_ofTrade_37 : decode cX2_ofTrade 37 = .ok (.iconst 0, 1) := by decide +kernel
theorem dX2_ofTrade_38 : decode cX2_ofTrade 38 = .ok (.ireturn, 1) := by decide +kernel
theorem dX2_ofTrade_39 : decode cX2_ofTrade 39 = .ok (.iload_n 2, 1) := by decide +kernel
theorem dX2_ofTrade_40 : decode cX2_ofTrade 40 = .ok (.ifCond .ne 12, 3) := by decide +kernel
theorem dX2_ofTrade_43 : decode cX2_ofTrade 43 = .ok (.aload_n 0, 1) := by decide +kernel
theorem dX2_ofTrade_44 : decode cX2_ofTrade 44 = .ok (.getfield 42, 3) := by decide +kernel
theorem dX2_ofTrade_47 : decode cX2_ofTrade 47 = .ok (.iload_n 1, 1) := by decide +kernel
theorem dX2_ofTrade_48 : decode cX2_ofTrade 48 = .ok (.iaload, 1) := by decide +kernel
theorem dX2_ofTrade_49 : decode cX2_ofTrade 49 = .ok (.goto 37, 3) := by decide +kernel
theorem dX2_ofTrade_52 : decode cX2_ofTrade 52 = .ok (.iload_n 2, 1) := by decide +kernel
theorem dX2_ofTrade_53 : decode cX2_ofTrade 53 = .ok (.iconst 1, 1) := by decide +kernel
theorem dX2_ofTrade_54 : decode cX2_ofTrade 54 = .ok (.if_icmp .ne 12, 3) := by decide +kernel
theorem dX2_ofTrade_57 : decode cX2_ofTrade 57 = .ok (.aload_n 0, 1) := by decide +kernel
theorem dX2_ofTrade_58 : decode cX2_ofTrade 58 = .ok (.getfield 45, 3) := by decide +kernel
theorem dX2_ofTrade_61 : decode cX2_ofTrade 61 = .ok (.iload_n 1, 1) := by decide +kernel
theorem dX2_ofTrade_62 : decode cX2_ofTrade 62 = .ok (.iaload, 1) := by decide +kernel
theorem dX2_ofTrade_63 : decode cX2_ofTrade 63 = .ok (.goto 23, 3) := by decide +kernel
theorem dX2_ofTrade_66 : decode cX2_ofTrade 66 = .ok (.iload_n 2, 1) := by decide +kernel
theorem dX2_ofTrade_67 : decode cX2_ofTrade 67 = .ok (.iconst 2, 1) := by decide +kernel
theorem dX2_ofTrade_68 : decode cX2_ofTrade 68 = .ok (.if_icmp .ne 12, 3) := by decide +kernel
theorem dX2_ofTrade_71 : decode cX2_ofTrade 71 = .ok (.aload_n 0, 1) := by decide +kernel
theorem dX2_ofTrade_72 : decode cX2_ofTrade 72 = .ok (.getfield 48, 3) := by decide +kernel
theorem dX2_ofTrade_75 : decode cX2_ofTrade 75 = .ok (.iload_n 1, 1) := by decide +kernel
theorem dX2_ofTrade_76 : decode cX2_ofTrade 76 = .ok (.iaload, 1) := by decide +kernel
theorem dX2_ofTrade_77 : decode cX2_ofTrade 77 = .ok (.goto 9, 3) := by decide +kernel
theorem dX2_ofTrade_80 : decode cX2_ofTrade 80 = .ok (.aload_n 0, 1) := by decide +kernel
theorem dX2_ofTrade_81 : decode cX2_ofTrade 81 = .ok (.getfield 51, 3) := by decide +kernel
theorem dX2_ofTrade_84 : decode cX2_ofTrade 84 = .ok (.iload_n 1, 1) := by decide +kernel
theorem dX2_ofTrade_85 : decode cX2_ofTrade 85 = .ok (.iaload, 1) := by decide +kernel
theorem dX2_ofTrade_86 : decode cX2_ofTrade 86 = .ok (.ireturn, 1) := by decide +kernel
set_option maxRecDepth 20000 in
theorem ggX2_went_X2_in : GoodIn wsX2_went wsX2_in := goodIn_r _ [5] (by decide +kernel) (by decide +kernel)
set_option maxRecDepth 20000 in
theorem gX2_went_X2_in : GoodIn wsX2_went (va_wsS RX2 66 yX2_in wsX2_in) := goodIn_app (goodIn_of _ (by decide +kernel)) ggX2_went_X2_in
set_option maxRecDepth 20000 in
theorem ggX2_went_X2_goes : GoodIn wsX2_went wsX2_goes := goodIn_r _ [9, 10, 11, 12, 13, 14, 15, 16, 17, 18, 19, 20, 21, 22, 23, 24, 25, 26, 27, 28, 29, 30, 31, 32] (by decide +kernel) (by decide +kernel)
set_option maxRecDepth 20000 in
theorem gX2_went_X2_goes : GoodIn wsX2_went (wsV RX2 77 RX2 yX2_goes wsX2_goes) := goodIn_app (goodIn_of _ (by decide +kernel)) ggX2_went_X2_goes
theorem dX2_went_0 : decode cX2_went 0 = .ok (.aload_n 0, 1) := by decide +kernel
theorem dX2_went_1 : decode cX2_went 1 = .ok (.iload_n 1, 1) := by decide +kernel
theorem dX2_went_2 : decode cX2_went 2 = .ok (.iconst 0, 1) := by decide +kernel
theorem dX2_went_3 : decode cX2_went 3 = .ok (.iconst 5, 1) := by decide +kernel
theorem dX2_went_4 : decode cX2_went 4 = .ok (.invokestatic 66, 3) := by decide +kernel
theorem dX2_went_7 : decode cX2_went 7 = .ok (.iconst 1, 1) := by decide +kernel
theorem dX2_went_8 : decode cX2_went 8 = .ok (.iconst 1, 1) := by decide +kernel
theorem dX2_went_9 : decode cX2_went 9 = .ok (.invokevirtual 77, 3) := by decide +kernel
theorem dX2_went_12 : decode cX2_went 12 = .ok (.ifCond .eq 12, 3) := by decide +kernel
theorem dX2_went_15 : decode cX2_went 15 = .ok (.aload_n 0, 1) := by decide +kernel
theorem dX2_went_16 : decode cX2_went 16 = .ok (.getfield 54, 3) := by decide +kernel
theorem dX2_went_19 : decode cX2_went 19 = .ok (.iload_n 1, 1) := by decide +kernel
theorem dX2_went_20 : decode cX2_went 20 = .ok (.iaload, 1) := by decide +kernel
theorem dX2_went_21 : decode cX2_went 21 = .ok (.goto 4, 3) := by decide +kernel
theorem dX2_went_24 : decode cX2_went 24 = .ok (.iconst 0, 1) := by decide +kernel
theorem dX2_went_25 : decode cX2_went 25 = .ok (.ireturn, 1) := by decide +kernel
set_option maxRecDepth 20000 in
theorem ggX2_flow_X2_in : GoodIn wsX2_flow wsX2_in := goodIn_r _ [5] (by decide +kernel) (by decide +kernel)
set_option maxRecDepth 20000 in
theorem gX2_flow_X2_in : GoodIn wsX2_flow (va_wsS RX2 66 yX2_in wsX2_in) := goodIn_app (goodIn_of _ (by decide +kernel)) ggX2_flow_X2_in
set_option maxRecDepth 20000 in
theorem ggX2_flow_X2_goes : GoodIn wsX2_flow wsX2_goes := goodIn_r _ [9, 10, 11, 12, 13, 14, 15, 16, 17, 18, 19, 20, 21, 22, 23, 24, 25, 26, 27, 28, 29, 30, 31, 32] (by decide +kernel) (by decide +kernel)
set_option maxRecDepth 20000 in
theorem gX2_flow_X2_goes : GoodIn wsX2_flow (wsV RX2 77 RX2 yX2_goes wsX2_goes) := goodIn_app (goodIn_of _ (by decide +kernel)) ggX2_flow_X2_goes
theorem dX2_flow_0 : decode cX2_flow 0 = .ok (.aload_n 0, 1) := by decide +kernel
theorem dX2_flow_1 : decode cX2_flow 1 = .ok (.iload_n 1, 1) := by decide +kernel
theorem dX2_flow_2 : decode cX2_flow 2 = .ok (.iconst 0, 1) := by decide +kernel
theorem dX2_flow_3 : decode cX2_flow 3 = .ok (.iconst 4, 1) := by decide +kernel
theorem dX2_flow_4 : decode cX2_flow 4 = .ok (.invokestatic 66, 3) := by decide +kernel
theorem dX2_flow_7 : decode cX2_flow 7 = .ok (.iconst 1, 1) := by decide +kernel
theorem dX2_flow_8 : decode cX2_flow 8 = .ok (.iconst 1, 1) := by decide +kernel
theorem dX2_flow_9 : decode cX2_flow 9 = .ok (.invokevirtual 77, 3) := by decide +kernel
theorem dX2_flow_12 : decode cX2_flow 12 = .ok (.ifCond .eq 12, 3) := by decide +kernel
theorem dX2_flow_15 : decode cX2_flow 15 = .ok (.aload_n 0, 1) := by decide +kernel
theorem dX2_flow_16 : decode cX2_flow 16 = .ok (.getfield 57, 3) := by decide +kernel
theorem dX2_flow_19 : decode cX2_flow 19 = .ok (.iload_n 1, 1) := by decide +kernel
theorem dX2_flow_20 : decode cX2_flow 20 = .ok (.iaload, 1) := by decide +kernel
theorem dX2_flow_21 : decode cX2_flow 21 = .ok (.goto 4, 3) := by decide +kernel
theorem dX2_flow_24 : decode cX2_flow 24 = .ok (.iconst 0, 1) := by decide +kernel
theorem dX2_flow_25 : decode cX2_flow 25 = .ok (.ireturn, 1) := by decide +kernel
set_option maxRecDepth 20000 in
theorem ggX2_isMember_X2_isHouse : GoodIn wsX2_isMember wsX2_isHouse := goodIn_r _ [5, 6, 7, 4, 8] (by decide +kernel) (by decide +kernel)
set_option maxRecDepth 20000 in
theorem gX2_isMember_X2_isHouse : GoodIn wsX2_isMember (va_wsS RX2 70 yX2_isHouse wsX2_isHouse) := goodIn_app (goodIn_of _ (by decide +kernel)) ggX2_isMember_X2_isHouse
set_option maxRecDepth 20000 in
theorem ggX2_isMember_X2_goes : GoodIn wsX2_isMember wsX2_goes := goodIn_r _ [12, 13, 14, 15, 16, 17, 18, 19, 20, 21, 22, 23, 24, 25, 26, 27, 28, 29, 30, 31, 32, 33, 34, 35] (by decide +kernel) (by decide +kernel)
set_option maxRecDepth 20000 in
theorem gX2_isMember_X2_goes : GoodIn wsX2_isMember (wsV RX2 77 RX2 yX2_goes wsX2_goes) := goodIn_app (goodIn_of _ (by decide +kernel)) ggX2_isMember_X2_goes
theorem dX2_isMember_0 : decode cX2_isMember 0 = .ok (.aload_n 0, 1) := by decide +kernel
theorem dX2_isMember_1 : decode cX2_isMember 1 = .ok (.iload_n 1, 1) := by decide +kernel
theorem dX2_isMember_2 : decode cX2_isMember 2 = .ok (.invokestatic 70, 3) := by decide +kernel
theorem dX2_isMember_5 : decode cX2_isMember 5 = .ok (.iconst 1, 1) := by decide +kernel
theorem dX2_isMember_6 : decode cX2_isMember 6 = .ok (.iconst 1, 1) := by decide +kernel
theorem dX2_isMember_7 : decode cX2_isMember 7 = .ok (.invokevirtual 77, 3) := by decide +kernel
theorem dX2_isMember_10 : decode cX2_isMember 10 = .ok (.ifCond .eq 16, 3) := by decide +kernel
theorem dX2_isMember_13 : decode cX2_isMember 13 = .ok (.aload_n 0, 1) := by decide +kernel
theorem dX2_isMember_14 : decode cX2_isMember 14 = .ok (.getfield 31, 3) := by decide +kernel
theorem dX2_isMember_17 : decode cX2_isMember 17 = .ok (.iload_n 1, 1) := by decide +kernel
theorem dX2_isMember_18 : decode cX2_isMember 18 = .ok (.baload, 1) := by decide +kernel
theorem dX2_isMember_19 : decode cX2_isMember 19 = .ok (.ifCond .ne 7, 3) := by decide +kernel
theorem dX2_isMember_22 : decode cX2_isMember 22 = .ok (.iconst 1, 1) := by decide +kernel
theorem dX2_isMember_23 : decode cX2_isMember 23 = .ok (.goto 4, 3) := by decide +kernel
theorem dX2_isMember_26 : decode cX2_isMember 26 = .ok (.iconst 0, 1) := by decide +kernel
theorem dX2_isMember_27 : decode cX2_isMember 27 = .ok (.ireturn, 1) := by decide +kernel
set_option maxRecDepth 20000 in
theorem ggX2_stored_X2_isHouse : GoodIn wsX2_stored wsX2_isHouse := goodIn_r _ [5, 6, 7, 4, 8] (by decide +kernel) (by decide +kernel)
set_option maxRecDepth 20000 in
theorem gX2_stored_X2_isHouse : GoodIn wsX2_stored (va_wsS RX2 70 yX2_isHouse wsX2_isHouse) := goodIn_app (goodIn_of _ (by decide +kernel)) ggX2_stored_X2_isHouse
set_option maxRecDepth 20000 in
theorem ggX2_stored_X2_goes : GoodIn wsX2_stored wsX2_goes := goodIn_r _ [12, 13, 14, 15, 16, 17, 18, 19, 20, 21, 22, 23, 24, 25, 26, 27, 28, 29, 30, 31, 32, 33, 34, 35] (by decide +kernel) (by decide +kernel)
set_option maxRecDepth 20000 in
theorem gX2_stored_X2_goes : GoodIn wsX2_stored (wsV RX2 77 RX2 yX2_goes wsX2_goes) := goodIn_app (goodIn_of _ (by decide +kernel)) ggX2_stored_X2_goes
theorem dX2_stored_0 : decode cX2_stored 0 = .ok (.aload_n 0, 1) := by decide +kernel
theorem dX2_stored_1 : decode cX2_stored 1 = .ok (.iload_n 1, 1) := by decide +kernel
theorem dX2_stored_2 : decode cX2_stored 2 = .ok (.invokestatic 70, 3) := by decide +kernel
theorem dX2_stored_5 : decode cX2_stored 5 = .ok (.iconst 1, 1) := by decide +kernel
theorem dX2_stored_6 : decode cX2_stored 6 = .ok (.iconst 1, 1) := by decide +kernel
theorem dX2_stored_7 : decode cX2_stored 7 = .ok (.invokevirtual 77, 3) := by decide +kernel
theorem dX2_stored_10 : decode cX2_stored 10 = .ok (.ifCond .eq 12, 3) := by decide +kernel
theorem dX2_stored_13 : decode cX2_stored 13 = .ok (.aload_n 0, 1) := by decide +kernel
theorem dX2_stored_14 : decode cX2_stored 14 = .ok (.getfield 25, 3) := by decide +kernel
theorem dX2_stored_17 : decode cX2_stored 17 = .ok (.iload_n 1, 1) := by decide +kernel
theorem dX2_stored_18 : decode cX2_stored 18 = .ok (.iaload, 1) := by decide +kernel
theorem dX2_stored_19 : decode cX2_stored 19 = .ok (.goto 4, 3) := by decide +kernel
theorem dX2_stored_22 : decode cX2_stored 22 = .ok (.iconst 0, 1) := by decide +kernel
theorem dX2_stored_23 : decode cX2_stored 23 = .ok (.ireturn, 1) := by decide +kernel
set_option maxRecDepth 20000 in
theorem ggX2_part_X2_isHouse : GoodIn wsX2_part wsX2_isHouse := goodIn_r _ [5, 6, 7, 4, 8] (by decide +kernel) (by decide +kernel)
set_option maxRecDepth 20000 in
theorem gX2_part_X2_isHouse : GoodIn wsX2_part (va_wsS RX2 70 yX2_isHouse wsX2_isHouse) := goodIn_app (goodIn_of _ (by decide +kernel)) ggX2_part_X2_isHouse
set_option maxRecDepth 20000 in
theorem ggX2_part_X2_goes : GoodIn wsX2_part wsX2_goes := goodIn_r _ [12, 13, 14, 15, 16, 17, 18, 19, 20, 21, 22, 23, 24, 25, 26, 27, 28, 29, 30, 31, 32, 33, 34, 35] (by decide +kernel) (by decide +kernel)
set_option maxRecDepth 20000 in
theorem gX2_part_X2_goes : GoodIn wsX2_part (wsV RX2 77 RX2 yX2_goes wsX2_goes) := goodIn_app (goodIn_of _ (by decide +kernel)) ggX2_part_X2_goes
theorem dX2_part_0 : decode cX2_part 0 = .ok (.aload_n 0, 1) := by decide +kernel
theorem dX2_part_1 : decode cX2_part 1 = .ok (.iload_n 1, 1) := by decide +kernel
theorem dX2_part_2 : decode cX2_part 2 = .ok (.invokestatic 70, 3) := by decide +kernel
theorem dX2_part_5 : decode cX2_part 5 = .ok (.iconst 1, 1) := by decide +kernel
theorem dX2_part_6 : decode cX2_part 6 = .ok (.iconst 1, 1) := by decide +kernel
theorem dX2_part_7 : decode cX2_part 7 = .ok (.invokevirtual 77, 3) := by decide +kernel
theorem dX2_part_10 : decode cX2_part 10 = .ok (.ifCond .eq 12, 3) := by decide +kernel
theorem dX2_part_13 : decode cX2_part 13 = .ok (.aload_n 0, 1) := by decide +kernel
theorem dX2_part_14 : decode cX2_part 14 = .ok (.getfield 22, 3) := by decide +kernel
theorem dX2_part_17 : decode cX2_part 17 = .ok (.iload_n 1, 1) := by decide +kernel
theorem dX2_part_18 : decode cX2_part 18 = .ok (.iaload, 1) := by decide +kernel
theorem dX2_part_19 : decode cX2_part 19 = .ok (.goto 4, 3) := by decide +kernel
theorem dX2_part_22 : decode cX2_part 22 = .ok (.iconst 0, 1) := by decide +kernel
theorem dX2_part_23 : decode cX2_part 23 = .ok (.ireturn, 1) := by decide +kernel
set_option maxRecDepth 20000 in
theorem ggX2_bill_X2_isHouse : GoodIn wsX2_bill wsX2_isHouse := goodIn_r _ [5, 6, 7, 4, 8] (by decide +kernel) (by decide +kernel)
set_option maxRecDepth 20000 in
theorem gX2_bill_X2_isHouse : GoodIn wsX2_bill (va_wsS RX2 70 yX2_isHouse wsX2_isHouse) := goodIn_app (goodIn_of _ (by decide +kernel)) ggX2_bill_X2_isHouse
set_option maxRecDepth 20000 in
theorem ggX2_bill_X2_goes : GoodIn wsX2_bill wsX2_goes := goodIn_r _ [12, 13, 14, 15, 16, 17, 18, 19, 20, 21, 22, 23, 24, 25, 26, 27, 28, 29, 30, 31, 32, 33, 34, 35] (by decide +kernel) (by decide +kernel)
set_option maxRecDepth 20000 in
theorem gX2_bill_X2_goes : GoodIn wsX2_bill (wsV RX2 77 RX2 yX2_goes wsX2_goes) := goodIn_app (goodIn_of _ (by decide +kernel)) ggX2_bill_X2_goes
theorem dX2_bill_0 : decode cX2_bill 0 = .ok (.aload_n 0, 1) := by decide +kernel
theorem dX2_bill_1 : decode cX2_bill 1 = .ok (.iload_n 1, 1) := by decide +kernel
theorem dX2_bill_2 : decode cX2_bill 2 = .ok (.invokestatic 70, 3) := by decide +kernel
theorem dX2_bill_5 : decode cX2_bill 5 = .ok (.iconst 1, 1) := by decide +kernel
theorem dX2_bill_6 : decode cX2_bill 6 = .ok (.iconst 1, 1) := by decide +kernel
theorem dX2_bill_7 : decode cX2_bill 7 = .ok (.invokevirtual 77, 3) := by decide +kernel
theorem dX2_bill_10 : decode cX2_bill 10 = .ok (.ifCond .eq 12, 3) := by decide +kernel
theorem dX2_bill_13 : decode cX2_bill 13 = .ok (.aload_n 0, 1) := by decide +kernel
theorem dX2_bill_14 : decode cX2_bill 14 = .ok (.getfield 28, 3) := by decide +kernel
theorem dX2_bill_17 : decode cX2_bill 17 = .ok (.iload_n 1, 1) := by decide +kernel
theorem dX2_bill_18 : decode cX2_bill 18 = .ok (.iaload, 1) := by decide +kernel
theorem dX2_bill_19 : decode cX2_bill 19 = .ok (.goto 4, 3) := by decide +kernel
theorem dX2_bill_22 : decode cX2_bill 22 = .ok (.iconst 0, 1) := by decide +kernel
theorem dX2_bill_23 : decode cX2_bill 23 = .ok (.ireturn, 1) := by decide +kernel
theorem dX2_pool_0 : decode cX2_pool 0 = .ok (.aload_n 0, 1) := by decide +kernel
theorem dX2_pool_1 : decode cX2_pool 1 = .ok (.iconst 0, 1) := by decide +kernel
theorem dX2_pool_2 : decode cX2_pool 2 = .ok (.putfield 63, 3) := by decide +kernel
theorem dX2_pool_5 : decode cX2_pool 5 = .ok (.aload_n 0, 1) := by decide +kernel
theorem dX2_pool_6 : decode cX2_pool 6 = .ok (.getfield 81, 3) := by decide +kernel
theorem dX2_pool_9 : decode cX2_pool 9 = .ok (.ireturn, 1) := by decide +kernel
theorem dX2_supplied_0 : decode cX2_supplied 0 = .ok (.aload_n 0, 1) := by decide +kernel
theorem dX2_supplied_1 : decode cX2_supplied 1 = .ok (.iconst 0, 1) := by decide +kernel
theorem dX2_supplied_2 : decode cX2_supplied 2 = .ok (.putfield 63, 3) := by decide +kernel
theorem dX2_supplied_5 : decode cX2_supplied 5 = .ok (.aload_n 0, 1) := by decide +kernel
theorem dX2_supplied_6 : decode cX2_supplied 6 = .ok (.getfield 110, 3) := by decide +kernel
theorem dX2_supplied_9 : decode cX2_supplied 9 = .ok (.ireturn, 1) := by decide +kernel
theorem dJ9_abs_0f7a4_0 : decode cJ9_abs_0f7a4 0 = .ok (.iload_n 0, 1) := by decide +kernel
theorem dJ9_abs_0f7a4_1 : decode cJ9_abs_0f7a4 1 = .ok (.ifCond .ge 8, 3) := by decide +kernel
theorem dJ9_abs_0f7a4_4 : decode cJ9_abs_0f7a4 4 = .ok (.iload_n 0, 1) := by decide +kernel
theorem dJ9_abs_0f7a4_5 : decode cJ9_abs_0f7a4 5 = .ok (.ineg, 1) := by decide +kernel
theorem dJ9_abs_0f7a4_6 : decode cJ9_abs_0f7a4 6 = .ok (.goto 4, 3) := by decide +kernel
theorem dJ9_abs_0f7a4_9 : decode cJ9_abs_0f7a4 9 = .ok (.iload_n 0, 1) := by decide +kernel
theorem dJ9_abs_0f7a4_10 : decode cJ9_abs_0f7a4 10 = .ok (.ireturn, 1) := by decide +kernel
theorem dJ9_max_7cf53_0 : decode cJ9_max_7cf53 0 = .ok (.iload_n 0, 1) := by decide +kernel
theorem dJ9_max_7cf53_1 : decode cJ9_max_7cf53 1 = .ok (.iload_n 1, 1) := by decide +kernel
theorem dJ9_max_7cf53_2 : decode cJ9_max_7cf53 2 = .ok (.if_icmp .lt 7, 3) := by decide +kernel
theorem dJ9_max_7cf53_5 : decode cJ9_max_7cf53 5 = .ok (.iload_n 0, 1) := by decide +kernel
theorem dJ9_max_7cf53_6 : decode cJ9_max_7cf53 6 = .ok (.goto 4, 3) := by decide +kernel
theorem dJ9_max_7cf53_9 : decode cJ9_max_7cf53 9 = .ok (.iload_n 1, 1) := by decide +kernel
theorem dJ9_max_7cf53_10 : decode cJ9_max_7cf53 10 = .ok (.ireturn, 1) := by decide +kernel
theorem dJ9_min_7cf53_0 : decode cJ9_min_7cf53 0 = .ok (.iload_n 0, 1) := by decide +kernel
theorem dJ9_min_7cf53_1 : decode cJ9_min_7cf53 1 = .ok (.iload_n 1, 1) := by decide +kernel
theorem dJ9_min_7cf53_2 : decode cJ9_min_7cf53 2 = .ok (.if_icmp .gt 7, 3) := by decide +kernel
theorem dJ9_min_7cf53_5 : decode cJ9_min_7cf53 5 = .ok (.iload_n 0, 1) := by decide +kernel
theorem dJ9_min_7cf53_6 : decode cJ9_min_7cf53 6 = .ok (.goto 4, 3) := by decide +kernel
theorem dJ9_min_7cf53_9 : decode cJ9_min_7cf53 9 = .ok (.iload_n 1, 1) := by decide +kernel
theorem dJ9_min_7cf53_10 : decode cJ9_min_7cf53 10 = .ok (.ireturn, 1) := by decide +kernel
end
section
set_option maxRecDepth 20000 in
theorem ggL_forecast_X1_forecast : GoodIn wsL_forecast wsX1_forecast := goodIn_ca (goodIn_ca (goodIn_ca (goodIn_r _ [8, 9, 10, 11, 7, 12, 13, 14, 15, 16, 17, 18, 19, 20, 21, 22, 23, 24, 25, 26, 27, 28, 29, 30, 31, 32, 33, 34, 35, 36, 37, 38, 39, 40, 41, 42, 43] (by decide +kernel) (by decide +kernel)) (goodIn_sub (fun _ h => List.mem_cons_of_mem _ (List.mem_append_left _ (List.mem_append_left _ (List.mem_append_right _ h)))) (by decide +kernel))) (goodIn_sub (fun _ h => List.mem_cons_of_mem _ (List.mem_append_left _ (List.mem_append_right _ h))) (by decide +kernel))) (goodIn_sub (fun _ h => List.mem_cons_of_mem _ (List.mem_append_right _ h)) (by decide +kernel))
set_option maxRecDepth 20000 in
theorem gL_forecast_X1_forecast : GoodIn wsL_forecast (wsV RL 7 RX1 yX1_forecast wsX1_forecast) := goodIn_app (goodIn_of _ (by decide +kernel)) ggL_forecast_X1_forecast
theorem dL_forecast_0 : decode cL_forecast 0 = .ok (.aload_n 3, 1) := by decide +kernel
theorem dL_forecast_1 : decode cL_forecast 1 = .ok (.iconst 0, 1) := by decide +kernel
theorem dL_forecast_2 : decode cL_forecast 2 = .ok (.aload_n 0, 1) := by decide +kernel
theorem dL_forecast_3 : decode cL_forecast 3 = .ok (.iload_n 1, 1) := by decide +kernel
theorem dL_forecast_4 : decode cL_forecast 4 = .ok (.iload_n 2, 1) := by decide +kernel
theorem dL_forecast_5 : decode cL_forecast 5 = .ok (.invokevirtual 7, 3) := by decide +kernel
theorem dL_forecast_8 : decode cL_forecast 8 = .ok (.i2l, 1) := by decide +kernel
theorem dL_forecast_9 : decode cL_forecast 9 = .ok (.lastore, 1) := by decide +kernel
theorem dL_forecast_10 : decode cL_forecast 10 = .ok (.goto 15, 3) := by decide +kernel
theorem dL_forecast_13 : decode cL_forecast 13 = .ok (.astore 4, 2) := by decide +kernel
theorem dL_forecast_15 : decode cL_forecast 15 = .ok (.iconst 1, 1) := by decide +kernel
theorem dL_forecast_16 : decode cL_forecast 16 = .ok (.ireturn, 1) := by decide +kernel
theorem dL_forecast_17 : decode cL_forecast 17 = .ok (.astore 4, 2) := by decide +kernel
theorem dL_forecast_19 : decode cL_forecast 19 = .ok (.iconst 2, 1) := by decide +kernel
theorem dL_forecast_20 : decode cL_forecast 20 = .ok (.ireturn, 1) := by decide +kernel
theorem dL_forecast_21 : decode cL_forecast 21 = .ok (.astore 4, 2) := by decide +kernel
theorem dL_forecast_23 : decode cL_forecast 23 = .ok (.iconst 3, 1) := by decide +kernel
theorem dL_forecast_24 : decode cL_forecast 24 = .ok (.ireturn, 1) := by decide +kernel
theorem dL_forecast_25 : decode cL_forecast 25 = .ok (.iconst 0, 1) := by decide +kernel
theorem dL_forecast_26 : decode cL_forecast 26 = .ok (.ireturn, 1) := by decide +kernel
set_option maxRecDepth 20000 in
theorem ggL_meter_X1_meter : GoodIn wsL_meter wsX1_meter := goodIn_ca (goodIn_ca (goodIn_ca (goodIn_r _ [8, 9, 10, 11, 7, 12, 13, 14, 15, 16, 17, 18, 19, 20, 21, 22, 23, 24, 25, 26, 27, 28, 29, 30, 31, 32, 33, 34, 35, 36, 37, 38, 39, 40, 41, 42, 43] (by decide +kernel) (by decide +kernel)) (goodIn_sub (fun _ h => List.mem_cons_of_mem _ (List.mem_append_left _ (List.mem_append_left _ (List.mem_append_right _ h)))) (by decide +kernel))) (goodIn_sub (fun _ h => List.mem_cons_of_mem _ (List.mem_append_left _ (List.mem_append_right _ h))) (by decide +kernel))) (goodIn_sub (fun _ h => List.mem_cons_of_mem _ (List.mem_append_right _ h)) (by decide +kernel))
set_option maxRecDepth 20000 in
theorem gL_meter_X1_meter : GoodIn wsL_meter (wsV RL 19 RX1 yX1_meter wsX1_meter) := goodIn_app (goodIn_of _ (by decide +kernel)) ggL_meter_X1_meter
theorem dL_meter_0 : decode cL_meter 0 = .ok (.aload_n 3, 1) := by decide +kernel
theorem dL_meter_1 : decode cL_meter 1 = .ok (.iconst 0, 1) := by decide +kernel
theorem dL_meter_2 : decode cL_meter 2 = .ok (.aload_n 0, 1) := by decide +kernel
theorem dL_meter_3 : decode cL_meter 3 = .ok (.iload_n 1, 1) := by decide +kernel
theorem dL_meter_4 : decode cL_meter 4 = .ok (.iload_n 2, 1) := by decide +kernel
theorem dL_meter_5 : decode cL_meter 5 = .ok (.invokevirtual 19, 3) := by decide +kernel
theorem dL_meter_8 : decode cL_meter 8 = .ok (.i2l, 1) := by decide +kernel
theorem dL_meter_9 : decode cL_meter 9 = .ok (.lastore, 1) := by decide +kernel
theorem dL_meter_10 : decode cL_meter 10 = .ok (.goto 15, 3) := by decide +kernel
theorem dL_meter_13 : decode cL_meter 13 = .ok (.astore 4, 2) := by decide +kernel
theorem dL_meter_15 : decode cL_meter 15 = .ok (.iconst 1, 1) := by decide +kernel
theorem dL_meter_16 : decode cL_meter 16 = .ok (.ireturn, 1) := by decide +kernel
theorem dL_meter_17 : decode cL_meter 17 = .ok (.astore 4, 2) := by decide +kernel
theorem dL_meter_19 : decode cL_meter 19 = .ok (.iconst 2, 1) := by decide +kernel
theorem dL_meter_20 : decode cL_meter 20 = .ok (.ireturn, 1) := by decide +kernel
theorem dL_meter_21 : decode cL_meter 21 = .ok (.astore 4, 2) := by decide +kernel
theorem dL_meter_23 : decode cL_meter 23 = .ok (.iconst 3, 1) := by decide +kernel
theorem dL_meter_24 : decode cL_meter 24 = .ok (.ireturn, 1) := by decide +kernel
theorem dL_meter_25 : decode cL_meter 25 = .ok (.iconst 0, 1) := by decide +kernel
theorem dL_meter_26 : decode cL_meter 26 = .ok (.ireturn, 1) := by decide +kernel
set_option maxRecDepth 20000 in
theorem ggL_setPrice_X1_setPrice : GoodIn wsL_setPrice wsX1_setPrice := goodIn_ca (goodIn_ca (goodIn_r _ [7, 8, 9, 10, 6, 11, 12, 13, 14, 15, 16, 17, 18, 19, 20, 21, 22, 23, 24, 25, 26, 27, 28, 29, 30, 31, 32, 33, 34, 35] (by decide +kernel) (by decide +kernel)) (goodIn_sub (fun _ h => List.mem_cons_of_mem _ (List.mem_append_left _ (List.mem_append_right _ h))) (by decide +kernel))) (goodIn_sub (fun _ h => List.mem_cons_of_mem _ (List.mem_append_right _ h)) (by decide +kernel))
set_option maxRecDepth 20000 in
theorem gL_setPrice_X1_setPrice : GoodIn wsL_setPrice (wsV RL 22 RX1 yX1_setPrice wsX1_setPrice) := goodIn_app (goodIn_of _ (by decide +kernel)) ggL_setPrice_X1_setPrice
theorem dL_setPrice_0 : decode cL_setPrice 0 = .ok (.aload_n 3, 1) := by decide +kernel
theorem dL_setPrice_1 : decode cL_setPrice 1 = .ok (.iconst 0, 1) := by decide +kernel
theorem dL_setPrice_2 : decode cL_setPrice 2 = .ok (.aload_n 0, 1) := by decide +kernel
theorem dL_setPrice_3 : decode cL_setPrice 3 = .ok (.iload_n 1, 1) := by decide +kernel
theorem dL_setPrice_4 : decode cL_setPrice 4 = .ok (.iload_n 2, 1) := by decide +kernel
theorem dL_setPrice_5 : decode cL_setPrice 5 = .ok (.invokevirtual 22, 3) := by decide +kernel
theorem dL_setPrice_8 : decode cL_setPrice 8 = .ok (.i2l, 1) := by decide +kernel
theorem dL_setPrice_9 : decode cL_setPrice 9 = .ok (.lastore, 1) := by decide +kernel
theorem dL_setPrice_10 : decode cL_setPrice 10 = .ok (.goto 11, 3) := by decide +kernel
theorem dL_setPrice_13 : decode cL_setPrice 13 = .ok (.astore 4, 2) := by decide +kernel
theorem dL_setPrice_15 : decode cL_setPrice 15 = .ok (.iconst 1, 1) := by decide +kernel
theorem dL_setPrice_16 : decode cL_setPrice 16 = .ok (.ireturn, 1) := by decide +kernel
theorem dL_setPrice_17 : decode cL_setPrice 17 = .ok (.astore 4, 2) := by decide +kernel
theorem dL_setPrice_19 : decode cL_setPrice 19 = .ok (.iconst 2, 1) := by decide +kernel
theorem dL_setPrice_20 : decode cL_setPrice 20 = .ok (.ireturn, 1) := by decide +kernel
theorem dL_setPrice_21 : decode cL_setPrice 21 = .ok (.iconst 0, 1) := by decide +kernel
theorem dL_setPrice_22 : decode cL_setPrice 22 = .ok (.ireturn, 1) := by decide +kernel
set_option maxRecDepth 20000 in
theorem ggL_setLimit_X1_setLimit : GoodIn wsL_setLimit wsX1_setLimit := goodIn_ca (goodIn_ca (goodIn_r _ [7, 8, 9, 10, 6, 11, 12, 13, 14, 15, 16, 17, 18, 19, 20, 21, 22, 23, 24, 25, 26, 27, 28, 29, 30, 31, 32, 33, 34, 35] (by decide +kernel) (by decide +kernel)) (goodIn_sub (fun _ h => List.mem_cons_of_mem _ (List.mem_append_left _ (List.mem_append_right _ h))) (by decide +kernel))) (goodIn_sub (fun _ h => List.mem_cons_of_mem _ (List.mem_append_right _ h)) (by decide +kernel))
set_option maxRecDepth 20000 in
theorem gL_setLimit_X1_setLimit : GoodIn wsL_setLimit (wsV RL 25 RX1 yX1_setLimit wsX1_setLimit) := goodIn_app (goodIn_of _ (by decide +kernel)) ggL_setLimit_X1_setLimit
theorem dL_setLimit_0 : decode cL_setLimit 0 = .ok (.aload_n 3, 1) := by decide +kernel
theorem dL_setLimit_1 : decode cL_setLimit 1 = .ok (.iconst 0, 1) := by decide +kernel
theorem dL_setLimit_2 : decode cL_setLimit 2 = .ok (.aload_n 0, 1) := by decide +kernel
theorem dL_setLimit_3 : decode cL_setLimit 3 = .ok (.iload_n 1, 1) := by decide +kernel
theorem dL_setLimit_4 : decode cL_setLimit 4 = .ok (.iload_n 2, 1) := by decide +kernel
theorem dL_setLimit_5 : decode cL_setLimit 5 = .ok (.invokevirtual 25, 3) := by decide +kernel
theorem dL_setLimit_8 : decode cL_setLimit 8 = .ok (.i2l, 1) := by decide +kernel
theorem dL_setLimit_9 : decode cL_setLimit 9 = .ok (.lastore, 1) := by decide +kernel
theorem dL_setLimit_10 : decode cL_setLimit 10 = .ok (.goto 11, 3) := by decide +kernel
theorem dL_setLimit_13 : decode cL_setLimit 13 = .ok (.astore 4, 2) := by decide +kernel
theorem dL_setLimit_15 : decode cL_setLimit 15 = .ok (.iconst 1, 1) := by decide +kernel
theorem dL_setLimit_16 : decode cL_setLimit 16 = .ok (.ireturn, 1) := by decide +kernel
theorem dL_setLimit_17 : decode cL_setLimit 17 = .ok (.astore 4, 2) := by decide +kernel
theorem dL_setLimit_19 : decode cL_setLimit 19 = .ok (.iconst 2, 1) := by decide +kernel
theorem dL_setLimit_20 : decode cL_setLimit 20 = .ok (.ireturn, 1) := by decide +kernel
theorem dL_setLimit_21 : decode cL_setLimit 21 = .ok (.iconst 0, 1) := by decide +kernel
theorem dL_setLimit_22 : decode cL_setLimit 22 = .ok (.ireturn, 1) := by decide +kernel
set_option maxRecDepth 20000 in
theorem ggL_setSupplier_X1_setSupplier : GoodIn wsL_setSupplier wsX1_setSupplier := goodIn_ca (goodIn_r _ [6, 7, 8, 9, 10, 5, 11, 12, 13, 14, 15, 16, 17, 18, 19, 20, 21, 22, 23, 24, 25, 26, 27, 28, 29, 30] (by decide +kernel) (by decide +kernel)) (goodIn_sub (fun _ h => List.mem_cons_of_mem _ (List.mem_append_right _ h)) (by decide +kernel))
set_option maxRecDepth 20000 in
theorem gL_setSupplier_X1_setSupplier : GoodIn wsL_setSupplier (wsV RL 28 RX1 yX1_setSupplier wsX1_setSupplier) := goodIn_app (goodIn_of _ (by decide +kernel)) ggL_setSupplier_X1_setSupplier
theorem dL_setSupplier_0 : decode cL_setSupplier 0 = .ok (.aload_n 0, 1) := by decide +kernel
theorem dL_setSupplier_1 : decode cL_setSupplier 1 = .ok (.iload_n 1, 1) := by decide +kernel
theorem dL_setSupplier_2 : decode cL_setSupplier 2 = .ok (.iload_n 2, 1) := by decide +kernel
theorem dL_setSupplier_3 : decode cL_setSupplier 3 = .ok (.invokevirtual 28, 3) := by decide +kernel
theorem dL_setSupplier_6 : decode cL_setSupplier 6 = .ok (.goto 6, 3) := by decide +kernel
theorem dL_setSupplier_9 : decode cL_setSupplier 9 = .ok (.astore_n 3, 1) := by decide +kernel
theorem dL_setSupplier_10 : decode cL_setSupplier 10 = .ok (.iconst 1, 1) := by decide +kernel
theorem dL_setSupplier_11 : decode cL_setSupplier 11 = .ok (.ireturn, 1) := by decide +kernel
theorem dL_setSupplier_12 : decode cL_setSupplier 12 = .ok (.iconst 0, 1) := by decide +kernel
theorem dL_setSupplier_13 : decode cL_setSupplier 13 = .ok (.ireturn, 1) := by decide +kernel
set_option maxRecDepth 20000 in
theorem ggL_rent_X1_rent : GoodIn wsL_rent wsX1_rent := goodIn_ca (goodIn_ca (goodIn_ca (goodIn_r _ [8, 9, 10, 11, 12, 13, 14, 15, 16, 7, 17, 18, 19, 20, 21, 22, 23, 24, 25, 26, 27, 28, 29, 30, 31, 32, 33, 34, 35, 36, 37, 38, 39, 40, 41, 42, 43, 44] (by decide +kernel) (by decide +kernel)) (goodIn_sub (fun _ h => List.mem_cons_of_mem _ (List.mem_append_left _ (List.mem_append_left _ (List.mem_append_right _ h)))) (by decide +kernel))) (goodIn_sub (fun _ h => List.mem_cons_of_mem _ (List.mem_append_left _ (List.mem_append_right _ h))) (by decide +kernel))) (goodIn_sub (fun _ h => List.mem_cons_of_mem _ (List.mem_append_right _ h)) (by decide +kernel))
set_option maxRecDepth 20000 in
theorem gL_rent_X1_rent : GoodIn wsL_rent (wsV RL 32 RX1 yX1_rent wsX1_rent) := goodIn_app (goodIn_of _ (by decide +kernel)) ggL_rent_X1_rent
theorem dL_rent_0 : decode cL_rent 0 = .ok (.aload 4, 2) := by decide +kernel
theorem dL_rent_2 : decode cL_rent 2 = .ok (.iconst 0, 1) := by decide +kernel
theorem dL_rent_3 : decode cL_rent 3 = .ok (.aload_n 0, 1) := by decide +kernel
theorem dL_rent_4 : decode cL_rent 4 = .ok (.iload_n 1, 1) := by decide +kernel
theorem dL_rent_5 : decode cL_rent 5 = .ok (.iload_n 2, 1) := by decide +kernel
theorem dL_rent_6 : decode cL_rent 6 = .ok (.iload_n 3, 1) := by decide +kernel
theorem dL_rent_7 : decode cL_rent 7 = .ok (.invokevirtual 32, 3) := by decide +kernel
theorem dL_rent_10 : decode cL_rent 10 = .ok (.i2l, 1) := by decide +kernel
theorem dL_rent_11 : decode cL_rent 11 = .ok (.lastore, 1) := by decide +kernel
theorem dL_rent_12 : decode cL_rent 12 = .ok (.goto 15, 3) := by decide +kernel
theorem dL_rent_15 : decode cL_rent 15 = .ok (.astore 5, 2) := by decide +kernel
theorem dL_rent_17 : decode cL_rent 17 = .ok (.iconst 1, 1) := by decide +kernel
theorem dL_rent_18 : decode cL_rent 18 = .ok (.ireturn, 1) := by decide +kernel
theorem dL_rent_19 : decode cL_rent 19 = .ok (.astore 5, 2) := by decide +kernel
theorem dL_rent_21 : decode cL_rent 21 = .ok (.iconst 2, 1) := by decide +kernel
theorem dL_rent_22 : decode cL_rent 22 = .ok (.ireturn, 1) := by decide +kernel
theorem dL_rent_23 : decode cL_rent 23 = .ok (.astore 5, 2) := by decide +kernel
theorem dL_rent_25 : decode cL_rent 25 = .ok (.iconst 3, 1) := by decide +kernel
theorem dL_rent_26 : decode cL_rent 26 = .ok (.ireturn, 1) := by decide +kernel
theorem dL_rent_27 : decode cL_rent 27 = .ok (.iconst 0, 1) := by decide +kernel
theorem dL_rent_28 : decode cL_rent 28 = .ok (.ireturn, 1) := by decide +kernel
set_option maxRecDepth 20000 in
theorem ggL_leave_X1_leave : GoodIn wsL_leave wsX1_leave := goodIn_ca (goodIn_ca (goodIn_r _ [7, 8, 9, 10, 11, 12, 13, 14, 15, 6, 16, 17, 18, 19, 20, 21, 22, 23, 24, 25, 26, 27, 28, 29, 30, 31, 32, 33, 34, 35, 36, 37, 38, 39, 40, 41, 42, 43, 44, 45, 46, 47] (by decide +kernel) (by decide +kernel)) (goodIn_sub (fun _ h => List.mem_cons_of_mem _ (List.mem_append_left _ (List.mem_append_right _ h))) (by decide +kernel))) (goodIn_sub (fun _ h => List.mem_cons_of_mem _ (List.mem_append_right _ h)) (by decide +kernel))
set_option maxRecDepth 20000 in
theorem gL_leave_X1_leave : GoodIn wsL_leave (wsV RL 36 RX1 yX1_leave wsX1_leave) := goodIn_app (goodIn_of _ (by decide +kernel)) ggL_leave_X1_leave
theorem dL_leave_0 : decode cL_leave 0 = .ok (.aload_n 2, 1) := by decide +kernel
theorem dL_leave_1 : decode cL_leave 1 = .ok (.iconst 0, 1) := by decide +kernel
theorem dL_leave_2 : decode cL_leave 2 = .ok (.aload_n 0, 1) := by decide +kernel
theorem dL_leave_3 : decode cL_leave 3 = .ok (.iload_n 1, 1) := by decide +kernel
theorem dL_leave_4 : decode cL_leave 4 = .ok (.invokevirtual 36, 3) := by decide +kernel
theorem dL_leave_7 : decode cL_leave 7 = .ok (.i2l, 1) := by decide +kernel
theorem dL_leave_8 : decode cL_leave 8 = .ok (.lastore, 1) := by decide +kernel
theorem dL_leave_9 : decode cL_leave 9 = .ok (.goto 9, 3) := by decide +kernel
theorem dL_leave_12 : decode cL_leave 12 = .ok (.astore_n 3, 1) := by decide +kernel
theorem dL_leave_13 : decode cL_leave 13 = .ok (.iconst 1, 1) := by decide +kernel
theorem dL_leave_14 : decode cL_leave 14 = .ok (.ireturn, 1) := by decide +kernel
theorem dL_leave_15 : decode cL_leave 15 = .ok (.astore_n 3, 1) := by decide +kernel
theorem dL_leave_16 : decode cL_leave 16 = .ok (.iconst 2, 1) := by decide +kernel
theorem dL_leave_17 : decode cL_leave 17 = .ok (.ireturn, 1) := by decide +kernel
theorem dL_leave_18 : decode cL_leave 18 = .ok (.iconst 0, 1) := by decide +kernel
theorem dL_leave_19 : decode cL_leave 19 = .ok (.ireturn, 1) := by decide +kernel
set_option maxRecDepth 20000 in
theorem ggL_clear_X1_clear : GoodIn wsL_clear wsX1_clear := goodIn_ca (goodIn_r _ [6, 7, 8, 9, 10, 11, 12, 13, 14, 15, 16, 17, 18, 19, 5, 20, 21, 22, 23, 24, 25, 26, 27, 28, 29, 30, 31, 32, 33, 34, 35, 36, 37, 38, 39, 40, 41, 42, 43, 44, 45, 46, 47, 48, 49, 50, 51, 52, 53, 54, 55, 56, 57, 58, 59, 60, 61, 62, 63, 64, 65, 66, 67, 68, 69, 70, 71, 72, 73, 74, 75, 76, 77, 78, 79, 80, 81, 82, 83, 84, 85, 86, 87, 88, 89, 90, 91, 92, 93, 94, 95, 96, 97, 98, 99, 100, 101, 102, 103, 104, 105, 106, 107, 108, 109, 110, 111, 112, 113, 114, 115, 116, 117, 118, 119, 120, 121, 122, 123, 124, 125, 126, 127, 128, 129, 130, 131, 132, 133, 134, 135, 136, 137, 138, 139, 140, 141, 142] (by decide +kernel) (by decide +kernel)) (goodIn_sub (fun _ h => List.mem_cons_of_mem _ (List.mem_append_right _ h)) (by decide +kernel))
set_option maxRecDepth 20000 in
theorem gL_clear_X1_clear : GoodIn wsL_clear (wsV RL 40 RX1 yX1_clear wsX1_clear) := goodIn_app (goodIn_of _ (by decide +kernel)) ggL_clear_X1_clear
theorem dL_clear_0 : decode cL_clear 0 = .ok (.aload_n 1, 1) := by decide +kernel
theorem dL_clear_1 : decode cL_clear 1 = .ok (.iconst 0, 1) := by decide +kernel
theorem dL_clear_2 : decode cL_clear 2 = .ok (.aload_n 0, 1) := by decide +kernel
theorem dL_clear_3 : decode cL_clear 3 = .ok (.invokevirtual 40, 3) := by decide +kernel
theorem dL_clear_6 : decode cL_clear 6 = .ok (.i2l, 1) := by decide +kernel
theorem dL_clear_7 : decode cL_clear 7 = .ok (.lastore, 1) := by decide +kernel
theorem dL_clear_8 : decode cL_clear 8 = .ok (.goto 6, 3) := by decide +kernel
theorem dL_clear_11 : decode cL_clear 11 = .ok (.astore_n 2, 1) := by decide +kernel
theorem dL_clear_12 : decode cL_clear 12 = .ok (.iconst 1, 1) := by decide +kernel
theorem dL_clear_13 : decode cL_clear 13 = .ok (.ireturn, 1) := by decide +kernel
theorem dL_clear_14 : decode cL_clear 14 = .ok (.iconst 0, 1) := by decide +kernel
theorem dL_clear_15 : decode cL_clear 15 = .ok (.ireturn, 1) := by decide +kernel
set_option maxRecDepth 20000 in
theorem ggL_ofTrade_X1_ofTrade : GoodIn wsL_ofTrade wsX1_ofTrade := goodIn_ca (goodIn_r _ [6, 7, 8, 9, 10, 11, 12, 13, 14, 15, 16, 17, 18, 19, 20, 21, 22, 23, 24, 25, 26, 27, 28, 29, 30, 31, 32] (by decide +kernel) (by decide +kernel)) (goodIn_sub (fun _ h => List.mem_cons_of_mem _ (List.mem_append_right _ h)) (by decide +kernel))
set_option maxRecDepth 20000 in
theorem gL_ofTrade_X1_ofTrade : GoodIn wsL_ofTrade (wsV RL 44 RX1 yX1_ofTrade wsX1_ofTrade) := goodIn_app (goodIn_of _ (by decide +kernel)) ggL_ofTrade_X1_ofTrade
theorem dL_ofTrade_0 : decode cL_ofTrade 0 = .ok (.aload_n 3, 1) := by decide +kernel
theorem dL_ofTrade_1 : decode cL_ofTrade 1 = .ok (.iconst 0, 1) := by decide +kernel
theorem dL_ofTrade_2 : decode cL_ofTrade 2 = .ok (.aload_n 0, 1) := by decide +kernel
theorem dL_ofTrade_3 : decode cL_ofTrade 3 = .ok (.iload_n 1, 1) := by decide +kernel
theorem dL_ofTrade_4 : decode cL_ofTrade 4 = .ok (.iload_n 2, 1) := by decide +kernel
theorem dL_ofTrade_5 : decode cL_ofTrade 5 = .ok (.invokevirtual 44, 3) := by decide +kernel
theorem dL_ofTrade_8 : decode cL_ofTrade 8 = .ok (.i2l, 1) := by decide +kernel
theorem dL_ofTrade_9 : decode cL_ofTrade 9 = .ok (.lastore, 1) := by decide +kernel
theorem dL_ofTrade_10 : decode cL_ofTrade 10 = .ok (.goto 7, 3) := by decide +kernel
theorem dL_ofTrade_13 : decode cL_ofTrade 13 = .ok (.astore 4, 2) := by decide +kernel
theorem dL_ofTrade_15 : decode cL_ofTrade 15 = .ok (.iconst 1, 1) := by decide +kernel
theorem dL_ofTrade_16 : decode cL_ofTrade 16 = .ok (.ireturn, 1) := by decide +kernel
theorem dL_ofTrade_17 : decode cL_ofTrade 17 = .ok (.iconst 0, 1) := by decide +kernel
theorem dL_ofTrade_18 : decode cL_ofTrade 18 = .ok (.ireturn, 1) := by decide +kernel
set_option maxRecDepth 20000 in
theorem ggL_went_X1_went : GoodIn wsL_went wsX1_went := goodIn_ca (goodIn_r _ [6, 7, 8, 9, 10, 11, 12, 13, 14, 15, 16, 17, 18, 19, 20, 21, 22, 23, 24, 25, 26] (by decide +kernel) (by decide +kernel)) (goodIn_sub (fun _ h => List.mem_cons_of_mem _ (List.mem_append_right _ h)) (by decide +kernel))
set_option maxRecDepth 20000 in
theorem gL_went_X1_went : GoodIn wsL_went (wsV RL 47 RX1 yX1_went wsX1_went) := goodIn_app (goodIn_of _ (by decide +kernel)) ggL_went_X1_went
theorem dL_went_0 : decode cL_went 0 = .ok (.aload_n 2, 1) := by decide +kernel
theorem dL_went_1 : decode cL_went 1 = .ok (.iconst 0, 1) := by decide +kernel
theorem dL_went_2 : decode cL_went 2 = .ok (.aload_n 0, 1) := by decide +kernel
theorem dL_went_3 : decode cL_went 3 = .ok (.iload_n 1, 1) := by decide +kernel
theorem dL_went_4 : decode cL_went 4 = .ok (.invokevirtual 47, 3) := by decide +kernel
theorem dL_went_7 : decode cL_went 7 = .ok (.i2l, 1) := by decide +kernel
theorem dL_went_8 : decode cL_went 8 = .ok (.lastore, 1) := by decide +kernel
theorem dL_went_9 : decode cL_went 9 = .ok (.goto 6, 3) := by decide +kernel
theorem dL_went_12 : decode cL_went 12 = .ok (.astore_n 3, 1) := by decide +kernel
theorem dL_went_13 : decode cL_went 13 = .ok (.iconst 1, 1) := by decide +kernel
theorem dL_went_14 : decode cL_went 14 = .ok (.ireturn, 1) := by decide +kernel
theorem dL_went_15 : decode cL_went 15 = .ok (.iconst 0, 1) := by decide +kernel
theorem dL_went_16 : decode cL_went 16 = .ok (.ireturn, 1) := by decide +kernel
set_option maxRecDepth 20000 in
theorem ggL_flow_X1_flow : GoodIn wsL_flow wsX1_flow := goodIn_ca (goodIn_r _ [6, 7, 8, 9, 5, 10, 11, 12, 13, 14, 15, 16, 17, 18, 19, 20, 21, 22, 23, 24, 25, 26, 27, 28, 29] (by decide +kernel) (by decide +kernel)) (goodIn_sub (fun _ h => List.mem_cons_of_mem _ (List.mem_append_right _ h)) (by decide +kernel))
set_option maxRecDepth 20000 in
theorem gL_flow_X1_flow : GoodIn wsL_flow (wsV RL 50 RX1 yX1_flow wsX1_flow) := goodIn_app (goodIn_of _ (by decide +kernel)) ggL_flow_X1_flow
theorem dL_flow_0 : decode cL_flow 0 = .ok (.aload_n 2, 1) := by decide +kernel
theorem dL_flow_1 : decode cL_flow 1 = .ok (.iconst 0, 1) := by decide +kernel
theorem dL_flow_2 : decode cL_flow 2 = .ok (.aload_n 0, 1) := by decide +kernel
theorem dL_flow_3 : decode cL_flow 3 = .ok (.iload_n 1, 1) := by decide +kernel
theorem dL_flow_4 : decode cL_flow 4 = .ok (.invokevirtual 50, 3) := by decide +kernel
theorem dL_flow_7 : decode cL_flow 7 = .ok (.i2l, 1) := by decide +kernel
theorem dL_flow_8 : decode cL_flow 8 = .ok (.lastore, 1) := by decide +kernel
theorem dL_flow_9 : decode cL_flow 9 = .ok (.goto 6, 3) := by decide +kernel
theorem dL_flow_12 : decode cL_flow 12 = .ok (.astore_n 3, 1) := by decide +kernel
theorem dL_flow_13 : decode cL_flow 13 = .ok (.iconst 1, 1) := by decide +kernel
theorem dL_flow_14 : decode cL_flow 14 = .ok (.ireturn, 1) := by decide +kernel
theorem dL_flow_15 : decode cL_flow 15 = .ok (.iconst 0, 1) := by decide +kernel
theorem dL_flow_16 : decode cL_flow 16 = .ok (.ireturn, 1) := by decide +kernel
set_option maxRecDepth 20000 in
theorem ggL_isMember_X1_isMember : GoodIn wsL_isMember wsX1_isMember := goodIn_ca (goodIn_r _ [6, 7, 8, 9, 5, 10, 11, 12, 13, 14, 15, 16, 17, 18, 19, 20, 21, 22, 23, 24, 25, 26, 27, 28, 29] (by decide +kernel) (by decide +kernel)) (goodIn_sub (fun _ h => List.mem_cons_of_mem _ (List.mem_append_right _ h)) (by decide +kernel))
set_option maxRecDepth 20000 in
theorem gL_isMember_X1_isMember : GoodIn wsL_isMember (wsV RL 53 RX1 yX1_isMember wsX1_isMember) := goodIn_app (goodIn_of _ (by decide +kernel)) ggL_isMember_X1_isMember
theorem dL_isMember_0 : decode cL_isMember 0 = .ok (.aload_n 2, 1) := by decide +kernel
theorem dL_isMember_1 : decode cL_isMember 1 = .ok (.iconst 0, 1) := by decide +kernel
theorem dL_isMember_2 : decode cL_isMember 2 = .ok (.aload_n 0, 1) := by decide +kernel
theorem dL_isMember_3 : decode cL_isMember 3 = .ok (.iload_n 1, 1) := by decide +kernel
theorem dL_isMember_4 : decode cL_isMember 4 = .ok (.invokevirtual 53, 3) := by decide +kernel
theorem dL_isMember_7 : decode cL_isMember 7 = .ok (.ifCond .eq 7, 3) := by decide +kernel
theorem dL_isMember_10 : decode cL_isMember 10 = .ok (.lconst 1, 1) := by decide +kernel
theorem dL_isMember_11 : decode cL_isMember 11 = .ok (.goto 4, 3) := by decide +kernel
theorem dL_isMember_14 : decode cL_isMember 14 = .ok (.lconst 0, 1) := by decide +kernel
theorem dL_isMember_15 : decode cL_isMember 15 = .ok (.lastore, 1) := by decide +kernel
theorem dL_isMember_16 : decode cL_isMember 16 = .ok (.goto 6, 3) := by decide +kernel
theorem dL_isMember_19 : decode cL_isMember 19 = .ok (.astore_n 3, 1) := by decide +kernel
theorem dL_isMember_20 : decode cL_isMember 20 = .ok (.iconst 1, 1) := by decide +kernel
theorem dL_isMember_21 : decode cL_isMember 21 = .ok (.ireturn, 1) := by decide +kernel
theorem dL_isMember_22 : decode cL_isMember 22 = .ok (.iconst 0, 1) := by decide +kernel
theorem dL_isMember_23 : decode cL_isMember 23 = .ok (.ireturn, 1) := by decide +kernel
set_option maxRecDepth 20000 in
theorem ggL_stored_X1_stored : GoodIn wsL_stored wsX1_stored := goodIn_ca (goodIn_r _ [6, 7, 8, 9, 5, 10, 11, 12, 13, 14, 15, 16, 17, 18, 19, 20, 21, 22, 23, 24, 25, 26, 27, 28, 29] (by decide +kernel) (by decide +kernel)) (goodIn_sub (fun _ h => List.mem_cons_of_mem _ (List.mem_append_right _ h)) (by decide +kernel))
set_option maxRecDepth 20000 in
theorem gL_stored_X1_stored : GoodIn wsL_stored (wsV RL 57 RX1 yX1_stored wsX1_stored) := goodIn_app (goodIn_of _ (by decide +kernel)) ggL_stored_X1_stored
theorem dL_stored_0 : decode cL_stored 0 = .ok (.aload_n 2, 1) := by decide +kernel
theorem dL_stored_1 : decode cL_stored 1 = .ok (.iconst 0, 1) := by decide +kernel
theorem dL_stored_2 : decode cL_stored 2 = .ok (.aload_n 0, 1) := by decide +kernel
theorem dL_stored_3 : decode cL_stored 3 = .ok (.iload_n 1, 1) := by decide +kernel
theorem dL_stored_4 : decode cL_stored 4 = .ok (.invokevirtual 57, 3) := by decide +kernel
theorem dL_stored_7 : decode cL_stored 7 = .ok (.i2l, 1) := by decide +kernel
theorem dL_stored_8 : decode cL_stored 8 = .ok (.lastore, 1) := by decide +kernel
theorem dL_stored_9 : decode cL_stored 9 = .ok (.goto 6, 3) := by decide +kernel
theorem dL_stored_12 : decode cL_stored 12 = .ok (.astore_n 3, 1) := by decide +kernel
theorem dL_stored_13 : decode cL_stored 13 = .ok (.iconst 1, 1) := by decide +kernel
theorem dL_stored_14 : decode cL_stored 14 = .ok (.ireturn, 1) := by decide +kernel
theorem dL_stored_15 : decode cL_stored 15 = .ok (.iconst 0, 1) := by decide +kernel
theorem dL_stored_16 : decode cL_stored 16 = .ok (.ireturn, 1) := by decide +kernel
set_option maxRecDepth 20000 in
theorem ggL_part_X1_part : GoodIn wsL_part wsX1_part := goodIn_ca (goodIn_r _ [6, 7, 8, 9, 5, 10, 11, 12, 13, 14, 15, 16, 17, 18, 19, 20, 21, 22, 23, 24, 25, 26, 27, 28, 29] (by decide +kernel) (by decide +kernel)) (goodIn_sub (fun _ h => List.mem_cons_of_mem _ (List.mem_append_right _ h)) (by decide +kernel))
set_option maxRecDepth 20000 in
theorem gL_part_X1_part : GoodIn wsL_part (wsV RL 60 RX1 yX1_part wsX1_part) := goodIn_app (goodIn_of _ (by decide +kernel)) ggL_part_X1_part
theorem dL_part_0 : decode cL_part 0 = .ok (.aload_n 2, 1) := by decide +kernel
theorem dL_part_1 : decode cL_part 1 = .ok (.iconst 0, 1) := by decide +kernel
theorem dL_part_2 : decode cL_part 2 = .ok (.aload_n 0, 1) := by decide +kernel
theorem dL_part_3 : decode cL_part 3 = .ok (.iload_n 1, 1) := by decide +kernel
theorem dL_part_4 : decode cL_part 4 = .ok (.invokevirtual 60, 3) := by decide +kernel
theorem dL_part_7 : decode cL_part 7 = .ok (.i2l, 1) := by decide +kernel
theorem dL_part_8 : decode cL_part 8 = .ok (.lastore, 1) := by decide +kernel
theorem dL_part_9 : decode cL_part 9 = .ok (.goto 6, 3) := by decide +kernel
theorem dL_part_12 : decode cL_part 12 = .ok (.astore_n 3, 1) := by decide +kernel
theorem dL_part_13 : decode cL_part 13 = .ok (.iconst 1, 1) := by decide +kernel
theorem dL_part_14 : decode cL_part 14 = .ok (.ireturn, 1) := by decide +kernel
theorem dL_part_15 : decode cL_part 15 = .ok (.iconst 0, 1) := by decide +kernel
theorem dL_part_16 : decode cL_part 16 = .ok (.ireturn, 1) := by decide +kernel
set_option maxRecDepth 20000 in
theorem ggL_bill_X1_bill : GoodIn wsL_bill wsX1_bill := goodIn_ca (goodIn_r _ [6, 7, 8, 9, 5, 10, 11, 12, 13, 14, 15, 16, 17, 18, 19, 20, 21, 22, 23, 24, 25, 26, 27, 28, 29] (by decide +kernel) (by decide +kernel)) (goodIn_sub (fun _ h => List.mem_cons_of_mem _ (List.mem_append_right _ h)) (by decide +kernel))
set_option maxRecDepth 20000 in
theorem gL_bill_X1_bill : GoodIn wsL_bill (wsV RL 63 RX1 yX1_bill wsX1_bill) := goodIn_app (goodIn_of _ (by decide +kernel)) ggL_bill_X1_bill
theorem dL_bill_0 : decode cL_bill 0 = .ok (.aload_n 2, 1) := by decide +kernel
theorem dL_bill_1 : decode cL_bill 1 = .ok (.iconst 0, 1) := by decide +kernel
theorem dL_bill_2 : decode cL_bill 2 = .ok (.aload_n 0, 1) := by decide +kernel
theorem dL_bill_3 : decode cL_bill 3 = .ok (.iload_n 1, 1) := by decide +kernel
theorem dL_bill_4 : decode cL_bill 4 = .ok (.invokevirtual 63, 3) := by decide +kernel
theorem dL_bill_7 : decode cL_bill 7 = .ok (.i2l, 1) := by decide +kernel
theorem dL_bill_8 : decode cL_bill 8 = .ok (.lastore, 1) := by decide +kernel
theorem dL_bill_9 : decode cL_bill 9 = .ok (.goto 6, 3) := by decide +kernel
theorem dL_bill_12 : decode cL_bill 12 = .ok (.astore_n 3, 1) := by decide +kernel
theorem dL_bill_13 : decode cL_bill 13 = .ok (.iconst 1, 1) := by decide +kernel
theorem dL_bill_14 : decode cL_bill 14 = .ok (.ireturn, 1) := by decide +kernel
theorem dL_bill_15 : decode cL_bill 15 = .ok (.iconst 0, 1) := by decide +kernel
theorem dL_bill_16 : decode cL_bill 16 = .ok (.ireturn, 1) := by decide +kernel
set_option maxRecDepth 20000 in
theorem ggL_law_X1_init : GoodIn wsL_law wsX1_init := goodIn_r _ [9, 10, 11, 12, 13, 14, 15, 16, 17, 18, 19, 20, 21, 22, 23, 24, 25, 26, 27, 28, 29, 30, 31, 32, 33, 34, 35, 36, 37, 38, 39, 40, 41, 42, 43, 465, 466, 467, 468, 469, 470, 471, 472, 473, 474, 475, 476, 477, 478, 479, 480, 481, 504, 505, 506, 507, 508, 509] (by decide +kernel) (by decide +kernel)
set_option maxRecDepth 20000 in
theorem gL_law_X1_init : GoodIn wsL_law (wsX1_init) := ggL_law_X1_init
set_option maxRecDepth 20000 in
theorem ggL_law_X2_init : GoodIn wsL_law wsX2_init := goodIn_r _ [46, 47, 11, 12, 15, 48, 49, 50, 51, 52, 53, 54, 13, 55, 56, 57, 58, 59, 60, 61, 62, 63, 64, 482, 483, 484, 485, 486, 487, 488, 489, 490, 491, 492, 493, 494, 495, 496, 497, 498, 499, 500, 501, 502, 503] (by decide +kernel) (by decide +kernel)
set_option maxRecDepth 20000 in
theorem gL_law_X2_init : GoodIn wsL_law (wsX2_init) := ggL_law_X2_init
set_option maxRecDepth 20000 in
theorem ggL_law_L_forecast : GoodIn wsL_law wsL_forecast := goodIn_ca (goodIn_ca (goodIn_ca (goodIn_r _ [68, 69, 70, 71, 72, 73, 74, 2, 75, 16, 76, 77, 78, 79, 80, 81, 82, 83, 84, 85, 86, 87, 88, 89, 90, 91, 14, 465, 466, 467, 468, 469, 470, 471, 472, 473, 474, 475, 476, 477, 478, 479, 480, 481] (by decide +kernel) (by decide +kernel)) (goodIn_sub (fun _ h => List.mem_append_left _ (List.mem_append_left _ (List.mem_append_right _ h))) (by decide +kernel))) (goodIn_sub (fun _ h => List.mem_append_left _ (List.mem_append_right _ h)) (by decide +kernel))) (goodIn_sub (fun _ h => List.mem_append_right _ h) (by decide +kernel))
set_option maxRecDepth 20000 in
theorem gL_law_L_forecast : GoodIn wsL_law (va_wsS RL 70 yL_forecast wsL_forecast) := goodIn_app (goodIn_of _ (by decide +kernel)) ggL_law_L_forecast
set_option maxRecDepth 20000 in
theorem ggL_law_X2_forecast : GoodIn wsL_law wsX2_forecast := goodIn_r _ [95, 48, 96, 97, 5, 98, 99, 100, 101, 102, 103, 104, 105, 55, 106, 107, 108, 109, 110, 482, 483, 484, 485, 486, 487, 488, 489, 490, 491, 492, 493, 494, 495, 496, 497, 498, 499, 500, 501, 502, 503] (by decide +kernel) (by decide +kernel)
set_option maxRecDepth 20000 in
theorem gL_law_X2_forecast : GoodIn wsL_law (wsV RL 75 RX2 yX2_forecast wsX2_forecast) := goodIn_app (goodIn_of _ (by decide +kernel)) ggL_law_X2_forecast
set_option maxRecDepth 20000 in
theorem ggL_law_X2_thrown : GoodIn wsL_law wsX2_thrown := goodIn_r _ [114, 110, 482, 483, 484, 485, 486, 487, 488, 489, 490, 491, 492, 493, 494, 495, 496, 497, 498, 499, 500, 501, 502, 503] (by decide +kernel) (by decide +kernel)
set_option maxRecDepth 20000 in
theorem gL_law_X2_thrown : GoodIn wsL_law (wsV RL 76 RX2 yX2_thrown wsX2_thrown) := goodIn_app (goodIn_of _ (by decide +kernel)) ggL_law_X2_thrown
set_option maxRecDepth 20000 in
theorem ggL_law_L_meter : GoodIn wsL_law wsL_meter := goodIn_ca (goodIn_ca (goodIn_ca (goodIn_r _ [117, 69, 70, 71, 118, 119, 120, 2, 121, 17, 76, 77, 78, 79, 80, 81, 82, 83, 84, 85, 86, 87, 88, 89, 90, 91, 14, 465, 466, 467, 468, 469, 470, 471, 472, 473, 474, 475, 476, 477, 478, 479, 480, 481] (by decide +kernel) (by decide +kernel)) (goodIn_sub (fun _ h => List.mem_append_left _ (List.mem_append_left _ (List.mem_append_right _ h))) (by decide +kernel))) (goodIn_sub (fun _ h => List.mem_append_left _ (List.mem_append_right _ h)) (by decide +kernel))) (goodIn_sub (fun _ h => List.mem_append_right _ h) (by decide +kernel))
set_option maxRecDepth 20000 in
theorem gL_law_L_meter : GoodIn wsL_law (va_wsS RL 79 yL_meter wsL_meter) := goodIn_app (goodIn_of _ (by decide +kernel)) ggL_law_L_meter
set_option maxRecDepth 20000 in
theorem ggL_law_X2_meter : GoodIn wsL_law wsX2_meter := goodIn_r _ [125, 49, 96, 97, 5, 98, 99, 100, 101, 102, 103, 104, 105, 55, 106, 107, 108, 109, 110, 482, 483, 484, 485, 486, 487, 488, 489, 490, 491, 492, 493, 494, 495, 496, 497, 498, 499, 500, 501, 502, 503] (by decide +kernel) (by decide +kernel)
set_option maxRecDepth 20000 in
theorem gL_law_X2_meter : GoodIn wsL_law (wsV RL 81 RX2 yX2_meter wsX2_meter) := goodIn_app (goodIn_of _ (by decide +kernel)) ggL_law_X2_meter
set_option maxRecDepth 20000 in
theorem ggL_law_L_setPrice : GoodIn wsL_law wsL_setPrice := goodIn_ca (goodIn_ca (goodIn_r _ [128, 69, 70, 129, 130, 131, 2, 132, 18, 76, 77, 78, 79, 80, 81, 82, 83, 84, 85, 465, 466, 467, 468, 469, 470, 471, 472, 473, 474, 475, 476, 477, 478, 479, 480, 481] (by decide +kernel) (by decide +kernel)) (goodIn_sub (fun _ h => List.mem_append_left _ (List.mem_append_left _ (List.mem_append_right _ h))) (by decide +kernel))) (goodIn_sub (fun _ h => List.mem_append_left _ (List.mem_append_right _ h)) (by decide +kernel))
set_option maxRecDepth 20000 in
theorem gL_law_L_setPrice : GoodIn wsL_law (va_wsS RL 82 yL_setPrice wsL_setPrice) := goodIn_app (goodIn_of _ (by decide +kernel)) ggL_law_L_setPrice
set_option maxRecDepth 20000 in
theorem ggL_law_X2_setPrice : GoodIn wsL_law wsX2_setPrice := goodIn_r _ [136, 50, 96, 97, 5, 98, 99, 100, 101, 106, 107, 108, 109, 110, 482, 483, 484, 485, 486, 487, 488, 489, 490, 491, 492, 493, 494, 495, 496, 497, 498, 499, 500, 501, 502, 503] (by decide +kernel) (by decide +kernel)
set_option maxRecDepth 20000 in
theorem gL_law_X2_setPrice : GoodIn wsL_law (wsV RL 84 RX2 yX2_setPrice wsX2_setPrice) := goodIn_app (goodIn_of _ (by decide +kernel)) ggL_law_X2_setPrice
set_option maxRecDepth 20000 in
theorem ggL_law_L_setLimit : GoodIn wsL_law wsL_setLimit := goodIn_ca (goodIn_ca (goodIn_r _ [139, 69, 70, 140, 141, 142, 2, 143, 23, 144, 145, 146, 79, 80, 81, 82, 83, 84, 85, 465, 466, 467, 468, 469, 470, 471, 472, 473, 474, 475, 476, 477, 478, 479, 480, 481] (by decide +kernel) (by decide +kernel)) (goodIn_sub (fun _ h => List.mem_append_left _ (List.mem_append_left _ (List.mem_append_right _ h))) (by decide +kernel))) (goodIn_sub (fun _ h => List.mem_append_left _ (List.mem_append_right _ h)) (by decide +kernel))
set_option maxRecDepth 20000 in
theorem gL_law_L_setLimit : GoodIn wsL_law (va_wsS RL 85 yL_setLimit wsL_setLimit) := goodIn_app (goodIn_of _ (by decide +kernel)) ggL_law_L_setLimit
set_option maxRecDepth 20000 in
theorem ggL_law_X2_setLimit : GoodIn wsL_law wsX2_setLimit := goodIn_r _ [150, 51, 99, 100, 5, 101, 106, 107, 108, 109, 110, 482, 483, 484, 485, 486, 487, 488, 489, 490, 491, 492, 493, 494, 495, 496, 497, 498, 499, 500, 501, 502, 503] (by decide +kernel) (by decide +kernel)
set_option maxRecDepth 20000 in
theorem gL_law_X2_setLimit : GoodIn wsL_law (wsV RL 87 RX2 yX2_setLimit wsX2_setLimit) := goodIn_app (goodIn_of _ (by decide +kernel)) ggL_law_X2_setLimit
set_option maxRecDepth 20000 in
theorem ggL_law_L_setSupplier : GoodIn wsL_law wsL_setSupplier := goodIn_ca (goodIn_r _ [153, 70, 154, 155, 156, 2, 157, 30, 31, 81, 82, 83, 84, 85, 465, 466, 467, 468, 469, 470, 471, 472, 473, 474, 475, 476, 477, 478, 479, 480, 481] (by decide +kernel) (by decide +kernel)) (goodIn_sub (fun _ h => List.mem_append_left _ (List.mem_append_right _ h)) (by decide +kernel))
set_option maxRecDepth 20000 in
theorem gL_law_L_setSupplier : GoodIn wsL_law (va_wsS RL 88 yL_setSupplier wsL_setSupplier) := goodIn_app (goodIn_of _ (by decide +kernel)) ggL_law_L_setSupplier
set_option maxRecDepth 20000 in
theorem ggL_law_X2_setSupplier : GoodIn wsL_law wsX2_setSupplier := goodIn_r _ [161, 56, 57, 99, 100, 5, 101, 106, 107, 108, 109, 110, 482, 483, 484, 485, 486, 487, 488, 489, 490, 491, 492, 493, 494, 495, 496, 497, 498, 499, 500, 501, 502, 503] (by decide +kernel) (by decide +kernel)
set_option maxRecDepth 20000 in
theorem gL_law_X2_setSupplier : GoodIn wsL_law (wsV RL 91 RX2 yX2_setSupplier wsX2_setSupplier) := goodIn_app (goodIn_of _ (by decide +kernel)) ggL_law_X2_setSupplier
set_option maxRecDepth 20000 in
theorem ggL_law_L_rent : GoodIn wsL_law wsL_rent := goodIn_ca (goodIn_ca (goodIn_ca (goodIn_r _ [164, 69, 70, 71, 165, 166, 167, 2, 168, 84, 85, 90, 91, 19, 20, 76, 77, 78, 79, 80, 81, 82, 83, 86, 87, 88, 89, 14, 465, 466, 467, 468, 469, 470, 471, 472, 473, 474, 475, 476, 477, 478, 479, 480, 481] (by decide +kernel) (by decide +kernel)) (goodIn_sub (fun _ h => List.mem_append_left _ (List.mem_append_right _ h)) (by decide +kernel))) (goodIn_sub (fun _ h => List.mem_append_right _ h) (by decide +kernel))) (goodIn_sub (fun _ h => List.mem_append_left _ (List.mem_append_left _ (List.mem_append_right _ h))) (by decide +kernel))
set_option maxRecDepth 20000 in
theorem gL_law_L_rent : GoodIn wsL_law (va_wsS RL 92 yL_rent wsL_rent) := goodIn_app (goodIn_of _ (by decide +kernel)) ggL_law_L_rent
set_option maxRecDepth 20000 in
theorem ggL_law_X2_rent : GoodIn wsL_law wsX2_rent := goodIn_r _ [172, 52, 53, 96, 97, 5, 98, 99, 100, 101, 102, 103, 104, 105, 55, 106, 107, 108, 109, 110, 482, 483, 484, 485, 486, 487, 488, 489, 490, 491, 492, 493, 494, 495, 496, 497, 498, 499, 500, 501, 502, 503] (by decide +kernel) (by decide +kernel)
set_option maxRecDepth 20000 in
theorem gL_law_X2_rent : GoodIn wsL_law (wsV RL 95 RX2 yX2_rent wsX2_rent) := goodIn_app (goodIn_of _ (by decide +kernel)) ggL_law_X2_rent
set_option maxRecDepth 20000 in
theorem ggL_law_L_leave : GoodIn wsL_law wsL_leave := goodIn_ca (goodIn_ca (goodIn_r _ [175, 69, 71, 176, 177, 178, 2, 179, 20, 31, 14, 16, 17, 19, 76, 77, 78, 79, 80, 86, 87, 88, 89, 90, 91, 180, 181, 182, 183, 21, 32, 465, 466, 467, 468, 469, 470, 471, 472, 473, 474, 475, 476, 477, 478, 479, 480, 481] (by decide +kernel) (by decide +kernel)) (goodIn_sub (fun _ h => List.mem_append_left _ (List.mem_append_left _ (List.mem_append_right _ h))) (by decide +kernel))) (goodIn_sub (fun _ h => List.mem_append_right _ h) (by decide +kernel))
set_option maxRecDepth 20000 in
theorem gL_law_L_leave : GoodIn wsL_law (va_wsS RL 96 yL_leave wsL_leave) := goodIn_app (goodIn_of _ (by decide +kernel)) ggL_law_L_leave
set_option maxRecDepth 20000 in
theorem ggL_law_X2_leave : GoodIn wsL_law wsX2_leave := goodIn_r _ [187, 53, 57, 54, 188, 52, 55, 96, 97, 5, 98, 99, 100, 101, 102, 103, 104, 105, 106, 107, 108, 109, 110, 482, 483, 484, 485, 486, 487, 488, 489, 490, 491, 492, 493, 494, 495, 496, 497, 498, 499, 500, 501, 502, 503] (by decide +kernel) (by decide +kernel)
set_option maxRecDepth 20000 in
theorem gL_law_X2_leave : GoodIn wsL_law (wsV RL 99 RX2 yX2_leave wsX2_leave) := goodIn_app (goodIn_of _ (by decide +kernel)) ggL_law_X2_leave
set_option maxRecDepth 20000 in
theorem ggL_law_L_clear : GoodIn wsL_law wsL_clear := goodIn_ca (goodIn_r _ [191, 71, 192, 193, 194, 2, 195, 90, 91, 34, 17, 16, 196, 197, 198, 199, 25, 200, 201, 202, 203, 29, 22, 204, 28, 205, 206, 43, 207, 208, 209, 210, 211, 212, 213, 214, 18, 215, 216, 217, 218, 219, 220, 221, 222, 223, 224, 225, 226, 227, 228, 229, 230, 231, 232, 38, 39, 40, 41, 42, 233, 234, 235, 236, 23, 237, 238, 239, 240, 241, 242, 243, 244, 245, 246, 247, 248, 249, 250, 251, 252, 32, 24, 253, 254, 255, 256, 21, 257, 258, 259, 260, 19, 20, 261, 262, 263, 264, 265, 266, 267, 268, 269, 270, 271, 180, 181, 182, 183, 272, 273, 274, 275, 30, 31, 33, 276, 277, 278, 279, 465, 466, 467, 468, 469, 470, 471, 472, 473, 474, 475, 476, 477, 478, 479, 480, 481, 504, 505, 506, 507, 508, 509] (by decide +kernel) (by decide +kernel)) (goodIn_sub (fun _ h => List.mem_append_right _ h) (by decide +kernel))
set_option maxRecDepth 20000 in
theorem gL_law_L_clear : GoodIn wsL_law (va_wsS RL 100 yL_clear wsL_clear) := goodIn_app (goodIn_of _ (by decide +kernel)) ggL_law_L_clear
set_option maxRecDepth 20000 in
theorem ggL_law_X2_clear : GoodIn wsL_law wsX2_clear := goodIn_r _ [283, 284, 285, 62, 64, 55, 49, 54, 59, 60, 61, 58, 48, 188, 63, 106, 107, 108, 5, 109, 110, 286, 287, 288, 289, 290, 291, 292, 293, 294, 295, 296, 50, 297, 298, 299, 300, 301, 302, 303, 304, 305, 306, 307, 308, 309, 310, 311, 312, 313, 314, 315, 51, 316, 317, 318, 319, 320, 321, 322, 323, 324, 325, 326, 327, 52, 53, 57, 328, 329, 330, 331, 332, 56, 482, 483, 484, 485, 486, 487, 488, 489, 490, 491, 492, 493, 494, 495, 496, 497, 498, 499, 500, 501, 502, 503] (by decide +kernel) (by decide +kernel)
set_option maxRecDepth 20000 in
theorem gL_law_X2_clear : GoodIn wsL_law (wsV RL 103 RX2 yX2_clear wsX2_clear) := goodIn_app (goodIn_of _ (by decide +kernel)) ggL_law_X2_clear
set_option maxRecDepth 20000 in
theorem ggL_law_X1_quarter : GoodIn wsL_law wsX1_quarter := goodIn_r _ [336, 34, 465, 466, 467, 468, 469, 470, 471, 472, 473, 474, 475, 476, 477, 478, 479, 480, 481] (by decide +kernel) (by decide +kernel)
set_option maxRecDepth 20000 in
theorem gL_law_X1_quarter : GoodIn wsL_law (wsV RL 104 RX1 yX1_quarter wsX1_quarter) := goodIn_app (goodIn_of _ (by decide +kernel)) ggL_law_X1_quarter
set_option maxRecDepth 20000 in
theorem ggL_law_X2_quarter : GoodIn wsL_law wsX2_quarter := goodIn_r _ [340, 110, 284, 482, 483, 484, 485, 486, 487, 488, 489, 490, 491, 492, 493, 494, 495, 496, 497, 498, 499, 500, 501, 502, 503] (by decide +kernel) (by decide +kernel)
set_option maxRecDepth 20000 in
theorem gL_law_X2_quarter : GoodIn wsL_law (wsV RL 107 RX2 yX2_quarter wsX2_quarter) := goodIn_app (goodIn_of _ (by decide +kernel)) ggL_law_X2_quarter
set_option maxRecDepth 20000 in
theorem ggL_law_X1_mostTradable : GoodIn wsL_law wsX1_mostTradable := goodIn_r _ [344, 219, 220, 198, 221, 345, 346, 347, 2, 348, 17, 349, 350, 351, 352, 353, 354, 355, 18, 465, 466, 467, 468, 469, 470, 471, 472, 473, 474, 475, 476, 477, 478, 479, 480, 481] (by decide +kernel) (by decide +kernel)
set_option maxRecDepth 20000 in
theorem gL_law_X1_mostTradable : GoodIn wsL_law (wsV RL 108 RX1 yX1_mostTradable wsX1_mostTradable) := goodIn_app (goodIn_of _ (by decide +kernel)) ggL_law_X1_mostTradable
set_option maxRecDepth 20000 in
theorem ggL_law_X2_mostTradable : GoodIn wsL_law wsX2_mostTradable := goodIn_r _ [359, 110, 50, 360, 361, 362, 5, 363, 49, 289, 290, 291, 292, 55, 305, 306, 307, 308, 309, 310, 311, 482, 483, 484, 485, 486, 487, 488, 489, 490, 491, 492, 493, 494, 495, 496, 497, 498, 499, 500, 501, 502, 503] (by decide +kernel) (by decide +kernel)
set_option maxRecDepth 20000 in
theorem gL_law_X2_mostTradable : GoodIn wsL_law (wsV RL 111 RX2 yX2_mostTradable wsX2_mostTradable) := goodIn_app (goodIn_of _ (by decide +kernel)) ggL_law_X2_mostTradable
set_option maxRecDepth 20000 in
theorem ggL_law_X1_trades : GoodIn wsL_law wsX1_trades := goodIn_r _ [367, 29, 465, 466, 467, 468, 469, 470, 471, 472, 473, 474, 475, 476, 477, 478, 479, 480, 481, 504, 505, 506, 507, 508, 509] (by decide +kernel) (by decide +kernel)
set_option maxRecDepth 20000 in
theorem gL_law_X1_trades : GoodIn wsL_law (wsV RL 112 RX1 yX1_trades wsX1_trades) := goodIn_app (goodIn_of _ (by decide +kernel)) ggL_law_X1_trades
set_option maxRecDepth 20000 in
theorem ggL_law_X2_trades : GoodIn wsL_law wsX2_trades := goodIn_r _ [371, 110, 285, 482, 483, 484, 485, 486, 487, 488, 489, 490, 491, 492, 493, 494, 495, 496, 497, 498, 499, 500, 501, 502, 503] (by decide +kernel) (by decide +kernel)
set_option maxRecDepth 20000 in
theorem gL_law_X2_trades : GoodIn wsL_law (wsV RL 115 RX2 yX2_trades wsX2_trades) := goodIn_app (goodIn_of _ (by decide +kernel)) ggL_law_X2_trades
set_option maxRecDepth 20000 in
theorem ggL_law_L_ofTrade : GoodIn wsL_law wsL_ofTrade := goodIn_ca (goodIn_r _ [374, 69, 375, 376, 377, 2, 378, 79, 80, 29, 465, 466, 467, 468, 469, 470, 471, 472, 473, 474, 475, 476, 477, 478, 479, 480, 481, 504, 505, 506, 507, 508, 509] (by decide +kernel) (by decide +kernel)) (goodIn_sub (fun _ h => List.mem_append_left _ (List.mem_append_left _ (List.mem_append_right _ h))) (by decide +kernel))
set_option maxRecDepth 20000 in
theorem gL_law_L_ofTrade : GoodIn wsL_law (va_wsS RL 116 yL_ofTrade wsL_ofTrade) := goodIn_app (goodIn_of _ (by decide +kernel)) ggL_law_L_ofTrade
set_option maxRecDepth 20000 in
theorem ggL_law_X2_ofTrade : GoodIn wsL_law wsX2_ofTrade := goodIn_r _ [382, 285, 58, 59, 60, 61, 99, 100, 5, 101, 106, 107, 108, 109, 110, 482, 483, 484, 485, 486, 487, 488, 489, 490, 491, 492, 493, 494, 495, 496, 497, 498, 499, 500, 501, 502, 503] (by decide +kernel) (by decide +kernel)
set_option maxRecDepth 20000 in
theorem gL_law_X2_ofTrade : GoodIn wsL_law (wsV RL 118 RX2 yX2_ofTrade wsX2_ofTrade) := goodIn_app (goodIn_of _ (by decide +kernel)) ggL_law_X2_ofTrade
set_option maxRecDepth 20000 in
theorem ggL_law_L_went : GoodIn wsL_law wsL_went := goodIn_ca (goodIn_r _ [385, 69, 386, 387, 388, 2, 389, 79, 80, 25, 465, 466, 467, 468, 469, 470, 471, 472, 473, 474, 475, 476, 477, 478, 479, 480, 481] (by decide +kernel) (by decide +kernel)) (goodIn_sub (fun _ h => List.mem_append_left _ (List.mem_append_left _ (List.mem_append_right _ h))) (by decide +kernel))
set_option maxRecDepth 20000 in
theorem gL_law_L_went : GoodIn wsL_law (va_wsS RL 119 yL_went wsL_went) := goodIn_app (goodIn_of _ (by decide +kernel)) ggL_law_L_went
set_option maxRecDepth 20000 in
theorem ggL_law_X2_went : GoodIn wsL_law wsX2_went := goodIn_r _ [393, 62, 99, 100, 5, 101, 106, 107, 108, 109, 110, 482, 483, 484, 485, 486, 487, 488, 489, 490, 491, 492, 493, 494, 495, 496, 497, 498, 499, 500, 501, 502, 503] (by decide +kernel) (by decide +kernel)
set_option maxRecDepth 20000 in
theorem gL_law_X2_went : GoodIn wsL_law (wsV RL 121 RX2 yX2_went wsX2_went) := goodIn_app (goodIn_of _ (by decide +kernel)) ggL_law_X2_went
set_option maxRecDepth 20000 in
theorem ggL_law_L_flow : GoodIn wsL_law wsL_flow := goodIn_ca (goodIn_r _ [396, 69, 397, 398, 399, 2, 400, 24, 144, 145, 146, 79, 80, 465, 466, 467, 468, 469, 470, 471, 472, 473, 474, 475, 476, 477, 478, 479, 480, 481] (by decide +kernel) (by decide +kernel)) (goodIn_sub (fun _ h => List.mem_append_left _ (List.mem_append_left _ (List.mem_append_right _ h))) (by decide +kernel))
set_option maxRecDepth 20000 in
theorem gL_law_L_flow : GoodIn wsL_law (va_wsS RL 122 yL_flow wsL_flow) := goodIn_app (goodIn_of _ (by decide +kernel)) ggL_law_L_flow
set_option maxRecDepth 20000 in
theorem ggL_law_X2_flow : GoodIn wsL_law wsX2_flow := goodIn_r _ [404, 63, 99, 100, 5, 101, 106, 107, 108, 109, 110, 482, 483, 484, 485, 486, 487, 488, 489, 490, 491, 492, 493, 494, 495, 496, 497, 498, 499, 500, 501, 502, 503] (by decide +kernel) (by decide +kernel)
set_option maxRecDepth 20000 in
theorem gL_law_X2_flow : GoodIn wsL_law (wsV RL 124 RX2 yX2_flow wsX2_flow) := goodIn_app (goodIn_of _ (by decide +kernel)) ggL_law_X2_flow
set_option maxRecDepth 20000 in
theorem ggL_law_L_isMember : GoodIn wsL_law wsL_isMember := goodIn_ca (goodIn_r _ [407, 69, 408, 409, 410, 2, 411, 14, 76, 77, 78, 79, 80, 465, 466, 467, 468, 469, 470, 471, 472, 473, 474, 475, 476, 477, 478, 479, 480, 481] (by decide +kernel) (by decide +kernel)) (goodIn_sub (fun _ h => List.mem_append_left _ (List.mem_append_left _ (List.mem_append_right _ h))) (by decide +kernel))
set_option maxRecDepth 20000 in
theorem gL_law_L_isMember : GoodIn wsL_law (va_wsS RL 125 yL_isMember wsL_isMember) := goodIn_app (goodIn_of _ (by decide +kernel)) ggL_law_L_isMember
set_option maxRecDepth 20000 in
theorem ggL_law_X2_isMember : GoodIn wsL_law wsX2_isMember := goodIn_r _ [415, 55, 96, 97, 5, 98, 99, 100, 101, 106, 107, 108, 109, 110, 482, 483, 484, 485, 486, 487, 488, 489, 490, 491, 492, 493, 494, 495, 496, 497, 498, 499, 500, 501, 502, 503] (by decide +kernel) (by decide +kernel)
set_option maxRecDepth 20000 in
theorem gL_law_X2_isMember : GoodIn wsL_law (wsV RL 127 RX2 yX2_isMember wsX2_isMember) := goodIn_app (goodIn_of _ (by decide +kernel)) ggL_law_X2_isMember
set_option maxRecDepth 20000 in
theorem ggL_law_L_stored : GoodIn wsL_law wsL_stored := goodIn_ca (goodIn_r _ [418, 69, 419, 420, 421, 2, 422, 20, 76, 77, 78, 79, 80, 465, 466, 467, 468, 469, 470, 471, 472, 473, 474, 475, 476, 477, 478, 479, 480, 481] (by decide +kernel) (by decide +kernel)) (goodIn_sub (fun _ h => List.mem_append_left _ (List.mem_append_left _ (List.mem_append_right _ h))) (by decide +kernel))
set_option maxRecDepth 20000 in
theorem gL_law_L_stored : GoodIn wsL_law (va_wsS RL 128 yL_stored wsL_stored) := goodIn_app (goodIn_of _ (by decide +kernel)) ggL_law_L_stored
set_option maxRecDepth 20000 in
theorem ggL_law_X2_stored : GoodIn wsL_law wsX2_stored := goodIn_r _ [426, 53, 96, 97, 5, 98, 99, 100, 101, 106, 107, 108, 109, 110, 482, 483, 484, 485, 486, 487, 488, 489, 490, 491, 492, 493, 494, 495, 496, 497, 498, 499, 500, 501, 502, 503] (by decide +kernel) (by decide +kernel)
set_option maxRecDepth 20000 in
theorem gL_law_X2_stored : GoodIn wsL_law (wsV RL 130 RX2 yX2_stored wsX2_stored) := goodIn_app (goodIn_of _ (by decide +kernel)) ggL_law_X2_stored
set_option maxRecDepth 20000 in
theorem ggL_law_L_part : GoodIn wsL_law wsL_part := goodIn_ca (goodIn_r _ [429, 69, 430, 431, 432, 2, 433, 19, 76, 77, 78, 79, 80, 465, 466, 467, 468, 469, 470, 471, 472, 473, 474, 475, 476, 477, 478, 479, 480, 481] (by decide +kernel) (by decide +kernel)) (goodIn_sub (fun _ h => List.mem_append_left _ (List.mem_append_left _ (List.mem_append_right _ h))) (by decide +kernel))
set_option maxRecDepth 20000 in
theorem gL_law_L_part : GoodIn wsL_law (va_wsS RL 131 yL_part wsL_part) := goodIn_app (goodIn_of _ (by decide +kernel)) ggL_law_L_part
set_option maxRecDepth 20000 in
theorem ggL_law_X2_part : GoodIn wsL_law wsX2_part := goodIn_r _ [437, 52, 96, 97, 5, 98, 99, 100, 101, 106, 107, 108, 109, 110, 482, 483, 484, 485, 486, 487, 488, 489, 490, 491, 492, 493, 494, 495, 496, 497, 498, 499, 500, 501, 502, 503] (by decide +kernel) (by decide +kernel)
set_option maxRecDepth 20000 in
theorem gL_law_X2_part : GoodIn wsL_law (wsV RL 133 RX2 yX2_part wsX2_part) := goodIn_app (goodIn_of _ (by decide +kernel)) ggL_law_X2_part
set_option maxRecDepth 20000 in
theorem ggL_law_L_bill : GoodIn wsL_law wsL_bill := goodIn_ca (goodIn_r _ [440, 69, 441, 442, 443, 2, 444, 21, 76, 77, 78, 79, 80, 465, 466, 467, 468, 469, 470, 471, 472, 473, 474, 475, 476, 477, 478, 479, 480, 481] (by decide +kernel) (by decide +kernel)) (goodIn_sub (fun _ h => List.mem_append_left _ (List.mem_append_left _ (List.mem_append_right _ h))) (by decide +kernel))
set_option maxRecDepth 20000 in
theorem gL_law_L_bill : GoodIn wsL_law (va_wsS RL 134 yL_bill wsL_bill) := goodIn_app (goodIn_of _ (by decide +kernel)) ggL_law_L_bill
set_option maxRecDepth 20000 in
theorem ggL_law_X2_bill : GoodIn wsL_law wsX2_bill := goodIn_r _ [448, 54, 96, 97, 5, 98, 99, 100, 101, 106, 107, 108, 109, 110, 482, 483, 484, 485, 486, 487, 488, 489, 490, 491, 492, 493, 494, 495, 496, 497, 498, 499, 500, 501, 502, 503] (by decide +kernel) (by decide +kernel)
set_option maxRecDepth 20000 in
theorem gL_law_X2_bill : GoodIn wsL_law (wsV RL 136 RX2 yX2_bill wsX2_bill) := goodIn_app (goodIn_of _ (by decide +kernel)) ggL_law_X2_bill
set_option maxRecDepth 20000 in
theorem ggL_law_X1_pool : GoodIn wsL_law wsX1_pool := goodIn_r _ [452, 32, 465, 466, 467, 468, 469, 470, 471, 472, 473, 474, 475, 476, 477, 478, 479, 480, 481] (by decide +kernel) (by decide +kernel)
set_option maxRecDepth 20000 in
theorem gL_law_X1_pool : GoodIn wsL_law (wsV RL 137 RX1 yX1_pool wsX1_pool) := goodIn_app (goodIn_of _ (by decide +kernel)) ggL_law_X1_pool
set_option maxRecDepth 20000 in
theorem ggL_law_X2_pool : GoodIn wsL_law wsX2_pool := goodIn_r _ [456, 110, 188, 482, 483, 484, 485, 486, 487, 488, 489, 490, 491, 492, 493, 494, 495, 496, 497, 498, 499, 500, 501, 502, 503] (by decide +kernel) (by decide +kernel)
set_option maxRecDepth 20000 in
theorem gL_law_X2_pool : GoodIn wsL_law (wsV RL 140 RX2 yX2_pool wsX2_pool) := goodIn_app (goodIn_of _ (by decide +kernel)) ggL_law_X2_pool
set_option maxRecDepth 20000 in
theorem ggL_law_X1_supplied : GoodIn wsL_law wsX1_supplied := goodIn_r _ [460, 33, 465, 466, 467, 468, 469, 470, 471, 472, 473, 474, 475, 476, 477, 478, 479, 480, 481] (by decide +kernel) (by decide +kernel)
set_option maxRecDepth 20000 in
theorem gL_law_X1_supplied : GoodIn wsL_law (wsV RL 141 RX1 yX1_supplied wsX1_supplied) := goodIn_app (goodIn_of _ (by decide +kernel)) ggL_law_X1_supplied
set_option maxRecDepth 20000 in
theorem ggL_law_X2_supplied : GoodIn wsL_law wsX2_supplied := goodIn_r _ [464, 110, 328, 482, 483, 484, 485, 486, 487, 488, 489, 490, 491, 492, 493, 494, 495, 496, 497, 498, 499, 500, 501, 502, 503] (by decide +kernel) (by decide +kernel)
set_option maxRecDepth 20000 in
theorem gL_law_X2_supplied : GoodIn wsL_law (wsV RL 144 RX2 yX2_supplied wsX2_supplied) := goodIn_app (goodIn_of _ (by decide +kernel)) ggL_law_X2_supplied
theorem dL_law_0 : decode cL_law 0 = .ok (.new 8, 3) := by decide +kernel
theorem dL_law_3 : decode cL_law 3 = .ok (.dup, 1) := by decide +kernel
theorem dL_law_4 : decode cL_law 4 = .ok (.invokespecial 66, 3) := by decide +kernel
theorem dL_law_7 : decode cL_law 7 = .ok (.astore_n 1, 1) := by decide +kernel
theorem dL_law_8 : decode cL_law 8 = .ok (.new 67, 3) := by decide +kernel
theorem dL_law_11 : decode cL_law 11 = .ok (.dup, 1) := by decide +kernel
theorem dL_law_12 : decode cL_law 12 = .ok (.invokespecial 69, 3) := by decide +kernel
theorem dL_law_15 : decode cL_law 15 = .ok (.astore_n 2, 1) := by decide +kernel
theorem dL_law_16 : decode cL_law 16 = .ok (.iconst 1, 1) := by decide +kernel
theorem dL_law_17 : decode cL_law 17 = .ok (.newarray .long, 2) := by decide +kernel
theorem dL_law_19 : decode cL_law 19 = .ok (.astore_n 3, 1) := by decide +kernel
theorem dL_law_20 : decode cL_law 20 = .ok (.iconst 0, 1) := by decide +kernel
theorem dL_law_21 : decode cL_law 21 = .ok (.istore 4, 2) := by decide +kernel
theorem dL_law_23 : decode cL_law 23 = .ok (.iload 4, 2) := by decide +kernel
theorem dL_law_25 : decode cL_law 25 = .ok (.aload_n 0, 1) := by decide +kernel
theorem dL_law_26 : decode cL_law 26 = .ok (.arraylength, 1) := by decide +kernel
theorem dL_law_27 : decode cL_law 27 = .ok (.iconst 4, 1) := by decide +kernel
theorem dL_law_28 : decode cL_law 28 = .ok (.isub, 1) := by decide +kernel
theorem dL_law_29 : decode cL_law 29 = .ok (.if_icmp .gt 1085, 3) := by decide +kernel
theorem dL_law_32 : decode cL_law 32 = .ok (.aload_n 0, 1) := by decide +kernel
theorem dL_law_33 : decode cL_law 33 = .ok (.iload 4, 2) := by decide +kernel
theorem dL_law_35 : decode cL_law 35 = .ok (.iaload, 1) := by decide +kernel
theorem dL_law_36 : decode cL_law 36 = .ok (.bipush 31, 2) := by decide +kernel
theorem dL_law_38 : decode cL_law 38 = .ok (.iand, 1) := by decide +kernel
theorem dL_law_39 : decode cL_law 39 = .ok (.tableswitch 1069 0 19 #[93, 161, 229, 297, 365, 413, 493, 549, 593, 606, 619, 632, 700, 756, 812, 875, 931, 987, 1043, 1056], 93) := by decide +kernel
theorem dL_law_132 : decode cL_law 132 = .ok (.aload_n 1, 1) := by decide +kernel
theorem dL_law_133 : decode cL_law 133 = .ok (.aload_n 0, 1) := by decide +kernel
theorem dL_law_134 : decode cL_law 134 = .ok (.iload 4, 2) := by decide +kernel
theorem dL_law_136 : decode cL_law 136 = .ok (.iconst 1, 1) := by decide +kernel
theorem dL_law_137 : decode cL_law 137 = .ok (.iadd, 1) := by decide +kernel
theorem dL_law_138 : decode cL_law 138 = .ok (.iaload, 1) := by decide +kernel
theorem dL_law_139 : decode cL_law 139 = .ok (.aload_n 0, 1) := by decide +kernel
theorem dL_law_140 : decode cL_law 140 = .ok (.iload 4, 2) := by decide +kernel
theorem dL_law_142 : decode cL_law 142 = .ok (.iconst 2, 1) := by decide +kernel
theorem dL_law_143 : decode cL_law 143 = .ok (.iadd, 1) := by decide +kernel
theorem dL_law_144 : decode cL_law 144 = .ok (.iaload, 1) := by decide +kernel
theorem dL_law_145 : decode cL_law 145 = .ok (.aload_n 3, 1) := by decide +kernel
theorem dL_law_146 : decode cL_law 146 = .ok (.invokestatic 70, 3) := by decide +kernel
theorem dL_law_149 : decode cL_law 149 = .ok (.istore 5, 2) := by decide +kernel
theorem dL_law_151 : decode cL_law 151 = .ok (.aload_n 2, 1) := by decide +kernel
theorem dL_law_152 : decode cL_law 152 = .ok (.aload_n 0, 1) := by decide +kernel
theorem dL_law_153 : decode cL_law 153 = .ok (.iload 4, 2) := by decide +kernel
theorem dL_law_155 : decode cL_law 155 = .ok (.iconst 1, 1) := by decide +kernel
theorem dL_law_156 : decode cL_law 156 = .ok (.iadd, 1) := by decide +kernel
theorem dL_law_157 : decode cL_law 157 = .ok (.iaload, 1) := by decide +kernel
theorem dL_law_158 : decode cL_law 158 = .ok (.aload_n 0, 1) := by decide +kernel
theorem dL_law_159 : decode cL_law 159 = .ok (.iload 4, 2) := by decide +kernel
theorem dL_law_161 : decode cL_law 161 = .ok (.iconst 2, 1) := by decide +kernel
theorem dL_law_162 : decode cL_law 162 = .ok (.iadd, 1) := by decide +kernel
theorem dL_law_163 : decode cL_law 163 = .ok (.iaload, 1) := by decide +kernel
theorem dL_law_164 : decode cL_law 164 = .ok (.invokevirtual 75, 3) := by decide +kernel
theorem dL_law_167 : decode cL_law 167 = .ok (.istore 6, 2) := by decide +kernel
theorem dL_law_169 : decode cL_law 169 = .ok (.aload_n 2, 1) := by decide +kernel
theorem dL_law_170 : decode cL_law 170 = .ok (.invokevirtual 76, 3) := by decide +kernel
theorem dL_law_173 : decode cL_law 173 = .ok (.iload 5, 2) := by decide +kernel
theorem dL_law_175 : decode cL_law 175 = .ok (.if_icmp .eq 5, 3) := by decide +kernel
theorem dL_law_178 : decode cL_law 178 = .ok (.iconst 0, 1) := by decide +kernel
theorem dL_law_179 : decode cL_law 179 = .ok (.ireturn, 1) := by decide +kernel
theorem dL_law_180 : decode cL_law 180 = .ok (.iload 5, 2) := by decide +kernel
theorem dL_law_182 : decode cL_law 182 = .ok (.ifCond .ne 15, 3) := by decide +kernel
theorem dL_law_185 : decode cL_law 185 = .ok (.aload_n 3, 1) := by decide +kernel
theorem dL_law_186 : decode cL_law 186 = .ok (.iconst 0, 1) := by decide +kernel
theorem dL_law_187 : decode cL_law 187 = .ok (.laload, 1) := by decide +kernel
theorem dL_law_188 : decode cL_law 188 = .ok (.iload 6, 2) := by decide +kernel
theorem dL_law_190 : decode cL_law 190 = .ok (.i2l, 1) := by decide +kernel
theorem dL_law_191 : decode cL_law 191 = .ok (.lcmp, 1) := by decide +kernel
theorem dL_law_192 : decode cL_law 192 = .ok (.ifCond .eq 5, 3) := by decide +kernel
theorem dL_law_195 : decode cL_law 195 = .ok (.iconst 0, 1) := by decide +kernel
theorem dL_law_196 : decode cL_law 196 = .ok (.ireturn, 1) := by decide +kernel
theorem dL_law_197 : decode cL_law 197 = .ok (.goto 911, 3) := by decide +kernel
theorem dL_law_200 : decode cL_law 200 = .ok (.aload_n 1, 1) := by decide +kernel
theorem dL_law_201 : decode cL_law 201 = .ok (.aload_n 0, 1) := by decide +kernel
theorem dL_law_202 : decode cL_law 202 = .ok (.iload 4, 2) := by decide +kernel
theorem dL_law_204 : decode cL_law 204 = .ok (.iconst 1, 1) := by decide +kernel
theorem dL_law_205 : decode cL_law 205 = .ok (.iadd, 1) := by decide +kernel
theorem dL_law_206 : decode cL_law 206 = .ok (.iaload, 1) := by decide +kernel
theorem dL_law_207 : decode cL_law 207 = .ok (.aload_n 0, 1) := by decide +kernel
theorem dL_law_208 : decode cL_law 208 = .ok (.iload 4, 2) := by decide +kernel
theorem dL_law_210 : decode cL_law 210 = .ok (.iconst 2, 1) := by decide +kernel
theorem dL_law_211 : decode cL_law 211 = .ok (.iadd, 1) := by decide +kernel
theorem dL_law_212 : decode cL_law 212 = .ok (.iaload, 1) := by decide +kernel
theorem dL_law_213 : decode cL_law 213 = .ok (.aload_n 3, 1) := by decide +kernel
theorem dL_law_214 : decode cL_law 214 = .ok (.invokestatic 79, 3) := by decide +kernel
theorem dL_law_217 : decode cL_law 217 = .ok (.istore 5, 2) := by decide +kernel
theorem dL_law_219 : decode cL_law 219 = .ok (.aload_n 2, 1) := by decide +kernel
theorem dL_law_220 : decode cL_law 220 = .ok (.aload_n 0, 1) := by decide +kernel
theorem dL_law_221 : decode cL_law 221 = .ok (.iload 4, 2) := by decide +kernel
theorem dL_law_223 : decode cL_law 223 = .ok (.iconst 1, 1) := by decide +kernel
theorem dL_law_224 : decode cL_law 224 = .ok (.iadd, 1) := by decide +kernel
theorem dL_law_225 : decode cL_law 225 = .ok (.iaload, 1) := by decide +kernel
theorem dL_law_226 : decode cL_law 226 = .ok (.aload_n 0, 1) := by decide +kernel
theorem dL_law_227 : decode cL_law 227 = .ok (.iload 4, 2) := by decide +kernel
theorem dL_law_229 : decode cL_law 229 = .ok (.iconst 2, 1) := by decide +kernel
theorem dL_law_230 : decode cL_law 230 = .ok (.iadd, 1) := by decide +kernel
theorem dL_law_231 : decode cL_law 231 = .ok (.iaload, 1) := by decide +kernel
theorem dL_law_232 : decode cL_law 232 = .ok (.invokevirtual 81, 3) := by decide +kernel
theorem dL_law_235 : decode cL_law 235 = .ok (.istore 6, 2) := by decide +kernel
theorem dL_law_237 : decode cL_law 237 = .ok (.aload_n 2, 1) := by decide +kernel
theorem dL_law_238 : decode cL_law 238 = .ok (.invokevirtual 76, 3) := by decide +kernel
theorem dL_law_241 : decode cL_law 241 = .ok (.iload 5, 2) := by decide +kernel
theorem dL_law_243 : decode cL_law 243 = .ok (.if_icmp .eq 5, 3) := by decide +kernel
theorem dL_law_246 : decode cL_law 246 = .ok (.iconst 0, 1) := by decide +kernel
theorem dL_law_247 : decode cL_law 247 = .ok (.ireturn, 1) := by decide +kernel
theorem dL_law_248 : decode cL_law 248 = .ok (.iload 5, 2) := by decide +kernel
theorem dL_law_250 : decode cL_law 250 = .ok (.ifCond .ne 15, 3) := by decide +kernel
theorem dL_law_253 : decode cL_law 253 = .ok (.aload_n 3, 1) := by decide +kernel
theorem dL_law_254 : decode cL_law 254 = .ok (.iconst 0, 1) := by decide +kernel
theorem dL_law_255 : decode cL_law 255 = .ok (.laload, 1) := by decide +kernel
theorem dL_law_256 : decode cL_law 256 = .ok (.iload 6, 2) := by decide +kernel
theorem dL_law_258 : decode cL_law 258 = .ok (.i2l, 1) := by decide +kernel
theorem dL_law_259 : decode cL_law 259 = .ok (.lcmp, 1) := by decide +kernel
theorem dL_law_260 : decode cL_law 260 = .ok (.ifCond .eq 5, 3) := by decide +kernel
theorem dL_law_263 : decode cL_law 263 = .ok (.iconst 0, 1) := by decide +kernel
theorem dL_law_264 : decode cL_law 264 = .ok (.ireturn, 1) := by decide +kernel
theorem dL_law_265 : decode cL_law 265 = .ok (.goto 843, 3) := by decide +kernel
theorem dL_law_268 : decode cL_law 268 = .ok (.aload_n 1, 1) := by decide +kernel
theorem dL_law_269 : decode cL_law 269 = .ok (.aload_n 0, 1) := by decide +kernel
theorem dL_law_270 : decode cL_law 270 = .ok (.iload 4, 2) := by decide +kernel
theorem dL_law_272 : decode cL_law 272 = .ok (.iconst 1, 1) := by decide +kernel
theorem dL_law_273 : decode cL_law 273 = .ok (.iadd, 1) := by decide +kernel
theorem dL_law_274 : decode cL_law 274 = .ok (.iaload, 1) := by decide +kernel
theorem dL_law_275 : decode cL_law 275 = .ok (.aload_n 0, 1) := by decide +kernel
theorem dL_law_276 : decode cL_law 276 = .ok (.iload 4, 2) := by decide +kernel
theorem dL_law_278 : decode cL_law 278 = .ok (.iconst 2, 1) := by decide +kernel
theorem dL_law_279 : decode cL_law 279 = .ok (.iadd, 1) := by decide +kernel
theorem dL_law_280 : decode cL_law 280 = .ok (.iaload, 1) := by decide +kernel
theorem dL_law_281 : decode cL_law 281 = .ok (.aload_n 3, 1) := by decide +kernel
theorem dL_law_282 : decode cL_law 282 = .ok (.invokestatic 82, 3) := by decide +kernel
theorem dL_law_285 : decode cL_law 285 = .ok (.istore 5, 2) := by decide +kernel
theorem dL_law_287 : decode cL_law 287 = .ok (.aload_n 2, 1) := by decide +kernel
theorem dL_law_288 : decode cL_law 288 = .ok (.aload_n 0, 1) := by decide +kernel
theorem dL_law_289 : decode cL_law 289 = .ok (.iload 4, 2) := by decide +kernel
theorem dL_law_291 : decode cL_law 291 = .ok (.iconst 1, 1) := by decide +kernel
theorem dL_law_292 : decode cL_law 292 = .ok (.iadd, 1) := by decide +kernel
theorem dL_law_293 : decode cL_law 293 = .ok (.iaload, 1) := by decide +kernel
theorem dL_law_294 : decode cL_law 294 = .ok (.aload_n 0, 1) := by decide +kernel
theorem dL_law_295 : decode cL_law 295 = .ok (.iload 4, 2) := by decide +kernel
theorem dL_law_297 : decode cL_law 297 = .ok (.iconst 2, 1) := by decide +kernel
theorem dL_law_298 : decode cL_law 298 = .ok (.iadd, 1) := by decide +kernel
theorem dL_law_299 : decode cL_law 299 = .ok (.iaload, 1) := by decide +kernel
theorem dL_law_300 : decode cL_law 300 = .ok (.invokevirtual 84, 3) := by decide +kernel
theorem dL_law_303 : decode cL_law 303 = .ok (.istore 6, 2) := by decide +kernel
theorem dL_law_305 : decode cL_law 305 = .ok (.aload_n 2, 1) := by decide +kernel
theorem dL_law_306 : decode cL_law 306 = .ok (.invokevirtual 76, 3) := by decide +kernel
theorem dL_law_309 : decode cL_law 309 = .ok (.iload 5, 2) := by decide +kernel
theorem dL_law_311 : decode cL_law 311 = .ok (.if_icmp .eq 5, 3) := by decide +kernel
theorem dL_law_314 : decode cL_law 314 = .ok (.iconst 0, 1) := by decide +kernel
theorem dL_law_315 : decode cL_law 315 = .ok (.ireturn, 1) := by decide +kernel
theorem dL_law_316 : decode cL_law 316 = .ok (.iload 5, 2) := by decide +kernel
theorem dL_law_318 : decode cL_law 318 = .ok (.ifCond .ne 15, 3) := by decide +kernel
theorem dL_law_321 : decode cL_law 321 = .ok (.aload_n 3, 1) := by decide +kernel
theorem dL_law_322 : decode cL_law 322 = .ok (.iconst 0, 1) := by decide +kernel
theorem dL_law_323 : decode cL_law 323 = .ok (.laload, 1) := by decide +kernel
theorem dL_law_324 : decode cL_law 324 = .ok (.iload 6, 2) := by decide +kernel
theorem dL_law_326 : decode cL_law 326 = .ok (.i2l, 1) := by decide +kernel
theorem dL_law_327 : decode cL_law 327 = .ok (.lcmp, 1) := by decide +kernel
theorem dL_law_328 : decode cL_law 328 = .ok (.ifCond .eq 5, 3) := by decide +kernel
theorem dL_law_331 : decode cL_law 331 = .ok (.iconst 0, 1) := by decide +kernel
theorem dL_law_332 : decode cL_law 332 = .ok (.ireturn, 1) := by decide +kernel
theorem dL_law_333 : decode cL_law 333 = .ok (.goto 775, 3) := by decide +kernel
theorem dL_law_336 : decode cL_law 336 = .ok (.aload_n 1, 1) := by decide +kernel
theorem dL_law_337 : decode cL_law 337 = .ok (.aload_n 0, 1) := by decide +kernel
theorem dL_law_338 : decode cL_law 338 = .ok (.iload 4, 2) := by decide +kernel
theorem dL_law_340 : decode cL_law 340 = .ok (.iconst 1, 1) := by decide +kernel
theorem dL_law_341 : decode cL_law 341 = .ok (.iadd, 1) := by decide +kernel
theorem dL_law_342 : decode cL_law 342 = .ok (.iaload, 1) := by decide +kernel
theorem dL_law_343 : decode cL_law 343 = .ok (.aload_n 0, 1) := by decide +kernel
theorem dL_law_344 : decode cL_law 344 = .ok (.iload 4, 2) := by decide +kernel
theorem dL_law_346 : decode cL_law 346 = .ok (.iconst 2, 1) := by decide +kernel
theorem dL_law_347 : decode cL_law 347 = .ok (.iadd, 1) := by decide +kernel
theorem dL_law_348 : decode cL_law 348 = .ok (.iaload, 1) := by decide +kernel
theorem dL_law_349 : decode cL_law 349 = .ok (.aload_n 3, 1) := by decide +kernel
theorem dL_law_350 : decode cL_law 350 = .ok (.invokestatic 85, 3) := by decide +kernel
theorem dL_law_353 : decode cL_law 353 = .ok (.istore 5, 2) := by decide +kernel
theorem dL_law_355 : decode cL_law 355 = .ok (.aload_n 2, 1) := by decide +kernel
theorem dL_law_356 : decode cL_law 356 = .ok (.aload_n 0, 1) := by decide +kernel
theorem dL_law_357 : decode cL_law 357 = .ok (.iload 4, 2) := by decide +kernel
theorem dL_law_359 : decode cL_law 359 = .ok (.iconst 1, 1) := by decide +kernel
theorem dL_law_360 : decode cL_law 360 = .ok (.iadd, 1) := by decide +kernel
theorem dL_law_361 : decode cL_law 361 = .ok (.iaload, 1) := by decide +kernel
theorem dL_law_362 : decode cL_law 362 = .ok (.aload_n 0, 1) := by decide +kernel
theorem dL_law_363 : decode cL_law 363 = .ok (.iload 4, 2) := by decide +kernel
theorem dL_law_365 : decode cL_law 365 = .ok (.iconst 2, 1) := by decide +kernel
theorem dL_law_366 : decode cL_law 366 = .ok (.iadd, 1) := by decide +kernel
theorem dL_law_367 : decode cL_law 367 = .ok (.iaload, 1) := by decide +kernel
theorem dL_law_368 : decode cL_law 368 = .ok (.invokevirtual 87, 3) := by decide +kernel
theorem dL_law_371 : decode cL_law 371 = .ok (.istore 6, 2) := by decide +kernel
theorem dL_law_373 : decode cL_law 373 = .ok (.aload_n 2, 1) := by decide +kernel
theorem dL_law_374 : decode cL_law 374 = .ok (.invokevirtual 76, 3) := by decide +kernel
theorem dL_law_377 : decode cL_law 377 = .ok (.iload 5, 2) := by decide +kernel
theorem dL_law_379 : decode cL_law 379 = .ok (.if_icmp .eq 5, 3) := by decide +kernel
theorem dL_law_382 : decode cL_law 382 = .ok (.iconst 0, 1) := by decide +kernel
theorem dL_law_383 : decode cL_law 383 = .ok (.ireturn, 1) := by decide +kernel
theorem dL_law_384 : decode cL_law 384 = .ok (.iload 5, 2) := by decide +kernel
theorem dL_law_386 : decode cL_law 386 = .ok (.ifCond .ne 15, 3) := by decide +kernel
theorem dL_law_389 : decode cL_law 389 = .ok (.aload_n 3, 1) := by decide +kernel
theorem dL_law_390 : decode cL_law 390 = .ok (.iconst 0, 1) := by decide +kernel
theorem dL_law_391 : decode cL_law 391 = .ok (.laload, 1) := by decide +kernel
theorem dL_law_392 : decode cL_law 392 = .ok (.iload 6, 2) := by decide +kernel
theorem dL_law_394 : decode cL_law 394 = .ok (.i2l, 1) := by decide +kernel
theorem dL_law_395 : decode cL_law 395 = .ok (.lcmp, 1) := by decide +kernel
theorem dL_law_396 : decode cL_law 396 = .ok (.ifCond .eq 5, 3) := by decide +kernel
theorem dL_law_399 : decode cL_law 399 = .ok (.iconst 0, 1) := by decide +kernel
theorem dL_law_400 : decode cL_law 400 = .ok (.ireturn, 1) := by decide +kernel
theorem dL_law_401 : decode cL_law 401 = .ok (.goto 707, 3) := by decide +kernel
theorem dL_law_404 : decode cL_law 404 = .ok (.aload_n 1, 1) := by decide +kernel
theorem dL_law_405 : decode cL_law 405 = .ok (.aload_n 0, 1) := by decide +kernel
theorem dL_law_406 : decode cL_law 406 = .ok (.iload 4, 2) := by decide +kernel
theorem dL_law_408 : decode cL_law 408 = .ok (.iconst 1, 1) := by decide +kernel
theorem dL_law_409 : decode cL_law 409 = .ok (.iadd, 1) := by decide +kernel
theorem dL_law_410 : decode cL_law 410 = .ok (.iaload, 1) := by decide +kernel
theorem dL_law_411 : decode cL_law 411 = .ok (.aload_n 0, 1) := by decide +kernel
theorem dL_law_412 : decode cL_law 412 = .ok (.iload 4, 2) := by decide +kernel
theorem dL_law_414 : decode cL_law 414 = .ok (.iconst 2, 1) := by decide +kernel
theorem dL_law_415 : decode cL_law 415 = .ok (.iadd, 1) := by decide +kernel
theorem dL_law_416 : decode cL_law 416 = .ok (.iaload, 1) := by decide +kernel
theorem dL_law_417 : decode cL_law 417 = .ok (.invokestatic 88, 3) := by decide +kernel
theorem dL_law_420 : decode cL_law 420 = .ok (.istore 5, 2) := by decide +kernel
theorem dL_law_422 : decode cL_law 422 = .ok (.aload_n 2, 1) := by decide +kernel
theorem dL_law_423 : decode cL_law 423 = .ok (.aload_n 0, 1) := by decide +kernel
theorem dL_law_424 : decode cL_law 424 = .ok (.iload 4, 2) := by decide +kernel
theorem dL_law_426 : decode cL_law 426 = .ok (.iconst 1, 1) := by decide +kernel
theorem dL_law_427 : decode cL_law 427 = .ok (.iadd, 1) := by decide +kernel
theorem dL_law_428 : decode cL_law 428 = .ok (.iaload, 1) := by decide +kernel
theorem dL_law_429 : decode cL_law 429 = .ok (.aload_n 0, 1) := by decide +kernel
theorem dL_law_430 : decode cL_law 430 = .ok (.iload 4, 2) := by decide +kernel
theorem dL_law_432 : decode cL_law 432 = .ok (.iconst 2, 1) := by decide +kernel
theorem dL_law_433 : decode cL_law 433 = .ok (.iadd, 1) := by decide +kernel
theorem dL_law_434 : decode cL_law 434 = .ok (.iaload, 1) := by decide +kernel
theorem dL_law_435 : decode cL_law 435 = .ok (.invokevirtual 91, 3) := by decide +kernel
theorem dL_law_438 : decode cL_law 438 = .ok (.aload_n 2, 1) := by decide +kernel
theorem dL_law_439 : decode cL_law 439 = .ok (.invokevirtual 76, 3) := by decide +kernel
theorem dL_law_442 : decode cL_law 442 = .ok (.iload 5, 2) := by decide +kernel
theorem dL_law_444 : decode cL_law 444 = .ok (.if_icmp .eq 5, 3) := by decide +kernel
theorem dL_law_447 : decode cL_law 447 = .ok (.iconst 0, 1) := by decide +kernel
theorem dL_law_448 : decode cL_law 448 = .ok (.ireturn, 1) := by decide +kernel
theorem dL_law_449 : decode cL_law 449 = .ok (.goto 659, 3) := by decide +kernel
theorem dL_law_452 : decode cL_law 452 = .ok (.aload_n 1, 1) := by decide +kernel
theorem dL_law_453 : decode cL_law 453 = .ok (.aload_n 0, 1) := by decide +kernel
theorem dL_law_454 : decode cL_law 454 = .ok (.iload 4, 2) := by decide +kernel
theorem dL_law_456 : decode cL_law 456 = .ok (.iconst 1, 1) := by decide +kernel
theorem dL_law_457 : decode cL_law 457 = .ok (.iadd, 1) := by decide +kernel
theorem dL_law_458 : decode cL_law 458 = .ok (.iaload, 1) := by decide +kernel
theorem dL_law_459 : decode cL_law 459 = .ok (.aload_n 0, 1) := by decide +kernel
theorem dL_law_460 : decode cL_law 460 = .ok (.iload 4, 2) := by decide +kernel
theorem dL_law_462 : decode cL_law 462 = .ok (.iconst 2, 1) := by decide +kernel
theorem dL_law_463 : decode cL_law 463 = .ok (.iadd, 1) := by decide +kernel
theorem dL_law_464 : decode cL_law 464 = .ok (.iaload, 1) := by decide +kernel
theorem dL_law_465 : decode cL_law 465 = .ok (.aload_n 0, 1) := by decide +kernel
theorem dL_law_466 : decode cL_law 466 = .ok (.iload 4, 2) := by decide +kernel
theorem dL_law_468 : decode cL_law 468 = .ok (.iconst 3, 1) := by decide +kernel
theorem dL_law_469 : decode cL_law 469 = .ok (.iadd, 1) := by decide +kernel
theorem dL_law_470 : decode cL_law 470 = .ok (.iaload, 1) := by decide +kernel
theorem dL_law_471 : decode cL_law 471 = .ok (.aload_n 3, 1) := by decide +kernel
theorem dL_law_472 : decode cL_law 472 = .ok (.invokestatic 92, 3) := by decide +kernel
theorem dL_law_475 : decode cL_law 475 = .ok (.istore 5, 2) := by decide +kernel
theorem dL_law_477 : decode cL_law 477 = .ok (.aload_n 2, 1) := by decide +kernel
theorem dL_law_478 : decode cL_law 478 = .ok (.aload_n 0, 1) := by decide +kernel
theorem dL_law_479 : decode cL_law 479 = .ok (.iload 4, 2) := by decide +kernel
theorem dL_law_481 : decode cL_law 481 = .ok (.iconst 1, 1) := by decide +kernel
theorem dL_law_482 : decode cL_law 482 = .ok (.iadd, 1) := by decide +kernel
theorem dL_law_483 : decode cL_law 483 = .ok (.iaload, 1) := by decide +kernel
theorem dL_law_484 : decode cL_law 484 = .ok (.aload_n 0, 1) := by decide +kernel
theorem dL_law_485 : decode cL_law 485 = .ok (.iload 4, 2) := by decide +kernel
theorem dL_law_487 : decode cL_law 487 = .ok (.iconst 2, 1) := by decide +kernel
theorem dL_law_488 : decode cL_law 488 = .ok (.iadd, 1) := by decide +kernel
theorem dL_law_489 : decode cL_law 489 = .ok (.iaload, 1) := by decide +kernel
theorem dL_law_490 : decode cL_law 490 = .ok (.aload_n 0, 1) := by decide +kernel
theorem dL_law_491 : decode cL_law 491 = .ok (.iload 4, 2) := by decide +kernel
theorem dL_law_493 : decode cL_law 493 = .ok (.iconst 3, 1) := by decide +kernel
theorem dL_law_494 : decode cL_law 494 = .ok (.iadd, 1) := by decide +kernel
theorem dL_law_495 : decode cL_law 495 = .ok (.iaload, 1) := by decide +kernel
theorem dL_law_496 : decode cL_law 496 = .ok (.invokevirtual 95, 3) := by decide +kernel
theorem dL_law_499 : decode cL_law 499 = .ok (.istore 6, 2) := by decide +kernel
theorem dL_law_501 : decode cL_law 501 = .ok (.aload_n 2, 1) := by decide +kernel
theorem dL_law_502 : decode cL_law 502 = .ok (.invokevirtual 76, 3) := by decide +kernel
theorem dL_law_505 : decode cL_law 505 = .ok (.iload 5, 2) := by decide +kernel
theorem dL_law_507 : decode cL_law 507 = .ok (.if_icmp .eq 5, 3) := by decide +kernel
theorem dL_law_510 : decode cL_law 510 = .ok (.iconst 0, 1) := by decide +kernel
theorem dL_law_511 : decode cL_law 511 = .ok (.ireturn, 1) := by decide +kernel
theorem dL_law_512 : decode cL_law 512 = .ok (.iload 5, 2) := by decide +kernel
theorem dL_law_514 : decode cL_law 514 = .ok (.ifCond .ne 15, 3) := by decide +kernel
theorem dL_law_517 : decode cL_law 517 = .ok (.aload_n 3, 1) := by decide +kernel
theorem dL_law_518 : decode cL_law 518 = .ok (.iconst 0, 1) := by decide +kernel
theorem dL_law_519 : decode cL_law 519 = .ok (.laload, 1) := by decide +kernel
theorem dL_law_520 : decode cL_law 520 = .ok (.iload 6, 2) := by decide +kernel
theorem dL_law_522 : decode cL_law 522 = .ok (.i2l, 1) := by decide +kernel
theorem dL_law_523 : decode cL_law 523 = .ok (.lcmp, 1) := by decide +kernel
theorem dL_law_524 : decode cL_law 524 = .ok (.ifCond .eq 5, 3) := by decide +kernel
theorem dL_law_527 : decode cL_law 527 = .ok (.iconst 0, 1) := by decide +kernel
theorem dL_law_528 : decode cL_law 528 = .ok (.ireturn, 1) := by decide +kernel
theorem dL_law_529 : decode cL_law 529 = .ok (.goto 579, 3) := by decide +kernel
theorem dL_law_532 : decode cL_law 532 = .ok (.aload_n 1, 1) := by decide +kernel
theorem dL_law_533 : decode cL_law 533 = .ok (.aload_n 0, 1) := by decide +kernel
theorem dL_law_534 : decode cL_law 534 = .ok (.iload 4, 2) := by decide +kernel
theorem dL_law_536 : decode cL_law 536 = .ok (.iconst 1, 1) := by decide +kernel
theorem dL_law_537 : decode cL_law 537 = .ok (.iadd, 1) := by decide +kernel
theorem dL_law_538 : decode cL_law 538 = .ok (.iaload, 1) := by decide +kernel
theorem dL_law_539 : decode cL_law 539 = .ok (.aload_n 3, 1) := by decide +kernel
theorem dL_law_540 : decode cL_law 540 = .ok (.invokestatic 96, 3) := by decide +kernel
theorem dL_law_543 : decode cL_law 543 = .ok (.istore 5, 2) := by decide +kernel
theorem dL_law_545 : decode cL_law 545 = .ok (.aload_n 2, 1) := by decide +kernel
theorem dL_law_546 : decode cL_law 546 = .ok (.aload_n 0, 1) := by decide +kernel
theorem dL_law_547 : decode cL_law 547 = .ok (.iload 4, 2) := by decide +kernel
theorem dL_law_549 : decode cL_law 549 = .ok (.iconst 1, 1) := by decide +kernel
theorem dL_law_550 : decode cL_law 550 = .ok (.iadd, 1) := by decide +kernel
theorem dL_law_551 : decode cL_law 551 = .ok (.iaload, 1) := by decide +kernel
theorem dL_law_552 : decode cL_law 552 = .ok (.invokevirtual 99, 3) := by decide +kernel
theorem dL_law_555 : decode cL_law 555 = .ok (.istore 6, 2) := by decide +kernel
theorem dL_law_557 : decode cL_law 557 = .ok (.aload_n 2, 1) := by decide +kernel
theorem dL_law_558 : decode cL_law 558 = .ok (.invokevirtual 76, 3) := by decide +kernel
theorem dL_law_561 : decode cL_law 561 = .ok (.iload 5, 2) := by decide +kernel
theorem dL_law_563 : decode cL_law 563 = .ok (.if_icmp .eq 5, 3) := by decide +kernel
theorem dL_law_566 : decode cL_law 566 = .ok (.iconst 0, 1) := by decide +kernel
theorem dL_law_567 : decode cL_law 567 = .ok (.ireturn, 1) := by decide +kernel
theorem dL_law_568 : decode cL_law 568 = .ok (.iload 5, 2) := by decide +kernel
theorem dL_law_570 : decode cL_law 570 = .ok (.ifCond .ne 15, 3) := by decide +kernel
theorem dL_law_573 : decode cL_law 573 = .ok (.aload_n 3, 1) := by decide +kernel
theorem dL_law_574 : decode cL_law 574 = .ok (.iconst 0, 1) := by decide +kernel
theorem dL_law_575 : decode cL_law 575 = .ok (.laload, 1) := by decide +kernel
theorem dL_law_576 : decode cL_law 576 = .ok (.iload 6, 2) := by decide +kernel
theorem dL_law_578 : decode cL_law 578 = .ok (.i2l, 1) := by decide +kernel
theorem dL_law_579 : decode cL_law 579 = .ok (.lcmp, 1) := by decide +kernel
theorem dL_law_580 : decode cL_law 580 = .ok (.ifCond .eq 5, 3) := by decide +kernel
theorem dL_law_583 : decode cL_law 583 = .ok (.iconst 0, 1) := by decide +kernel
theorem dL_law_584 : decode cL_law 584 = .ok (.ireturn, 1) := by decide +kernel
theorem dL_law_585 : decode cL_law 585 = .ok (.goto 523, 3) := by decide +kernel
theorem dL_law_588 : decode cL_law 588 = .ok (.aload_n 1, 1) := by decide +kernel
theorem dL_law_589 : decode cL_law 589 = .ok (.aload_n 3, 1) := by decide +kernel
theorem dL_law_590 : decode cL_law 590 = .ok (.invokestatic 100, 3) := by decide +kernel
theorem dL_law_593 : decode cL_law 593 = .ok (.istore 5, 2) := by decide +kernel
theorem dL_law_595 : decode cL_law 595 = .ok (.aload_n 2, 1) := by decide +kernel
theorem dL_law_596 : decode cL_law 596 = .ok (.invokevirtual 103, 3) := by decide +kernel
theorem dL_law_599 : decode cL_law 599 = .ok (.istore 6, 2) := by decide +kernel
theorem dL_law_601 : decode cL_law 601 = .ok (.aload_n 2, 1) := by decide +kernel
theorem dL_law_602 : decode cL_law 602 = .ok (.invokevirtual 76, 3) := by decide +kernel
theorem dL_law_605 : decode cL_law 605 = .ok (.iload 5, 2) := by decide +kernel
theorem dL_law_607 : decode cL_law 607 = .ok (.if_icmp .eq 5, 3) := by decide +kernel
theorem dL_law_610 : decode cL_law 610 = .ok (.iconst 0, 1) := by decide +kernel
theorem dL_law_611 : decode cL_law 611 = .ok (.ireturn, 1) := by decide +kernel
theorem dL_law_612 : decode cL_law 612 = .ok (.iload 5, 2) := by decide +kernel
theorem dL_law_614 : decode cL_law 614 = .ok (.ifCond .ne 15, 3) := by decide +kernel
theorem dL_law_617 : decode cL_law 617 = .ok (.aload_n 3, 1) := by decide +kernel
theorem dL_law_618 : decode cL_law 618 = .ok (.iconst 0, 1) := by decide +kernel
theorem dL_law_619 : decode cL_law 619 = .ok (.laload, 1) := by decide +kernel
theorem dL_law_620 : decode cL_law 620 = .ok (.iload 6, 2) := by decide +kernel
theorem dL_law_622 : decode cL_law 622 = .ok (.i2l, 1) := by decide +kernel
theorem dL_law_623 : decode cL_law 623 = .ok (.lcmp, 1) := by decide +kernel
theorem dL_law_624 : decode cL_law 624 = .ok (.ifCond .eq 5, 3) := by decide +kernel
theorem dL_law_627 : decode cL_law 627 = .ok (.iconst 0, 1) := by decide +kernel
theorem dL_law_628 : decode cL_law 628 = .ok (.ireturn, 1) := by decide +kernel
theorem dL_law_629 : decode cL_law 629 = .ok (.goto 479, 3) := by decide +kernel
theorem dL_law_632 : decode cL_law 632 = .ok (.aload_n 1, 1) := by decide +kernel
theorem dL_law_633 : decode cL_law 633 = .ok (.invokevirtual 104, 3) := by decide +kernel
theorem dL_law_636 : decode cL_law 636 = .ok (.aload_n 2, 1) := by decide +kernel
theorem dL_law_637 : decode cL_law 637 = .ok (.invokevirtual 107, 3) := by decide +kernel
theorem dL_law_640 : decode cL_law 640 = .ok (.if_icmp .eq 468, 3) := by decide +kernel
theorem dL_law_643 : decode cL_law 643 = .ok (.iconst 0, 1) := by decide +kernel
theorem dL_law_644 : decode cL_law 644 = .ok (.ireturn, 1) := by decide +kernel
theorem dL_law_645 : decode cL_law 645 = .ok (.aload_n 1, 1) := by decide +kernel
theorem dL_law_646 : decode cL_law 646 = .ok (.invokevirtual 108, 3) := by decide +kernel
theorem dL_law_649 : decode cL_law 649 = .ok (.aload_n 2, 1) := by decide +kernel
theorem dL_law_650 : decode cL_law 650 = .ok (.invokevirtual 111, 3) := by decide +kernel
theorem dL_law_653 : decode cL_law 653 = .ok (.if_icmp .eq 455, 3) := by decide +kernel
theorem dL_law_656 : decode cL_law 656 = .ok (.iconst 0, 1) := by decide +kernel
theorem dL_law_657 : decode cL_law 657 = .ok (.ireturn, 1) := by decide +kernel
theorem dL_law_658 : decode cL_law 658 = .ok (.aload_n 1, 1) := by decide +kernel
theorem dL_law_659 : decode cL_law 659 = .ok (.invokevirtual 112, 3) := by decide +kernel
theorem dL_law_662 : decode cL_law 662 = .ok (.aload_n 2, 1) := by decide +kernel
theorem dL_law_663 : decode cL_law 663 = .ok (.invokevirtual 115, 3) := by decide +kernel
theorem dL_law_666 : decode cL_law 666 = .ok (.if_icmp .eq 442, 3) := by decide +kernel
theorem dL_law_669 : decode cL_law 669 = .ok (.iconst 0, 1) := by decide +kernel
theorem dL_law_670 : decode cL_law 670 = .ok (.ireturn, 1) := by decide +kernel
theorem dL_law_671 : decode cL_law 671 = .ok (.aload_n 1, 1) := by decide +kernel
theorem dL_law_672 : decode cL_law 672 = .ok (.aload_n 0, 1) := by decide +kernel
theorem dL_law_673 : decode cL_law 673 = .ok (.iload 4, 2) := by decide +kernel
theorem dL_law_675 : decode cL_law 675 = .ok (.iconst 1, 1) := by decide +kernel
theorem dL_law_676 : decode cL_law 676 = .ok (.iadd, 1) := by decide +kernel
theorem dL_law_677 : decode cL_law 677 = .ok (.iaload, 1) := by decide +kernel
theorem dL_law_678 : decode cL_law 678 = .ok (.aload_n 0, 1) := by decide +kernel
theorem dL_law_679 : decode cL_law 679 = .ok (.iload 4, 2) := by decide +kernel
theorem dL_law_681 : decode cL_law 681 = .ok (.iconst 2, 1) := by decide +kernel
theorem dL_law_682 : decode cL_law 682 = .ok (.iadd, 1) := by decide +kernel
theorem dL_law_683 : decode cL_law 683 = .ok (.iaload, 1) := by decide +kernel
theorem dL_law_684 : decode cL_law 684 = .ok (.aload_n 3, 1) := by decide +kernel
theorem dL_law_685 : decode cL_law 685 = .ok (.invokestatic 116, 3) := by decide +kernel
theorem dL_law_688 : decode cL_law 688 = .ok (.istore 5, 2) := by decide +kernel
theorem dL_law_690 : decode cL_law 690 = .ok (.aload_n 2, 1) := by decide +kernel
theorem dL_law_691 : decode cL_law 691 = .ok (.aload_n 0, 1) := by decide +kernel
theorem dL_law_692 : decode cL_law 692 = .ok (.iload 4, 2) := by decide +kernel
theorem dL_law_694 : decode cL_law 694 = .ok (.iconst 1, 1) := by decide +kernel
theorem dL_law_695 : decode cL_law 695 = .ok (.iadd, 1) := by decide +kernel
theorem dL_law_696 : decode cL_law 696 = .ok (.iaload, 1) := by decide +kernel
theorem dL_law_697 : decode cL_law 697 = .ok (.aload_n 0, 1) := by decide +kernel
theorem dL_law_698 : decode cL_law 698 = .ok (.iload 4, 2) := by decide +kernel
theorem dL_law_700 : decode cL_law 700 = .ok (.iconst 2, 1) := by decide +kernel
theorem dL_law_701 : decode cL_law 701 = .ok (.iadd, 1) := by decide +kernel
theorem dL_law_702 : decode cL_law 702 = .ok (.iaload, 1) := by decide +kernel
theorem dL_law_703 : decode cL_law 703 = .ok (.invokevirtual 118, 3) := by decide +kernel
theorem dL_law_706 : decode cL_law 706 = .ok (.istore 6, 2) := by decide +kernel
theorem dL_law_708 : decode cL_law 708 = .ok (.aload_n 2, 1) := by decide +kernel
theorem dL_law_709 : decode cL_law 709 = .ok (.invokevirtual 76, 3) := by decide +kernel
theorem dL_law_712 : decode cL_law 712 = .ok (.iload 5, 2) := by decide +kernel
theorem dL_law_714 : decode cL_law 714 = .ok (.if_icmp .eq 5, 3) := by decide +kernel
theorem dL_law_717 : decode cL_law 717 = .ok (.iconst 0, 1) := by decide +kernel
theorem dL_law_718 : decode cL_law 718 = .ok (.ireturn, 1) := by decide +kernel
theorem dL_law_719 : decode cL_law 719 = .ok (.iload 5, 2) := by decide +kernel
theorem dL_law_721 : decode cL_law 721 = .ok (.ifCond .ne 15, 3) := by decide +kernel
theorem dL_law_724 : decode cL_law 724 = .ok (.aload_n 3, 1) := by decide +kernel
theorem dL_law_725 : decode cL_law 725 = .ok (.iconst 0, 1) := by decide +kernel
theorem dL_law_726 : decode cL_law 726 = .ok (.laload, 1) := by decide +kernel
theorem dL_law_727 : decode cL_law 727 = .ok (.iload 6, 2) := by decide +kernel
theorem dL_law_729 : decode cL_law 729 = .ok (.i2l, 1) := by decide +kernel
theorem dL_law_730 : decode cL_law 730 = .ok (.lcmp, 1) := by decide +kernel
theorem dL_law_731 : decode cL_law 731 = .ok (.ifCond .eq 5, 3) := by decide +kernel
theorem dL_law_734 : decode cL_law 734 = .ok (.iconst 0, 1) := by decide +kernel
theorem dL_law_735 : decode cL_law 735 = .ok (.ireturn, 1) := by decide +kernel
theorem dL_law_736 : decode cL_law 736 = .ok (.goto 372, 3) := by decide +kernel
theorem dL_law_739 : decode cL_law 739 = .ok (.aload_n 1, 1) := by decide +kernel
theorem dL_law_740 : decode cL_law 740 = .ok (.aload_n 0, 1) := by decide +kernel
theorem dL_law_741 : decode cL_law 741 = .ok (.iload 4, 2) := by decide +kernel
theorem dL_law_743 : decode cL_law 743 = .ok (.iconst 1, 1) := by decide +kernel
theorem dL_law_744 : decode cL_law 744 = .ok (.iadd, 1) := by decide +kernel
theorem dL_law_745 : decode cL_law 745 = .ok (.iaload, 1) := by decide +kernel
theorem dL_law_746 : decode cL_law 746 = .ok (.aload_n 3, 1) := by decide +kernel
theorem dL_law_747 : decode cL_law 747 = .ok (.invokestatic 119, 3) := by decide +kernel
theorem dL_law_750 : decode cL_law 750 = .ok (.istore 5, 2) := by decide +kernel
theorem dL_law_752 : decode cL_law 752 = .ok (.aload_n 2, 1) := by decide +kernel
theorem dL_law_753 : decode cL_law 753 = .ok (.aload_n 0, 1) := by decide +kernel
theorem dL_law_754 : decode cL_law 754 = .ok (.iload 4, 2) := by decide +kernel
theorem dL_law_756 : decode cL_law 756 = .ok (.iconst 1, 1) := by decide +kernel
theorem dL_law_757 : decode cL_law 757 = .ok (.iadd, 1) := by decide +kernel
theorem dL_law_758 : decode cL_law 758 = .ok (.iaload, 1) := by decide +kernel
theorem dL_law_759 : decode cL_law 759 = .ok (.invokevirtual 121, 3) := by decide +kernel
theorem dL_law_762 : decode cL_law 762 = .ok (.istore 6, 2) := by decide +kernel
theorem dL_law_764 : decode cL_law 764 = .ok (.aload_n 2, 1) := by decide +kernel
theorem dL_law_765 : decode cL_law 765 = .ok (.invokevirtual 76, 3) := by decide +kernel
theorem dL_law_768 : decode cL_law 768 = .ok (.iload 5, 2) := by decide +kernel
theorem dL_law_770 : decode cL_law 770 = .ok (.if_icmp .eq 5, 3) := by decide +kernel
theorem dL_law_773 : decode cL_law 773 = .ok (.iconst 0, 1) := by decide +kernel
theorem dL_law_774 : decode cL_law 774 = .ok (.ireturn, 1) := by decide +kernel
theorem dL_law_775 : decode cL_law 775 = .ok (.iload 5, 2) := by decide +kernel
theorem dL_law_777 : decode cL_law 777 = .ok (.ifCond .ne 15, 3) := by decide +kernel
theorem dL_law_780 : decode cL_law 780 = .ok (.aload_n 3, 1) := by decide +kernel
theorem dL_law_781 : decode cL_law 781 = .ok (.iconst 0, 1) := by decide +kernel
theorem dL_law_782 : decode cL_law 782 = .ok (.laload, 1) := by decide +kernel
theorem dL_law_783 : decode cL_law 783 = .ok (.iload 6, 2) := by decide +kernel
theorem dL_law_785 : decode cL_law 785 = .ok (.i2l, 1) := by decide +kernel
theorem dL_law_786 : decode cL_law 786 = .ok (.lcmp, 1) := by decide +kernel
theorem dL_law_787 : decode cL_law 787 = .ok (.ifCond .eq 5, 3) := by decide +kernel
theorem dL_law_790 : decode cL_law 790 = .ok (.iconst 0, 1) := by decide +kernel
theorem dL_law_791 : decode cL_law 791 = .ok (.ireturn, 1) := by decide +kernel
theorem dL_law_792 : decode cL_law 792 = .ok (.goto 316, 3) := by decide +kernel
theorem dL_law_795 : decode cL_law 795 = .ok (.aload_n 1, 1) := by decide +kernel
theorem dL_law_796 : decode cL_law 796 = .ok (.aload_n 0, 1) := by decide +kernel
theorem dL_law_797 : decode cL_law 797 = .ok (.iload 4, 2) := by decide +kernel
theorem dL_law_799 : decode cL_law 799 = .ok (.iconst 1, 1) := by decide +kernel
theorem dL_law_800 : decode cL_law 800 = .ok (.iadd, 1) := by decide +kernel
theorem dL_law_801 : decode cL_law 801 = .ok (.iaload, 1) := by decide +kernel
theorem dL_law_802 : decode cL_law 802 = .ok (.aload_n 3, 1) := by decide +kernel
theorem dL_law_803 : decode cL_law 803 = .ok (.invokestatic 122, 3) := by decide +kernel
theorem dL_law_806 : decode cL_law 806 = .ok (.istore 5, 2) := by decide +kernel
theorem dL_law_808 : decode cL_law 808 = .ok (.aload_n 2, 1) := by decide +kernel
theorem dL_law_809 : decode cL_law 809 = .ok (.aload_n 0, 1) := by decide +kernel
theorem dL_law_810 : decode cL_law 810 = .ok (.iload 4, 2) := by decide +kernel
theorem dL_law_812 : decode cL_law 812 = .ok (.iconst 1, 1) := by decide +kernel
theorem dL_law_813 : decode cL_law 813 = .ok (.iadd, 1) := by decide +kernel
theorem dL_law_814 : decode cL_law 814 = .ok (.iaload, 1) := by decide +kernel
theorem dL_law_815 : decode cL_law 815 = .ok (.invokevirtual 124, 3) := by decide +kernel
theorem dL_law_818 : decode cL_law 818 = .ok (.istore 6, 2) := by decide +kernel
theorem dL_law_820 : decode cL_law 820 = .ok (.aload_n 2, 1) := by decide +kernel
theorem dL_law_821 : decode cL_law 821 = .ok (.invokevirtual 76, 3) := by decide +kernel
theorem dL_law_824 : decode cL_law 824 = .ok (.iload 5, 2) := by decide +kernel
theorem dL_law_826 : decode cL_law 826 = .ok (.if_icmp .eq 5, 3) := by decide +kernel
theorem dL_law_829 : decode cL_law 829 = .ok (.iconst 0, 1) := by decide +kernel
theorem dL_law_830 : decode cL_law 830 = .ok (.ireturn, 1) := by decide +kernel
theorem dL_law_831 : decode cL_law 831 = .ok (.iload 5, 2) := by decide +kernel
theorem dL_law_833 : decode cL_law 833 = .ok (.ifCond .ne 15, 3) := by decide +kernel
theorem dL_law_836 : decode cL_law 836 = .ok (.aload_n 3, 1) := by decide +kernel
theorem dL_law_837 : decode cL_law 837 = .ok (.iconst 0, 1) := by decide +kernel
theorem dL_law_838 : decode cL_law 838 = .ok (.laload, 1) := by decide +kernel
theorem dL_law_839 : decode cL_law 839 = .ok (.iload 6, 2) := by decide +kernel
theorem dL_law_841 : decode cL_law 841 = .ok (.i2l, 1) := by decide +kernel
theorem dL_law_842 : decode cL_law 842 = .ok (.lcmp, 1) := by decide +kernel
theorem dL_law_843 : decode cL_law 843 = .ok (.ifCond .eq 5, 3) := by decide +kernel
theorem dL_law_846 : decode cL_law 846 = .ok (.iconst 0, 1) := by decide +kernel
theorem dL_law_847 : decode cL_law 847 = .ok (.ireturn, 1) := by decide +kernel
theorem dL_law_848 : decode cL_law 848 = .ok (.goto 260, 3) := by decide +kernel
theorem dL_law_851 : decode cL_law 851 = .ok (.aload_n 1, 1) := by decide +kernel
theorem dL_law_852 : decode cL_law 852 = .ok (.aload_n 0, 1) := by decide +kernel
theorem dL_law_853 : decode cL_law 853 = .ok (.iload 4, 2) := by decide +kernel
theorem dL_law_855 : decode cL_law 855 = .ok (.iconst 1, 1) := by decide +kernel
theorem dL_law_856 : decode cL_law 856 = .ok (.iadd, 1) := by decide +kernel
theorem dL_law_857 : decode cL_law 857 = .ok (.iaload, 1) := by decide +kernel
theorem dL_law_858 : decode cL_law 858 = .ok (.aload_n 3, 1) := by decide +kernel
theorem dL_law_859 : decode cL_law 859 = .ok (.invokestatic 125, 3) := by decide +kernel
theorem dL_law_862 : decode cL_law 862 = .ok (.istore 5, 2) := by decide +kernel
theorem dL_law_864 : decode cL_law 864 = .ok (.aload_n 2, 1) := by decide +kernel
theorem dL_law_865 : decode cL_law 865 = .ok (.aload_n 0, 1) := by decide +kernel
theorem dL_law_866 : decode cL_law 866 = .ok (.iload 4, 2) := by decide +kernel
theorem dL_law_868 : decode cL_law 868 = .ok (.iconst 1, 1) := by decide +kernel
theorem dL_law_869 : decode cL_law 869 = .ok (.iadd, 1) := by decide +kernel
theorem dL_law_870 : decode cL_law 870 = .ok (.iaload, 1) := by decide +kernel
theorem dL_law_871 : decode cL_law 871 = .ok (.invokevirtual 127, 3) := by decide +kernel
theorem dL_law_874 : decode cL_law 874 = .ok (.istore 6, 2) := by decide +kernel
theorem dL_law_876 : decode cL_law 876 = .ok (.aload_n 2, 1) := by decide +kernel
theorem dL_law_877 : decode cL_law 877 = .ok (.invokevirtual 76, 3) := by decide +kernel
theorem dL_law_880 : decode cL_law 880 = .ok (.iload 5, 2) := by decide +kernel
theorem dL_law_882 : decode cL_law 882 = .ok (.if_icmp .eq 5, 3) := by decide +kernel
theorem dL_law_885 : decode cL_law 885 = .ok (.iconst 0, 1) := by decide +kernel
theorem dL_law_886 : decode cL_law 886 = .ok (.ireturn, 1) := by decide +kernel
theorem dL_law_887 : decode cL_law 887 = .ok (.iload 5, 2) := by decide +kernel
theorem dL_law_889 : decode cL_law 889 = .ok (.ifCond .ne 22, 3) := by decide +kernel
theorem dL_law_892 : decode cL_law 892 = .ok (.aload_n 3, 1) := by decide +kernel
theorem dL_law_893 : decode cL_law 893 = .ok (.iconst 0, 1) := by decide +kernel
theorem dL_law_894 : decode cL_law 894 = .ok (.laload, 1) := by decide +kernel
theorem dL_law_895 : decode cL_law 895 = .ok (.iload 6, 2) := by decide +kernel
theorem dL_law_897 : decode cL_law 897 = .ok (.ifCond .eq 7, 3) := by decide +kernel
theorem dL_law_900 : decode cL_law 900 = .ok (.lconst 1, 1) := by decide +kernel
theorem dL_law_901 : decode cL_law 901 = .ok (.goto 4, 3) := by decide +kernel
theorem dL_law_904 : decode cL_law 904 = .ok (.lconst 0, 1) := by decide +kernel
theorem dL_law_905 : decode cL_law 905 = .ok (.lcmp, 1) := by decide +kernel
theorem dL_law_906 : decode cL_law 906 = .ok (.ifCond .eq 5, 3) := by decide +kernel
theorem dL_law_909 : decode cL_law 909 = .ok (.iconst 0, 1) := by decide +kernel
theorem dL_law_910 : decode cL_law 910 = .ok (.ireturn, 1) := by decide +kernel
theorem dL_law_911 : decode cL_law 911 = .ok (.goto 197, 3) := by decide +kernel
theorem dL_law_914 : decode cL_law 914 = .ok (.aload_n 1, 1) := by decide +kernel
theorem dL_law_915 : decode cL_law 915 = .ok (.aload_n 0, 1) := by decide +kernel
theorem dL_law_916 : decode cL_law 916 = .ok (.iload 4, 2) := by decide +kernel
theorem dL_law_918 : decode cL_law 918 = .ok (.iconst 1, 1) := by decide +kernel
theorem dL_law_919 : decode cL_law 919 = .ok (.iadd, 1) := by decide +kernel
theorem dL_law_920 : decode cL_law 920 = .ok (.iaload, 1) := by decide +kernel
theorem dL_law_921 : decode cL_law 921 = .ok (.aload_n 3, 1) := by decide +kernel
theorem dL_law_922 : decode cL_law 922 = .ok (.invokestatic 128, 3) := by decide +kernel
theorem dL_law_925 : decode cL_law 925 = .ok (.istore 5, 2) := by decide +kernel
theorem dL_law_927 : decode cL_law 927 = .ok (.aload_n 2, 1) := by decide +kernel
theorem dL_law_928 : decode cL_law 928 = .ok (.aload_n 0, 1) := by decide +kernel
theorem dL_law_929 : decode cL_law 929 = .ok (.iload 4, 2) := by decide +kernel
theorem dL_law_931 : decode cL_law 931 = .ok (.iconst 1, 1) := by decide +kernel
theorem dL_law_932 : decode cL_law 932 = .ok (.iadd, 1) := by decide +kernel
theorem dL_law_933 : decode cL_law 933 = .ok (.iaload, 1) := by decide +kernel
theorem dL_law_934 : decode cL_law 934 = .ok (.invokevirtual 130, 3) := by decide +kernel
theorem dL_law_937 : decode cL_law 937 = .ok (.istore 6, 2) := by decide +kernel
theorem dL_law_939 : decode cL_law 939 = .ok (.aload_n 2, 1) := by decide +kernel
theorem dL_law_940 : decode cL_law 940 = .ok (.invokevirtual 76, 3) := by decide +kernel
theorem dL_law_943 : decode cL_law 943 = .ok (.iload 5, 2) := by decide +kernel
theorem dL_law_945 : decode cL_law 945 = .ok (.if_icmp .eq 5, 3) := by decide +kernel
theorem dL_law_948 : decode cL_law 948 = .ok (.iconst 0, 1) := by decide +kernel
theorem dL_law_949 : decode cL_law 949 = .ok (.ireturn, 1) := by decide +kernel
theorem dL_law_950 : decode cL_law 950 = .ok (.iload 5, 2) := by decide +kernel
theorem dL_law_952 : decode cL_law 952 = .ok (.ifCond .ne 15, 3) := by decide +kernel
theorem dL_law_955 : decode cL_law 955 = .ok (.aload_n 3, 1) := by decide +kernel
theorem dL_law_956 : decode cL_law 956 = .ok (.iconst 0, 1) := by decide +kernel
theorem dL_law_957 : decode cL_law 957 = .ok (.laload, 1) := by decide +kernel
theorem dL_law_958 : decode cL_law 958 = .ok (.iload 6, 2) := by decide +kernel
theorem dL_law_960 : decode cL_law 960 = .ok (.i2l, 1) := by decide +kernel
theorem dL_law_961 : decode cL_law 961 = .ok (.lcmp, 1) := by decide +kernel
theorem dL_law_962 : decode cL_law 962 = .ok (.ifCond .eq 5, 3) := by decide +kernel
theorem dL_law_965 : decode cL_law 965 = .ok (.iconst 0, 1) := by decide +kernel
theorem dL_law_966 : decode cL_law 966 = .ok (.ireturn, 1) := by decide +kernel
theorem dL_law_967 : decode cL_law 967 = .ok (.goto 141, 3) := by decide +kernel
theorem dL_law_970 : decode cL_law 970 = .ok (.aload_n 1, 1) := by decide +kernel
theorem dL_law_971 : decode cL_law 971 = .ok (.aload_n 0, 1) := by decide +kernel
theorem dL_law_972 : decode cL_law 972 = .ok (.iload 4, 2) := by decide +kernel
theorem dL_law_974 : decode cL_law 974 = .ok (.iconst 1, 1) := by decide +kernel
theorem dL_law_975 : decode cL_law 975 = .ok (.iadd, 1) := by decide +kernel
theorem dL_law_976 : decode cL_law 976 = .ok (.iaload, 1) := by decide +kernel
theorem dL_law_977 : decode cL_law 977 = .ok (.aload_n 3, 1) := by decide +kernel
theorem dL_law_978 : decode cL_law 978 = .ok (.invokestatic 131, 3) := by decide +kernel
theorem dL_law_981 : decode cL_law 981 = .ok (.istore 5, 2) := by decide +kernel
theorem dL_law_983 : decode cL_law 983 = .ok (.aload_n 2, 1) := by decide +kernel
theorem dL_law_984 : decode cL_law 984 = .ok (.aload_n 0, 1) := by decide +kernel
theorem dL_law_985 : decode cL_law 985 = .ok (.iload 4, 2) := by decide +kernel
theorem dL_law_987 : decode cL_law 987 = .ok (.iconst 1, 1) := by decide +kernel
theorem dL_law_988 : decode cL_law 988 = .ok (.iadd, 1) := by decide +kernel
theorem dL_law_989 : decode cL_law 989 = .ok (.iaload, 1) := by decide +kernel
theorem dL_law_990 : decode cL_law 990 = .ok (.invokevirtual 133, 3) := by decide +kernel
theorem dL_law_993 : decode cL_law 993 = .ok (.istore 6, 2) := by decide +kernel
theorem dL_law_995 : decode cL_law 995 = .ok (.aload_n 2, 1) := by decide +kernel
theorem dL_law_996 : decode cL_law 996 = .ok (.invokevirtual 76, 3) := by decide +kernel
theorem dL_law_999 : decode cL_law 999 = .ok (.iload 5, 2) := by decide +kernel
theorem dL_law_1001 : decode cL_law 1001 = .ok (.if_icmp .eq 5, 3) := by decide +kernel
theorem dL_law_1004 : decode cL_law 1004 = .ok (.iconst 0, 1) := by decide +kernel
theorem dL_law_1005 : decode cL_law 1005 = .ok (.ireturn, 1) := by decide +kernel
theorem dL_law_1006 : decode cL_law 1006 = .ok (.iload 5, 2) := by decide +kernel
theorem dL_law_1008 : decode cL_law 1008 = .ok (.ifCond .ne 15, 3) := by decide +kernel
theorem dL_law_1011 : decode cL_law 1011 = .ok (.aload_n 3, 1) := by decide +kernel
theorem dL_law_1012 : decode cL_law 1012 = .ok (.iconst 0, 1) := by decide +kernel
theorem dL_law_1013 : decode cL_law 1013 = .ok (.laload, 1) := by decide +kernel
theorem dL_law_1014 : decode cL_law 1014 = .ok (.iload 6, 2) := by decide +kernel
theorem dL_law_1016 : decode cL_law 1016 = .ok (.i2l, 1) := by decide +kernel
theorem dL_law_1017 : decode cL_law 1017 = .ok (.lcmp, 1) := by decide +kernel
theorem dL_law_1018 : decode cL_law 1018 = .ok (.ifCond .eq 5, 3) := by decide +kernel
theorem dL_law_1021 : decode cL_law 1021 = .ok (.iconst 0, 1) := by decide +kernel
theorem dL_law_1022 : decode cL_law 1022 = .ok (.ireturn, 1) := by decide +kernel
theorem dL_law_1023 : decode cL_law 1023 = .ok (.goto 85, 3) := by decide +kernel
theorem dL_law_1026 : decode cL_law 1026 = .ok (.aload_n 1, 1) := by decide +kernel
theorem dL_law_1027 : decode cL_law 1027 = .ok (.aload_n 0, 1) := by decide +kernel
theorem dL_law_1028 : decode cL_law 1028 = .ok (.iload 4, 2) := by decide +kernel
theorem dL_law_1030 : decode cL_law 1030 = .ok (.iconst 1, 1) := by decide +kernel
theorem dL_law_1031 : decode cL_law 1031 = .ok (.iadd, 1) := by decide +kernel
theorem dL_law_1032 : decode cL_law 1032 = .ok (.iaload, 1) := by decide +kernel
theorem dL_law_1033 : decode cL_law 1033 = .ok (.aload_n 3, 1) := by decide +kernel
theorem dL_law_1034 : decode cL_law 1034 = .ok (.invokestatic 134, 3) := by decide +kernel
theorem dL_law_1037 : decode cL_law 1037 = .ok (.istore 5, 2) := by decide +kernel
theorem dL_law_1039 : decode cL_law 1039 = .ok (.aload_n 2, 1) := by decide +kernel
theorem dL_law_1040 : decode cL_law 1040 = .ok (.aload_n 0, 1) := by decide +kernel
theorem dL_law_1041 : decode cL_law 1041 = .ok (.iload 4, 2) := by decide +kernel
theorem dL_law_1043 : decode cL_law 1043 = .ok (.iconst 1, 1) := by decide +kernel
theorem dL_law_1044 : decode cL_law 1044 = .ok (.iadd, 1) := by decide +kernel
theorem dL_law_1045 : decode cL_law 1045 = .ok (.iaload, 1) := by decide +kernel
theorem dL_law_1046 : decode cL_law 1046 = .ok (.invokevirtual 136, 3) := by decide +kernel
theorem dL_law_1049 : decode cL_law 1049 = .ok (.istore 6, 2) := by decide +kernel
theorem dL_law_1051 : decode cL_law 1051 = .ok (.aload_n 2, 1) := by decide +kernel
theorem dL_law_1052 : decode cL_law 1052 = .ok (.invokevirtual 76, 3) := by decide +kernel
theorem dL_law_1055 : decode cL_law 1055 = .ok (.iload 5, 2) := by decide +kernel
theorem dL_law_1057 : decode cL_law 1057 = .ok (.if_icmp .eq 5, 3) := by decide +kernel
theorem dL_law_1060 : decode cL_law 1060 = .ok (.iconst 0, 1) := by decide +kernel
theorem dL_law_1061 : decode cL_law 1061 = .ok (.ireturn, 1) := by decide +kernel
theorem dL_law_1062 : decode cL_law 1062 = .ok (.iload 5, 2) := by decide +kernel
theorem dL_law_1064 : decode cL_law 1064 = .ok (.ifCond .ne 15, 3) := by decide +kernel
theorem dL_law_1067 : decode cL_law 1067 = .ok (.aload_n 3, 1) := by decide +kernel
theorem dL_law_1068 : decode cL_law 1068 = .ok (.iconst 0, 1) := by decide +kernel
theorem dL_law_1069 : decode cL_law 1069 = .ok (.laload, 1) := by decide +kernel
theorem dL_law_1070 : decode cL_law 1070 = .ok (.iload 6, 2) := by decide +kernel
theorem dL_law_1072 : decode cL_law 1072 = .ok (.i2l, 1) := by decide +kernel
theorem dL_law_1073 : decode cL_law 1073 = .ok (.lcmp, 1) := by decide +kernel
theorem dL_law_1074 : decode cL_law 1074 = .ok (.ifCond .eq 5, 3) := by decide +kernel
theorem dL_law_1077 : decode cL_law 1077 = .ok (.iconst 0, 1) := by decide +kernel
theorem dL_law_1078 : decode cL_law 1078 = .ok (.ireturn, 1) := by decide +kernel
theorem dL_law_1079 : decode cL_law 1079 = .ok (.goto 29, 3) := by decide +kernel
theorem dL_law_1082 : decode cL_law 1082 = .ok (.aload_n 1, 1) := by decide +kernel
theorem dL_law_1083 : decode cL_law 1083 = .ok (.invokevirtual 137, 3) := by decide +kernel
theorem dL_law_1086 : decode cL_law 1086 = .ok (.aload_n 2, 1) := by decide +kernel
theorem dL_law_1087 : decode cL_law 1087 = .ok (.invokevirtual 140, 3) := by decide +kernel
theorem dL_law_1090 : decode cL_law 1090 = .ok (.if_icmp .eq 18, 3) := by decide +kernel
theorem dL_law_1093 : decode cL_law 1093 = .ok (.iconst 0, 1) := by decide +kernel
theorem dL_law_1094 : decode cL_law 1094 = .ok (.ireturn, 1) := by decide +kernel
theorem dL_law_1095 : decode cL_law 1095 = .ok (.aload_n 1, 1) := by decide +kernel
theorem dL_law_1096 : decode cL_law 1096 = .ok (.invokevirtual 141, 3) := by decide +kernel
theorem dL_law_1099 : decode cL_law 1099 = .ok (.aload_n 2, 1) := by decide +kernel
theorem dL_law_1100 : decode cL_law 1100 = .ok (.invokevirtual 144, 3) := by decide +kernel
theorem dL_law_1103 : decode cL_law 1103 = .ok (.if_icmp .eq 5, 3) := by decide +kernel
theorem dL_law_1106 : decode cL_law 1106 = .ok (.iconst 0, 1) := by decide +kernel
theorem dL_law_1107 : decode cL_law 1107 = .ok (.ireturn, 1) := by decide +kernel
theorem dL_law_1108 : decode cL_law 1108 = .ok (.iinc 4 4, 3) := by decide +kernel
theorem dL_law_1111 : decode cL_law 1111 = .ok (.goto (-1088), 3) := by decide +kernel
theorem dL_law_1114 : decode cL_law 1114 = .ok (.iconst 1, 1) := by decide +kernel
theorem dL_law_1115 : decode cL_law 1115 = .ok (.ireturn, 1) := by decide +kernel
end
section
/-! THE KIT OF THIS CLAIM: numbers as Int, a judgement over a world, rows a line each -/
def iZ (x : Int) : Int32 := Int32.ofInt x
abbrev zB (x : Int) : Prop := -2147483648 ≤ x ∧ x ≤ 2147483647
theorem iZ_toInt {x : Int} (h : zB x) : (iZ x).toInt = x := Int32.toInt_ofInt_of_le (by have := h.1; omega) (by have := h.2; omega)
theorem iZ_lt {a b : Int} (ha : zB a) (hb : zB b) : iZ a < iZ b ↔ a < b := by rw [Int32.lt_iff_toInt_lt, iZ_toInt ha, iZ_toInt hb]
theorem iZ_le {a b : Int} (ha : zB a) (hb : zB b) : iZ a ≤ iZ b ↔ a ≤ b := by rw [Int32.le_iff_toInt_le, iZ_toInt ha, iZ_toInt hb]
theorem iZ_eq {a b : Int} (ha : zB a) (hb : zB b) : iZ a = iZ b ↔ a = b := by rw [← Int32.toInt_inj, iZ_toInt ha, iZ_toInt hb]
theorem iZ_add (a b : Int) : iZ a + iZ b = iZ (a + b) := (Int32.ofInt_add a b).symm
theorem iZ_sub (a b : Int) : iZ a - iZ b = iZ (a - b) := (Int32.ofInt_sub a b).symm
theorem iZ_mul (a b : Int) : iZ a * iZ b = iZ (a * b) := (Int32.ofInt_mul a b).symm
theorem iZ_neg (a : Int) : -iZ a = iZ (-a) := (Int32.ofInt_neg a).symm
theorem iZ_0 : iZ 0 = 0 := rfl
theorem zB_0 : zB 0 := ⟨by decide, by decide⟩
theorem iZ_clamp {a : Int} (h0 : 0 ≤ a) (h : zB a) : (iZ a).toNatClampNeg = a.toNat := Int32.toNatClampNeg_ofInt_of_le (by omega) (by have := h.2; omega)
theorem iZ_in {a : Int} {n : Nat} (h0 : 0 ≤ a) (h1 : a < n) (h : zB a) : vp_in (iZ a) n := vp_in_iff.mpr (by rw [iZ_toInt h]; exact ⟨h0, h1⟩)
theorem iZ_of (x : Int32) : x = iZ x.toInt := (Int32.ofInt_toInt x).symm
theorem iZ_bd (x : Int32) : zB x.toInt := ⟨by have := x.le_toInt; omega, by have := x.toInt_lt; omega⟩
theorem iZ_div {a b : Int} (ha : 0 ≤ a) (hb : zB a) (h0 : 0 < b) (h : zB b) : iZ a / iZ b = iZ (a / b) := by
  have e := Int32.ofInt_tdiv (a := a) (b := b) (by have := hb.1; exact this) (by have := hb.2; exact this) (by have := h.1; exact this) (by have := h.2; exact this)
  rw [Int.tdiv_eq_ediv_of_nonneg ha] at e
  exact e.symm
/-- a row of numbers -/
def zF (g : Int → Int) : Nat → Int32 := fun k => iZ (g (k : Int))
def updZ (f : Int → Int) (i x : Int) : Int → Int := fun j => if j = i then x else f j
theorem updZ_s (f : Int → Int) (i x : Int) : updZ f i x i = x := by simp [updZ]
theorem updZ_n (f : Int → Int) {i j : Int} (x : Int) (h : j ≠ i) : updZ f i x j = f j := by simp [updZ, h]
theorem zF_at (g : Int → Int) {a : Int} (h0 : 0 ≤ a) (h : zB a) : zF g (iZ a).toNatClampNeg = iZ (g a) := by
  rw [iZ_clamp h0 h]
  show iZ (g ((a.toNat : Nat) : Int)) = _
  rw [Int.toNat_of_nonneg h0]
theorem zF_upd (g : Int → Int) {i : Int} (x : Int) (h0 : 0 ≤ i) (h : zB i) : upd (zF g) (iZ i).toNatClampNeg (iZ x) = zF (updZ g i x) := by
  rw [iZ_clamp h0 h]
  funext k
  simp only [upd, zF, updZ]
  have e : (k = i.toNat) ↔ ((k : Int) = i) := by omega
  by_cases hk : k = i.toNat
  · rw [if_pos hk, if_pos (e.mp hk)]
  · rw [if_neg hk, if_neg (fun q => hk (e.mpr q))]
def zmin (a b : Int) : Int := if b < a then b else a
def zmax (a b : Int) : Int := if a < b then b else a
def zabs (a : Int) : Int := if 0 ≤ a then a else 0 - a
theorem zmin_sp (a b : Int) : (b < a ∧ zmin a b = b) ∨ (a ≤ b ∧ zmin a b = a) := by unfold zmin; split <;> omega
theorem zmax_sp (a b : Int) : (a < b ∧ zmax a b = b) ∨ (b ≤ a ∧ zmax a b = a) := by unfold zmax; split <;> omega
theorem zabs_sp (a : Int) : (0 ≤ a ∧ zabs a = a) ∨ (a < 0 ∧ zabs a = -a) := by unfold zabs; split <;> omega
/-- a state: rows by number, numbers by number -/
abbrev GS : Type := (Nat → Int → Int) × (Nat → Int)
def zup {α : Type} (f : Nat → α) (j : Nat) (v : α) : Nat → α := fun k => if k = j then v else f k
def gA (u : GS) (j : Nat) (i x : Int) : GS := (zup u.1 j (updZ (u.1 j) i x), u.2)
def gV (u : GS) (j : Nat) (x : Int) : GS := (u.1, zup u.2 j x)
/-! what is carried beside the words: links among nest mates, what a throw asks of the tables, the texts; none of it speaks of the heap -/
def zG (U : State) : Prop := va_Nw (.fieldLinkNest RX1 136 RX0 "count" "I" RX1) U ∧ va_Nw (.fieldLinkNest RX1 144 RX0 "sellers" "[I" RX1) U ∧ va_Nw (.fieldLinkNest RX1 147 RX0 "buyers" "[I" RX1) U ∧ va_Nw (.fieldLinkNest RX1 150 RX0 "units" "[I" RX1) U ∧ va_Nw (.fieldLinkNest RX1 153 RX0 "prices" "[I" RX1) U ∧ va_Nw (.fieldLinkNest RX1 190 RX0 "cuts" "[I" RX1) U ∧ va_Nw (.methodLinkNest RX1 166 yX0_empty RX1) U ∧ va_Nw (.methodLinkNest RX1 178 yX0_add RX1) U ∧ va_Nw (.methodLinkNest RX1 186 yX0_cutOver RX1) U ∧ va_Nw (.methodLinkNest RX1 193 yX0_flowOver RX1) U ∧ va_Nw (.methodLinkNest RX1 46 yX0_init RX1) U ∧ va_Nw (.declares ⟨"java/lang/RuntimeException", "<init>", "(Ljava/lang/String;)V"⟩) U ∧ va_Nw (.declares ⟨"java/lang/Exception", "<init>", "(Ljava/lang/String;)V"⟩) U ∧ va_Nw (.declares ⟨"java/lang/Throwable", "<init>", "(Ljava/lang/String;)V"⟩) U ∧ va_Nw (.castable "java/lang/IndexOutOfBoundsException" "java/lang/IndexOutOfBoundsException") U ∧ va_Nw (.castable "java/lang/IllegalArgumentException" "java/lang/IllegalArgumentException") U ∧ va_Nw (.castable "java/lang/IllegalStateException" "java/lang/IllegalStateException") U ∧ va_Nc "java/lang/IndexOutOfBoundsException" "java/lang/IllegalArgumentException" U ∧ va_Nc "java/lang/IndexOutOfBoundsException" "java/lang/IllegalStateException" U ∧ va_Nc "java/lang/IllegalArgumentException" "java/lang/IndexOutOfBoundsException" U ∧ va_Nc "java/lang/IllegalArgumentException" "java/lang/IllegalStateException" U ∧ va_Nc "java/lang/IllegalStateException" "java/lang/IndexOutOfBoundsException" U ∧ va_Nc "java/lang/IllegalStateException" "java/lang/IllegalArgumentException" U ∧ (∃ a : Nat, vk_R RX1 83 "both houses are the same" a U) ∧ (∃ a : Nat, vk_R RX1 90 "less room than stored" a U) ∧ (∃ a : Nat, vk_R RX1 97 "500 quarter hours were cleared" a U) ∧ (∃ a : Nat, vk_R RX1 141 "no such trade" a U) ∧ (∃ a : Nat, vk_R RX1 154 "no such what" a U) ∧ (∃ a : Nat, vk_R RX1 156 "no such way" a U) ∧ (∃ a : Nat, vk_R RX1 158 "no such house" a U) ∧ (∃ a : Nat, vk_R RX1 160 "no such stretch" a U) ∧ (∃ a : Nat, vk_R RX1 162 "out of range" a U) ∧ (∃ a : Nat, vk_R RX1 164 "no member" a U)
theorem zG.f136 {U : State} (h : zG U) : va_Nw (.fieldLinkNest RX1 136 RX0 "count" "I" RX1) U := h.1
theorem zG.f144 {U : State} (h : zG U) : va_Nw (.fieldLinkNest RX1 144 RX0 "sellers" "[I" RX1) U := h.2.1
theorem zG.f147 {U : State} (h : zG U) : va_Nw (.fieldLinkNest RX1 147 RX0 "buyers" "[I" RX1) U := h.2.2.1
theorem zG.f150 {U : State} (h : zG U) : va_Nw (.fieldLinkNest RX1 150 RX0 "units" "[I" RX1) U := h.2.2.2.1
theorem zG.f153 {U : State} (h : zG U) : va_Nw (.fieldLinkNest RX1 153 RX0 "prices" "[I" RX1) U := h.2.2.2.2.1
theorem zG.f190 {U : State} (h : zG U) : va_Nw (.fieldLinkNest RX1 190 RX0 "cuts" "[I" RX1) U := h.2.2.2.2.2.1
theorem zG.m166 {U : State} (h : zG U) : va_Nw (.methodLinkNest RX1 166 yX0_empty RX1) U := h.2.2.2.2.2.2.1
theorem zG.m178 {U : State} (h : zG U) : va_Nw (.methodLinkNest RX1 178 yX0_add RX1) U := h.2.2.2.2.2.2.2.1
theorem zG.m186 {U : State} (h : zG U) : va_Nw (.methodLinkNest RX1 186 yX0_cutOver RX1) U := h.2.2.2.2.2.2.2.2.1
theorem zG.m193 {U : State} (h : zG U) : va_Nw (.methodLinkNest RX1 193 yX0_flowOver RX1) U := h.2.2.2.2.2.2.2.2.2.1
theorem zG.m46 {U : State} (h : zG U) : va_Nw (.methodLinkNest RX1 46 yX0_init RX1) U := h.2.2.2.2.2.2.2.2.2.2.1
theorem zG.d0 {U : State} (h : zG U) : va_Nw (.declares ⟨"java/lang/RuntimeException", "<init>", "(Ljava/lang/String;)V"⟩) U := h.2.2.2.2.2.2.2.2.2.2.2.1
theorem zG.d1 {U : State} (h : zG U) : va_Nw (.declares ⟨"java/lang/Exception", "<init>", "(Ljava/lang/String;)V"⟩) U := h.2.2.2.2.2.2.2.2.2.2.2.2.1
theorem zG.d2 {U : State} (h : zG U) : va_Nw (.declares ⟨"java/lang/Throwable", "<init>", "(Ljava/lang/String;)V"⟩) U := h.2.2.2.2.2.2.2.2.2.2.2.2.2.1
theorem zG.c0 {U : State} (h : zG U) : va_Nw (.castable "java/lang/IndexOutOfBoundsException" "java/lang/IndexOutOfBoundsException") U := h.2.2.2.2.2.2.2.2.2.2.2.2.2.2.1
theorem zG.c1 {U : State} (h : zG U) : va_Nw (.castable "java/lang/IllegalArgumentException" "java/lang/IllegalArgumentException") U := h.2.2.2.2.2.2.2.2.2.2.2.2.2.2.2.1
theorem zG.c2 {U : State} (h : zG U) : va_Nw (.castable "java/lang/IllegalStateException" "java/lang/IllegalStateException") U := h.2.2.2.2.2.2.2.2.2.2.2.2.2.2.2.2.1
theorem zG.n01 {U : State} (h : zG U) : va_Nc "java/lang/IndexOutOfBoundsException" "java/lang/IllegalArgumentException" U := h.2.2.2.2.2.2.2.2.2.2.2.2.2.2.2.2.2.1
theorem zG.n02 {U : State} (h : zG U) : va_Nc "java/lang/IndexOutOfBoundsException" "java/lang/IllegalStateException" U := h.2.2.2.2.2.2.2.2.2.2.2.2.2.2.2.2.2.2.1
theorem zG.n10 {U : State} (h : zG U) : va_Nc "java/lang/IllegalArgumentException" "java/lang/IndexOutOfBoundsException" U := h.2.2.2.2.2.2.2.2.2.2.2.2.2.2.2.2.2.2.2.1
theorem zG.n12 {U : State} (h : zG U) : va_Nc "java/lang/IllegalArgumentException" "java/lang/IllegalStateException" U := h.2.2.2.2.2.2.2.2.2.2.2.2.2.2.2.2.2.2.2.2.1
theorem zG.n20 {U : State} (h : zG U) : va_Nc "java/lang/IllegalStateException" "java/lang/IndexOutOfBoundsException" U := h.2.2.2.2.2.2.2.2.2.2.2.2.2.2.2.2.2.2.2.2.2.1
theorem zG.n21 {U : State} (h : zG U) : va_Nc "java/lang/IllegalStateException" "java/lang/IllegalArgumentException" U := h.2.2.2.2.2.2.2.2.2.2.2.2.2.2.2.2.2.2.2.2.2.2.1
theorem zG.s83 {U : State} (h : zG U) : (∃ a : Nat, vk_R RX1 83 "both houses are the same" a U) := h.2.2.2.2.2.2.2.2.2.2.2.2.2.2.2.2.2.2.2.2.2.2.2.1
theorem zG.s90 {U : State} (h : zG U) : (∃ a : Nat, vk_R RX1 90 "less room than stored" a U) := h.2.2.2.2.2.2.2.2.2.2.2.2.2.2.2.2.2.2.2.2.2.2.2.2.1
theorem zG.s97 {U : State} (h : zG U) : (∃ a : Nat, vk_R RX1 97 "500 quarter hours were cleared" a U) := h.2.2.2.2.2.2.2.2.2.2.2.2.2.2.2.2.2.2.2.2.2.2.2.2.2.1
theorem zG.s141 {U : State} (h : zG U) : (∃ a : Nat, vk_R RX1 141 "no such trade" a U) := h.2.2.2.2.2.2.2.2.2.2.2.2.2.2.2.2.2.2.2.2.2.2.2.2.2.2.1
theorem zG.s154 {U : State} (h : zG U) : (∃ a : Nat, vk_R RX1 154 "no such what" a U) := h.2.2.2.2.2.2.2.2.2.2.2.2.2.2.2.2.2.2.2.2.2.2.2.2.2.2.2.1
theorem zG.s156 {U : State} (h : zG U) : (∃ a : Nat, vk_R RX1 156 "no such way" a U) := h.2.2.2.2.2.2.2.2.2.2.2.2.2.2.2.2.2.2.2.2.2.2.2.2.2.2.2.2.1
theorem zG.s158 {U : State} (h : zG U) : (∃ a : Nat, vk_R RX1 158 "no such house" a U) := h.2.2.2.2.2.2.2.2.2.2.2.2.2.2.2.2.2.2.2.2.2.2.2.2.2.2.2.2.2.1
theorem zG.s160 {U : State} (h : zG U) : (∃ a : Nat, vk_R RX1 160 "no such stretch" a U) := h.2.2.2.2.2.2.2.2.2.2.2.2.2.2.2.2.2.2.2.2.2.2.2.2.2.2.2.2.2.2.1
theorem zG.s162 {U : State} (h : zG U) : (∃ a : Nat, vk_R RX1 162 "out of range" a U) := h.2.2.2.2.2.2.2.2.2.2.2.2.2.2.2.2.2.2.2.2.2.2.2.2.2.2.2.2.2.2.2.1
theorem zG.s164 {U : State} (h : zG U) : (∃ a : Nat, vk_R RX1 164 "no member" a U) := h.2.2.2.2.2.2.2.2.2.2.2.2.2.2.2.2.2.2.2.2.2.2.2.2.2.2.2.2.2.2.2.2
theorem zG_castW {X Y : String} {s U : State} (hW : s.WarmedH U.vm) (hZ : va_Nw (.castable X Y) s) : va_Nw (.castable X Y) U := va_tabs rfl (rfl : (s.setVm U.vm).vm = U.vm) (by rw [Cond.castable_setVm hW.alike]; exact hZ)
theorem zG.warm {s U : State} (hW : s.WarmedH U.vm) (h : zG s) : zG U := ⟨va_Nw.warmF hW h.f136, va_Nw.warmF hW h.f144, va_Nw.warmF hW h.f147, va_Nw.warmF hW h.f150, va_Nw.warmF hW h.f153, va_Nw.warmF hW h.f190, va_Nw.warmM hW h.m166, va_Nw.warmM hW h.m178, va_Nw.warmM hW h.m186, va_Nw.warmM hW h.m193, va_Nw.warmM hW h.m46, va_Nw.warmD hW h.d0, va_Nw.warmD hW h.d1, va_Nw.warmD hW h.d2, zG_castW hW h.c0, zG_castW hW h.c1, zG_castW hW h.c2, va_Nc.moved hW.alike h.n01, va_Nc.moved hW.alike h.n02, va_Nc.moved hW.alike h.n10, va_Nc.moved hW.alike h.n12, va_Nc.moved hW.alike h.n20, va_Nc.moved hW.alike h.n21, (by obtain ⟨a, ha⟩ := h.s83; exact ⟨a, vk_R.warm hW ha⟩), (by obtain ⟨a, ha⟩ := h.s90; exact ⟨a, vk_R.warm hW ha⟩), (by obtain ⟨a, ha⟩ := h.s97; exact ⟨a, vk_R.warm hW ha⟩), (by obtain ⟨a, ha⟩ := h.s141; exact ⟨a, vk_R.warm hW ha⟩), (by obtain ⟨a, ha⟩ := h.s154; exact ⟨a, vk_R.warm hW ha⟩), (by obtain ⟨a, ha⟩ := h.s156; exact ⟨a, vk_R.warm hW ha⟩), (by obtain ⟨a, ha⟩ := h.s158; exact ⟨a, vk_R.warm hW ha⟩), (by obtain ⟨a, ha⟩ := h.s160; exact ⟨a, vk_R.warm hW ha⟩), (by obtain ⟨a, ha⟩ := h.s162; exact ⟨a, vk_R.warm hW ha⟩), (by obtain ⟨a, ha⟩ := h.s164; exact ⟨a, vk_R.warm hW ha⟩)⟩
theorem zG.same {s U : State} (e : s.vm = U.vm) (h : zG s) : zG U := ⟨va_Nw.same rfl e h.f136, va_Nw.same rfl e h.f144, va_Nw.same rfl e h.f147, va_Nw.same rfl e h.f150, va_Nw.same rfl e h.f153, va_Nw.same rfl e h.f190, va_Nw.same rfl e h.m166, va_Nw.same rfl e h.m178, va_Nw.same rfl e h.m186, va_Nw.same rfl e h.m193, va_Nw.same rfl e h.m46, va_Nw.same rfl e h.d0, va_Nw.same rfl e h.d1, va_Nw.same rfl e h.d2, va_Nw.same rfl e h.c0, va_Nw.same rfl e h.c1, va_Nw.same rfl e h.c2, va_Nc.moved (by rw [e]; exact Vm.Alike.refl _) h.n01, va_Nc.moved (by rw [e]; exact Vm.Alike.refl _) h.n02, va_Nc.moved (by rw [e]; exact Vm.Alike.refl _) h.n10, va_Nc.moved (by rw [e]; exact Vm.Alike.refl _) h.n12, va_Nc.moved (by rw [e]; exact Vm.Alike.refl _) h.n20, va_Nc.moved (by rw [e]; exact Vm.Alike.refl _) h.n21, (by obtain ⟨a, ha⟩ := h.s83; exact ⟨a, vk_R.same e.symm ha⟩), (by obtain ⟨a, ha⟩ := h.s90; exact ⟨a, vk_R.same e.symm ha⟩), (by obtain ⟨a, ha⟩ := h.s97; exact ⟨a, vk_R.same e.symm ha⟩), (by obtain ⟨a, ha⟩ := h.s141; exact ⟨a, vk_R.same e.symm ha⟩), (by obtain ⟨a, ha⟩ := h.s154; exact ⟨a, vk_R.same e.symm ha⟩), (by obtain ⟨a, ha⟩ := h.s156; exact ⟨a, vk_R.same e.symm ha⟩), (by obtain ⟨a, ha⟩ := h.s158; exact ⟨a, vk_R.same e.symm ha⟩), (by obtain ⟨a, ha⟩ := h.s160; exact ⟨a, vk_R.same e.symm ha⟩), (by obtain ⟨a, ha⟩ := h.s162; exact ⟨a, vk_R.same e.symm ha⟩), (by obtain ⟨a, ha⟩ := h.s164; exact ⟨a, vk_R.same e.symm ha⟩)⟩
/-- the two statics of Throwable that a throw reads -/
def zH (A : Nat → Prop) (U : State) (H : Heap) : Prop := vx_Zq Bundle.tN "UNASSIGNED_STACK" Bundle.steD A U H ∧ vx_Zq Bundle.tN "SUPPRESSED_SENTINEL" Bundle.listD A U H
theorem zH.to {A B : Nat → Prop} {s U : State} {H H1 : Heap} (h : zH A s H) (hq : ∀ a : Nat, a < H.size → ¬ A a → H1[a]? = H[a]?) (hvm : s.vm.Alike U.vm) (hAB : ∀ q, B q → A q) : zH B U H1 := ⟨((h.1.kept hq).moved hvm).narrow hAB, ((h.2.kept hq).moved hvm).narrow hAB⟩
section ZK
variable {p : Program} {l : Launch} {e : Env} {R : Room} {s : State} {m : MethodId} {args : Array Value} {below : List Frame} {meth : Method} {c : Code} {cells slots : Nat} {Q : State → Prop}
variable {cc : ByteArray} {pc nL : Nat} {own : String} {Ts : List Cond} {D : va_G} {tys : List (ClassId × FieldType)} {A : Nat → Prop} {ws ws' : va_W} {lv lv' : List (Nat × Value)} {st rest : List Value}
def zC (p : Program) (s : State) (m : MethodId) (args : Array Value) (c : Code) (cc : ByteArray) (nL : Nat) (own : String) (Ts : List Cond) (D : va_G) (tys : List (ClassId × FieldType)) (A : Nat → Prop) : Prop :=
  p.tables.exec = Jvm.exec ∧ c.code = cc ∧ c.maxLocals = nL ∧ s.vm.findClass own = some m.cls ∧ (∀ w ∈ Ts, w.before args s = true) ∧ va_K D vwCl tys s ∧ (∀ q, s.heap.size ≤ q → A q) ∧ zG s ∧ zH A s s.heap
def zW (p : Program) (l : Launch) (e : Env) (R : Room) (s : State) (m : MethodId) (args : Array Value) (below : List Frame) (meth : Method) (c : Code) (nL : Nat) (D : va_G) (A : Nat → Prop) (cells slots : Nat) (Q : State → Prop) (ws : va_W) (pc : Nat) (lv : List (Nat × Value)) (st : List Value) : Prop :=
  ∀ (H : Heap) (locs : List Loc) (ls : Array Slot), va_P D vwCl ws H → va_D A ws → va_S A s.heap H locs → lv_has ls nL lv → W p l e R s m args below meth c H locs cells slots Q (F0 m pc ls st)
theorem z_fix (X : zC p s m args c cc nL own Ts D tys A) : CallFix p m c cc nL s args Ts own := ⟨X.1, X.2.1, X.2.2.1, X.2.2.2.1, X.2.2.2.2.1⟩
theorem z_sub (ks : List Nat) (hk : lv_pick lv ks = lv') (kk : zW p l e R s m args below meth c nL D A cells slots Q ws pc lv' st) : zW p l e R s m args below meth c nL D A cells slots Q ws pc lv st := fun H locs ls hP hD hS hv => kk H locs ls hP hD hS (lv_sub hv ks hk)
theorem z_ws (h : ws = ws') (kk : zW p l e R s m args below meth c nL D A cells slots Q ws' pc lv st) : zW p l e R s m args below meth c nL D A cells slots Q ws pc lv st := h ▸ kk
theorem z_eq {ws2 : va_W} {lv2 : List (Nat × Value)} (h1 : ws2 = ws) (h2 : lv2 = lv) (kk : zW p l e R s m args below meth c nL D A cells slots Q ws2 pc lv2 st) : zW p l e R s m args below meth c nL D A cells slots Q ws pc lv st := by
  subst h1; subst h2; exact kk
theorem z_widen {k n : Nat} (h1 : cells ≤ k) (h2 : slots ≤ n) (kk : zW p l e R s m args below meth c nL D A k n Q ws pc lv st) : zW p l e R s m args below meth c nL D A cells slots Q ws pc lv st := fun H locs ls hP hD hS hv => W.widen h1 h2 (kk H locs ls hP hD hS hv)
theorem z_iload_n (X : zC p s m args c cc nL own Ts D tys A) {n : Fin 4} {x : Int32} (k : Nat) (hl : lv[k]? = some ((n : Nat), .int x)) (d : decode cc pc = .ok (.iload_n n, 1))
    (kk : zW p l e R s m args below meth c nL D A cells slots Q ws (pc + 1) lv (.int x :: st)) : zW p l e R s m args below meth c nL D A cells slots Q ws pc lv st :=
  fun H locs ls hP hD hS hv => lv_iload_n X.1 X.2.1 d rfl (lv_at hv k hl) (kk H locs ls hP hD hS hv)
theorem z_iload (X : zC p s m args c cc nL own Ts D tys A) {n : Nat} {x : Int32} (k : Nat) (hl : lv[k]? = some (n, .int x)) (d : decode cc pc = .ok (.iload n, 2))
    (kk : zW p l e R s m args below meth c nL D A cells slots Q ws (pc + 2) lv (.int x :: st)) : zW p l e R s m args below meth c nL D A cells slots Q ws pc lv st :=
  fun H locs ls hP hD hS hv => lv_iload X.1 X.2.1 d (lv_at hv k hl) (kk H locs ls hP hD hS hv)
theorem z_aload_n (X : zC p s m args c cc nL own Ts D tys A) {n : Fin 4} {x : Nat} (k : Nat) (hl : lv[k]? = some ((n : Nat), .ref x)) (d : decode cc pc = .ok (.aload_n n, 1))
    (kk : zW p l e R s m args below meth c nL D A cells slots Q ws (pc + 1) lv (.ref x :: st)) : zW p l e R s m args below meth c nL D A cells slots Q ws pc lv st :=
  fun H locs ls hP hD hS hv => lv_aload_n X.1 X.2.1 d rfl (lv_at hv k hl) (kk H locs ls hP hD hS hv)
theorem z_aload (X : zC p s m args c cc nL own Ts D tys A) {n : Nat} {x : Nat} (k : Nat) (hl : lv[k]? = some (n, .ref x)) (d : decode cc pc = .ok (.aload n, 2))
    (kk : zW p l e R s m args below meth c nL D A cells slots Q ws (pc + 2) lv (.ref x :: st)) : zW p l e R s m args below meth c nL D A cells slots Q ws pc lv st :=
  fun H locs ls hP hD hS hv => lv_aload X.1 X.2.1 d (lv_at hv k hl) (kk H locs ls hP hD hS hv)
theorem z_iconst (X : zC p s m args c cc nL own Ts D tys A) {n : Int} (d : decode cc pc = .ok (.iconst n, 1))
    (kk : zW p l e R s m args below meth c nL D A cells slots Q ws (pc + 1) lv (.int (iZ n) :: st)) : zW p l e R s m args below meth c nL D A cells slots Q ws pc lv st :=
  fun H locs ls hP hD hS hv => lv_iconst X.1 X.2.1 d rfl (kk H locs ls hP hD hS hv)
theorem z_bipush (X : zC p s m args c cc nL own Ts D tys A) {n : Int} (hn : (Int8.ofInt n).toInt32 = iZ n) (d : decode cc pc = .ok (.bipush n, 2))
    (kk : zW p l e R s m args below meth c nL D A cells slots Q ws (pc + 2) lv (.int (iZ n) :: st)) : zW p l e R s m args below meth c nL D A cells slots Q ws pc lv st :=
  fun H locs ls hP hD hS hv => lv_bipush X.1 X.2.1 d hn (kk H locs ls hP hD hS hv)
theorem z_sipush (X : zC p s m args c cc nL own Ts D tys A) {n : Int} (hn : (Int16.ofInt n).toInt32 = iZ n) (d : decode cc pc = .ok (.sipush n, 3))
    (kk : zW p l e R s m args below meth c nL D A cells slots Q ws (pc + 3) lv (.int (iZ n) :: st)) : zW p l e R s m args below meth c nL D A cells slots Q ws pc lv st :=
  fun H locs ls hP hD hS hv => lv_sipush X.1 X.2.1 d hn (kk H locs ls hP hD hS hv)
theorem z_istore_n (X : zC p s m args c cc nL own Ts D tys A) {n : Fin 4} {x : Int32} (ks : List Nat) (lv' : List (Nat × Value)) (hl : lv_pick (((n : Nat), Value.int x) :: lv.filter (fun q => !(q.1 == (n : Nat)) && !(q.1 + 1 == (n : Nat) && q.2.category == 2))) ks = lv') (hn : (n : Nat) < nL) (d : decode cc pc = .ok (.istore_n n, 1))
    (kk : zW p l e R s m args below meth c nL D A cells slots Q ws (pc + 1) lv' st) : zW p l e R s m args below meth c nL D A cells slots Q ws pc lv (.int x :: st) :=
  fun H locs ls hP hD hS hv => lv_istore_n X.1 X.2.1 d rfl hv hn rfl (fun ls' hv' => kk H locs ls' hP hD hS (lv_sub hv' ks hl))
theorem z_istore (X : zC p s m args c cc nL own Ts D tys A) {n : Nat} {x : Int32} (ks : List Nat) (lv' : List (Nat × Value)) (hl : lv_pick ((n, Value.int x) :: lv.filter (fun q => !(q.1 == n) && !(q.1 + 1 == n && q.2.category == 2))) ks = lv') (hn : n < nL) (d : decode cc pc = .ok (.istore n, 2))
    (kk : zW p l e R s m args below meth c nL D A cells slots Q ws (pc + 2) lv' st) : zW p l e R s m args below meth c nL D A cells slots Q ws pc lv (.int x :: st) :=
  fun H locs ls hP hD hS hv => lv_istore X.1 X.2.1 d hv hn rfl (fun ls' hv' => kk H locs ls' hP hD hS (lv_sub hv' ks hl))
theorem z_astore_n (X : zC p s m args c cc nL own Ts D tys A) {n : Fin 4} {x : Nat} (ks : List Nat) (lv' : List (Nat × Value)) (hl : lv_pick (((n : Nat), Value.ref x) :: lv.filter (fun q => !(q.1 == (n : Nat)) && !(q.1 + 1 == (n : Nat) && q.2.category == 2))) ks = lv') (hn : (n : Nat) < nL) (d : decode cc pc = .ok (.astore_n n, 1))
    (kk : zW p l e R s m args below meth c nL D A cells slots Q ws (pc + 1) lv' st) : zW p l e R s m args below meth c nL D A cells slots Q ws pc lv (.ref x :: st) :=
  fun H locs ls hP hD hS hv => lv_astore_n X.1 X.2.1 d rfl hv hn rfl (fun ls' hv' => kk H locs ls' hP hD hS (lv_sub hv' ks hl))
theorem z_astore (X : zC p s m args c cc nL own Ts D tys A) {n : Nat} {x : Nat} (ks : List Nat) (lv' : List (Nat × Value)) (hl : lv_pick ((n, Value.ref x) :: lv.filter (fun q => !(q.1 == n) && !(q.1 + 1 == n && q.2.category == 2))) ks = lv') (hn : n < nL) (d : decode cc pc = .ok (.astore n, 2))
    (kk : zW p l e R s m args below meth c nL D A cells slots Q ws (pc + 2) lv' st) : zW p l e R s m args below meth c nL D A cells slots Q ws pc lv (.ref x :: st) :=
  fun H locs ls hP hD hS hv => lv_astore X.1 X.2.1 d hv hn rfl (fun ls' hv' => kk H locs ls' hP hD hS (lv_sub hv' ks hl))
theorem z_iinc (X : zC p s m args c cc nL own Ts D tys A) {n : Nat} {i x : Int} (k : Nat) (ks : List Nat) (lv' : List (Nat × Value)) (hk : lv[k]? = some (n, .int (iZ x))) (hl : lv_pick ((n, Value.int (iZ (x + i))) :: lv.filter (fun q => !(q.1 == n) && !(q.1 + 1 == n && q.2.category == 2))) ks = lv') (hn : n < nL) (d : decode cc pc = .ok (.iinc n i, 3))
    (kk : zW p l e R s m args below meth c nL D A cells slots Q ws (pc + 3) lv' st) : zW p l e R s m args below meth c nL D A cells slots Q ws pc lv st :=
  fun H locs ls hP hD hS hv => lv_iinc X.1 X.2.1 d hv hk (iZ_add x i) hn rfl (fun ls' hv' => kk H locs ls' hP hD hS (lv_sub hv' ks hl))
theorem z_iadd (X : zC p s m args c cc nL own Ts D tys A) {a b : Int} (d : decode cc pc = .ok (.iadd, 1))
    (kk : zW p l e R s m args below meth c nL D A cells slots Q ws (pc + 1) lv (.int (iZ (a + b)) :: st)) : zW p l e R s m args below meth c nL D A cells slots Q ws pc lv (.int (iZ b) :: .int (iZ a) :: st) :=
  fun H locs ls hP hD hS hv => lv_iadd X.1 X.2.1 d (by rw [iZ_add]; exact kk H locs ls hP hD hS hv)
theorem z_isub (X : zC p s m args c cc nL own Ts D tys A) {a b : Int} (d : decode cc pc = .ok (.isub, 1))
    (kk : zW p l e R s m args below meth c nL D A cells slots Q ws (pc + 1) lv (.int (iZ (a - b)) :: st)) : zW p l e R s m args below meth c nL D A cells slots Q ws pc lv (.int (iZ b) :: .int (iZ a) :: st) :=
  fun H locs ls hP hD hS hv => lv_isub X.1 X.2.1 d (by rw [iZ_sub]; exact kk H locs ls hP hD hS hv)
theorem z_imul (X : zC p s m args c cc nL own Ts D tys A) {a b : Int} (d : decode cc pc = .ok (.imul, 1))
    (kk : zW p l e R s m args below meth c nL D A cells slots Q ws (pc + 1) lv (.int (iZ (a * b)) :: st)) : zW p l e R s m args below meth c nL D A cells slots Q ws pc lv (.int (iZ b) :: .int (iZ a) :: st) :=
  fun H locs ls hP hD hS hv => lv_imul X.1 X.2.1 d (by rw [iZ_mul]; exact kk H locs ls hP hD hS hv)
theorem z_ineg (X : zC p s m args c cc nL own Ts D tys A) {a : Int} (d : decode cc pc = .ok (.ineg, 1))
    (kk : zW p l e R s m args below meth c nL D A cells slots Q ws (pc + 1) lv (.int (iZ (-a)) :: st)) : zW p l e R s m args below meth c nL D A cells slots Q ws pc lv (.int (iZ a) :: st) :=
  fun H locs ls hP hD hS hv => lv_ineg X.1 X.2.1 d (by rw [iZ_neg]; exact kk H locs ls hP hD hS hv)
theorem z_idiv (X : zC p s m args c cc nL own Ts D tys A) {a b : Int} (ha : 0 ≤ a) (hb : zB a) (h0 : 0 < b) (h : zB b) (d : decode cc pc = .ok (.idiv, 1))
    (kk : zW p l e R s m args below meth c nL D A cells slots Q ws (pc + 1) lv (.int (iZ (a / b)) :: st)) : zW p l e R s m args below meth c nL D A cells slots Q ws pc lv (.int (iZ b) :: .int (iZ a) :: st) :=
  fun H locs ls hP hD hS hv => lv_idiv X.1 X.2.1 d (fun q => by rw [← iZ_0, iZ_eq h zB_0] at q; omega) (by rw [iZ_div ha hb h0 h]; exact kk H locs ls hP hD hS hv)
theorem z_dup (X : zC p s m args c cc nL own Ts D tys A) {v : Value} (hv1 : v.category = 1) (d : decode cc pc = .ok (.dup, 1))
    (kk : zW p l e R s m args below meth c nL D A cells slots Q ws (pc + 1) lv (v :: v :: st)) : zW p l e R s m args below meth c nL D A cells slots Q ws pc lv (v :: st) :=
  fun H locs ls hP hD hS hv => lv_dup X.1 X.2.1 d hv1 (kk H locs ls hP hD hS hv)
theorem z_dup2 (X : zC p s m args c cc nL own Ts D tys A) {v w : Value} (hv1 : v.category = 1) (hw1 : w.category = 1) (d : decode cc pc = .ok (.dup2, 1))
    (kk : zW p l e R s m args below meth c nL D A cells slots Q ws (pc + 1) lv (v :: w :: v :: w :: st)) : zW p l e R s m args below meth c nL D A cells slots Q ws pc lv (v :: w :: st) :=
  fun H locs ls hP hD hS hv => lv_dup2_11 X.1 X.2.1 d hv1 hw1 (kk H locs ls hP hD hS hv)
theorem z_goto (X : zC p s m args c cc nL own Ts D tys A) {off : Int} {tgt : Nat} (ht : (pc : Int) + off = (tgt : Int)) (d : decode cc pc = .ok (.goto off, 3))
    (kk : zW p l e R s m args below meth c nL D A cells slots Q ws tgt lv st) : zW p l e R s m args below meth c nL D A cells slots Q ws pc lv st :=
  fun H locs ls hP hD hS hv => lv_goto X.1 X.2.1 d ht (kk H locs ls hP hD hS hv)
theorem z_if_eq (X : zC p s m args c cc nL own Ts D tys A) {a : Int} {off : Int} {tgt : Nat} (h : zB a) (ht : (pc : Int) + off = (tgt : Int)) (d : decode cc pc = .ok (.ifCond .eq off, 3))
    (kt : a = 0 → zW p l e R s m args below meth c nL D A cells slots Q ws tgt lv st) (kf : ¬ a = 0 → zW p l e R s m args below meth c nL D A cells slots Q ws (pc + 3) lv st) : zW p l e R s m args below meth c nL D A cells slots Q ws pc lv (.int (iZ a) :: st) :=
  fun H locs ls hP hD hS hv => lv_if_eq X.1 X.2.1 d ht (fun q => kt (by rw [← iZ_0, iZ_eq h zB_0] at q; exact q) H locs ls hP hD hS hv) (fun q => kf (by rw [← iZ_0, iZ_eq h zB_0] at q; exact q) H locs ls hP hD hS hv)
theorem z_if_ne (X : zC p s m args c cc nL own Ts D tys A) {a : Int} {off : Int} {tgt : Nat} (h : zB a) (ht : (pc : Int) + off = (tgt : Int)) (d : decode cc pc = .ok (.ifCond .ne off, 3))
    (kt : ¬ a = 0 → zW p l e R s m args below meth c nL D A cells slots Q ws tgt lv st) (kf : a = 0 → zW p l e R s m args below meth c nL D A cells slots Q ws (pc + 3) lv st) : zW p l e R s m args below meth c nL D A cells slots Q ws pc lv (.int (iZ a) :: st) :=
  fun H locs ls hP hD hS hv => lv_if_ne X.1 X.2.1 d ht (fun q => kt (by rw [← iZ_0, iZ_eq h zB_0] at q; exact q) H locs ls hP hD hS hv) (fun q => kf (by rw [← iZ_0, iZ_eq h zB_0] at q; exact q) H locs ls hP hD hS hv)
theorem z_if_lt (X : zC p s m args c cc nL own Ts D tys A) {a : Int} {off : Int} {tgt : Nat} (h : zB a) (ht : (pc : Int) + off = (tgt : Int)) (d : decode cc pc = .ok (.ifCond .lt off, 3))
    (kt : a < 0 → zW p l e R s m args below meth c nL D A cells slots Q ws tgt lv st) (kf : ¬ a < 0 → zW p l e R s m args below meth c nL D A cells slots Q ws (pc + 3) lv st) : zW p l e R s m args below meth c nL D A cells slots Q ws pc lv (.int (iZ a) :: st) :=
  fun H locs ls hP hD hS hv => lv_if_lt X.1 X.2.1 d ht (fun q => kt (by rw [← iZ_0, iZ_lt h zB_0] at q; exact q) H locs ls hP hD hS hv) (fun q => kf (by rw [← iZ_0, iZ_lt h zB_0] at q; exact q) H locs ls hP hD hS hv)
theorem z_if_ge (X : zC p s m args c cc nL own Ts D tys A) {a : Int} {off : Int} {tgt : Nat} (h : zB a) (ht : (pc : Int) + off = (tgt : Int)) (d : decode cc pc = .ok (.ifCond .ge off, 3))
    (kt : 0 ≤ a → zW p l e R s m args below meth c nL D A cells slots Q ws tgt lv st) (kf : ¬ 0 ≤ a → zW p l e R s m args below meth c nL D A cells slots Q ws (pc + 3) lv st) : zW p l e R s m args below meth c nL D A cells slots Q ws pc lv (.int (iZ a) :: st) :=
  fun H locs ls hP hD hS hv => lv_if_ge X.1 X.2.1 d ht (fun q => kt (by rw [← iZ_0, iZ_le zB_0 h] at q; exact q) H locs ls hP hD hS hv) (fun q => kf (by rw [← iZ_0, iZ_le zB_0 h] at q; exact q) H locs ls hP hD hS hv)
theorem z_if_gt (X : zC p s m args c cc nL own Ts D tys A) {a : Int} {off : Int} {tgt : Nat} (h : zB a) (ht : (pc : Int) + off = (tgt : Int)) (d : decode cc pc = .ok (.ifCond .gt off, 3))
    (kt : 0 < a → zW p l e R s m args below meth c nL D A cells slots Q ws tgt lv st) (kf : ¬ 0 < a → zW p l e R s m args below meth c nL D A cells slots Q ws (pc + 3) lv st) : zW p l e R s m args below meth c nL D A cells slots Q ws pc lv (.int (iZ a) :: st) :=
  fun H locs ls hP hD hS hv => lv_if_gt X.1 X.2.1 d ht (fun q => kt (by rw [← iZ_0, iZ_lt zB_0 h] at q; exact q) H locs ls hP hD hS hv) (fun q => kf (by rw [← iZ_0, iZ_lt zB_0 h] at q; exact q) H locs ls hP hD hS hv)
theorem z_if_le (X : zC p s m args c cc nL own Ts D tys A) {a : Int} {off : Int} {tgt : Nat} (h : zB a) (ht : (pc : Int) + off = (tgt : Int)) (d : decode cc pc = .ok (.ifCond .le off, 3))
    (kt : a ≤ 0 → zW p l e R s m args below meth c nL D A cells slots Q ws tgt lv st) (kf : ¬ a ≤ 0 → zW p l e R s m args below meth c nL D A cells slots Q ws (pc + 3) lv st) : zW p l e R s m args below meth c nL D A cells slots Q ws pc lv (.int (iZ a) :: st) :=
  fun H locs ls hP hD hS hv => lv_if_le X.1 X.2.1 d ht (fun q => kt (by rw [← iZ_0, iZ_le h zB_0] at q; exact q) H locs ls hP hD hS hv) (fun q => kf (by rw [← iZ_0, iZ_le h zB_0] at q; exact q) H locs ls hP hD hS hv)
theorem z_icmp_eq (X : zC p s m args c cc nL own Ts D tys A) {a b : Int} {off : Int} {tgt : Nat} (h1 : zB a) (h2 : zB b) (ht : (pc : Int) + off = (tgt : Int)) (d : decode cc pc = .ok (.if_icmp .eq off, 3))
    (kt : a = b → zW p l e R s m args below meth c nL D A cells slots Q ws tgt lv st) (kf : ¬ a = b → zW p l e R s m args below meth c nL D A cells slots Q ws (pc + 3) lv st) : zW p l e R s m args below meth c nL D A cells slots Q ws pc lv (.int (iZ b) :: .int (iZ a) :: st) :=
  fun H locs ls hP hD hS hv => lv_icmp_eq X.1 X.2.1 d ht (fun q => kt (by rw [iZ_eq h1 h2] at q; exact q) H locs ls hP hD hS hv) (fun q => kf (by rw [iZ_eq h1 h2] at q; exact q) H locs ls hP hD hS hv)
theorem z_icmp_ne (X : zC p s m args c cc nL own Ts D tys A) {a b : Int} {off : Int} {tgt : Nat} (h1 : zB a) (h2 : zB b) (ht : (pc : Int) + off = (tgt : Int)) (d : decode cc pc = .ok (.if_icmp .ne off, 3))
    (kt : ¬ a = b → zW p l e R s m args below meth c nL D A cells slots Q ws tgt lv st) (kf : a = b → zW p l e R s m args below meth c nL D A cells slots Q ws (pc + 3) lv st) : zW p l e R s m args below meth c nL D A cells slots Q ws pc lv (.int (iZ b) :: .int (iZ a) :: st) :=
  fun H locs ls hP hD hS hv => lv_icmp_ne X.1 X.2.1 d ht (fun q => kt (by rw [iZ_eq h1 h2] at q; exact q) H locs ls hP hD hS hv) (fun q => kf (by rw [iZ_eq h1 h2] at q; exact q) H locs ls hP hD hS hv)
theorem z_icmp_lt (X : zC p s m args c cc nL own Ts D tys A) {a b : Int} {off : Int} {tgt : Nat} (h1 : zB a) (h2 : zB b) (ht : (pc : Int) + off = (tgt : Int)) (d : decode cc pc = .ok (.if_icmp .lt off, 3))
    (kt : a < b → zW p l e R s m args below meth c nL D A cells slots Q ws tgt lv st) (kf : ¬ a < b → zW p l e R s m args below meth c nL D A cells slots Q ws (pc + 3) lv st) : zW p l e R s m args below meth c nL D A cells slots Q ws pc lv (.int (iZ b) :: .int (iZ a) :: st) :=
  fun H locs ls hP hD hS hv => lv_icmp_lt X.1 X.2.1 d ht (fun q => kt (by rw [iZ_lt h1 h2] at q; exact q) H locs ls hP hD hS hv) (fun q => kf (by rw [iZ_lt h1 h2] at q; exact q) H locs ls hP hD hS hv)
theorem z_icmp_ge (X : zC p s m args c cc nL own Ts D tys A) {a b : Int} {off : Int} {tgt : Nat} (h1 : zB a) (h2 : zB b) (ht : (pc : Int) + off = (tgt : Int)) (d : decode cc pc = .ok (.if_icmp .ge off, 3))
    (kt : b ≤ a → zW p l e R s m args below meth c nL D A cells slots Q ws tgt lv st) (kf : ¬ b ≤ a → zW p l e R s m args below meth c nL D A cells slots Q ws (pc + 3) lv st) : zW p l e R s m args below meth c nL D A cells slots Q ws pc lv (.int (iZ b) :: .int (iZ a) :: st) :=
  fun H locs ls hP hD hS hv => lv_icmp_ge X.1 X.2.1 d ht (fun q => kt (by rw [iZ_le h2 h1] at q; exact q) H locs ls hP hD hS hv) (fun q => kf (by rw [iZ_le h2 h1] at q; exact q) H locs ls hP hD hS hv)
theorem z_icmp_gt (X : zC p s m args c cc nL own Ts D tys A) {a b : Int} {off : Int} {tgt : Nat} (h1 : zB a) (h2 : zB b) (ht : (pc : Int) + off = (tgt : Int)) (d : decode cc pc = .ok (.if_icmp .gt off, 3))
    (kt : b < a → zW p l e R s m args below meth c nL D A cells slots Q ws tgt lv st) (kf : ¬ b < a → zW p l e R s m args below meth c nL D A cells slots Q ws (pc + 3) lv st) : zW p l e R s m args below meth c nL D A cells slots Q ws pc lv (.int (iZ b) :: .int (iZ a) :: st) :=
  fun H locs ls hP hD hS hv => lv_icmp_gt X.1 X.2.1 d ht (fun q => kt (by rw [iZ_lt h2 h1] at q; exact q) H locs ls hP hD hS hv) (fun q => kf (by rw [iZ_lt h2 h1] at q; exact q) H locs ls hP hD hS hv)
theorem z_icmp_le (X : zC p s m args c cc nL own Ts D tys A) {a b : Int} {off : Int} {tgt : Nat} (h1 : zB a) (h2 : zB b) (ht : (pc : Int) + off = (tgt : Int)) (d : decode cc pc = .ok (.if_icmp .le off, 3))
    (kt : a ≤ b → zW p l e R s m args below meth c nL D A cells slots Q ws tgt lv st) (kf : ¬ a ≤ b → zW p l e R s m args below meth c nL D A cells slots Q ws (pc + 3) lv st) : zW p l e R s m args below meth c nL D A cells slots Q ws pc lv (.int (iZ b) :: .int (iZ a) :: st) :=
  fun H locs ls hP hD hS hv => lv_icmp_le X.1 X.2.1 d ht (fun q => kt (by rw [iZ_le h1 h2] at q; exact q) H locs ls hP hD hS hv) (fun q => kf (by rw [iZ_le h1 h2] at q; exact q) H locs ls hP hD hS hv)
/-! rows of numbers, fields -/
theorem z_iald (X : zC p s m args c cc nL own Ts D tys A) {a : Nat} (q0 t0 : Nat) {cA : ClassId} {n : Nat} {g : Int → Int} {i : Int} (ha : ws[q0]? = some (a, .inl (cA, n, .inl (zF g)))) (ht : tys[t0]? = some (cA, .int)) (h0 : 0 ≤ i) (h1 : i < n) (hb : zB i) (d : decode cc pc = .ok (.iaload, 1))
    (kk : zW p l e R s m args below meth c nL D A cells slots Q ws (pc + 1) lv (.int (iZ (g i)) :: st)) : zW p l e R s m args below meth c nL D A cells slots Q ws pc lv (.int (iZ i) :: .ref a :: st) :=
  fun H locs ls hP hD hS hv => va_iald X.1 X.2.1 X.2.2.2.2.2.1 hP q0 t0 ha ht (iZ_in h0 h1 hb) d (by rw [zF_at g h0 hb]; exact kk H locs ls hP hD hS hv)
theorem z_zald (X : zC p s m args c cc nL own Ts D tys A) {a : Nat} (q0 t0 : Nat) {cA : ClassId} {n : Nat} {g : Int → Int} {i : Int} (ha : ws[q0]? = some (a, .inl (cA, n, .inl (zF g)))) (ht : tys[t0]? = some (cA, .boolean)) (h0 : 0 ≤ i) (h1 : i < n) (hb : zB i) (d : decode cc pc = .ok (.baload, 1))
    (kk : zW p l e R s m args below meth c nL D A cells slots Q ws (pc + 1) lv (.int (iZ (g i)) :: st)) : zW p l e R s m args below meth c nL D A cells slots Q ws pc lv (.int (iZ i) :: .ref a :: st) :=
  fun H locs ls hP hD hS hv => va_zald X.1 X.2.1 X.2.2.2.2.2.1 hP q0 t0 ha ht (iZ_in h0 h1 hb) d (by rw [zF_at g h0 hb]; exact kk H locs ls hP hD hS hv)
theorem z_iast (X : zC p s m args c cc nL own Ts D tys A) {a : Nat} (q0 t0 : Nat) {cA : ClassId} {n : Nat} {g : Int → Int} {i x : Int} (ws' : va_W) (ha : ws[q0]? = some (a, .inl (cA, n, .inl (zF g)))) (ht : tys[t0]? = some (cA, .int)) (h0 : 0 ≤ i) (h1 : i < n) (hb : zB i) (hw : ws.set q0 (a, .inl (cA, n, .inl (zF (updZ g i x)))) = ws') (d : decode cc pc = .ok (.iastore, 1))
    (kk : zW p l e R s m args below meth c nL D A cells slots Q ws' (pc + 1) lv st) : zW p l e R s m args below meth c nL D A cells slots Q ws pc lv (.int (iZ x) :: .int (iZ i) :: .ref a :: st) :=
  fun H locs ls hP hD hS hv => va_iast X.1 X.2.1 X.2.2.2.2.2.1 hP hD hS q0 t0 ha ht (iZ_in h0 h1 hb) d (fun H1 locs1 hP1 hD1 hS1 => by
    rw [zF_upd g x h0 hb, hw] at hP1 hD1
    exact kk H1 locs1 ls hP1 hD1 hS1 hv)
theorem zn_bool {x : Int} (h : x = 0 ∨ x = 1) : vp_nar .boolean (iZ x) = iZ x := by
  rcases h with rfl | rfl <;> decide
theorem z_zast (X : zC p s m args c cc nL own Ts D tys A) {a : Nat} (q0 t0 : Nat) {cA : ClassId} {n : Nat} {g : Int → Int} {i x : Int} (ws' : va_W) (ha : ws[q0]? = some (a, .inl (cA, n, .inl (zF g)))) (ht : tys[t0]? = some (cA, .boolean)) (h0 : 0 ≤ i) (h1 : i < n) (hb : zB i) (hx : x = 0 ∨ x = 1) (hw : ws.set q0 (a, .inl (cA, n, .inl (zF (updZ g i x)))) = ws') (d : decode cc pc = .ok (.bastore, 1))
    (kk : zW p l e R s m args below meth c nL D A cells slots Q ws' (pc + 1) lv st) : zW p l e R s m args below meth c nL D A cells slots Q ws pc lv (.int (iZ x) :: .int (iZ i) :: .ref a :: st) :=
  fun H locs ls hP hD hS hv => va_zast X.1 X.2.1 X.2.2.2.2.2.1 hP hD hS q0 t0 ha ht (iZ_in h0 h1 hb) d (fun H1 locs1 hP1 hD1 hS1 => by
    rw [zn_bool hx, zF_upd g x h0 hb, hw] at hP1 hD1
    exact kk H1 locs1 ls hP1 hD1 hS1 hv)
theorem z_get (X : zC p s m args c cc nL own Ts D tys A) {C rf nm ds : String} {T : u_T} {N index a : Nat} {fs : List Value} {v : Value} (ci q0 k : Nat) (hin : ∀ w ∈ u_ws C T N, w ∈ Ts) (he : ws[q0]? = some (a, .inr (ci, fs))) (hc : vwCl[ci]? = some (C, T, N)) (hk : k < N) (hT : (T k).1 = rf ∧ (T k).2.1 = nm ∧ (T k).2.2.1 = ds) (hlink : Cond.fieldLink own index rf nm ds ∈ Ts) (hv : fs[k]? = some v) (d : decode cc pc = .ok (.getfield index, 3))
    (kk : zW p l e R s m args below meth c nL D A cells slots Q ws (pc + 3) lv (v :: st)) : zW p l e R s m args below meth c nL D A cells slots Q ws pc lv (.ref a :: st) := by
  obtain ⟨rfl, rfl, rfl⟩ := hT
  exact fun H locs ls hP hD hS hw => va_get X.1 X.2.1 X.2.2.2.2.1 hin X.2.2.2.1 X.2.2.2.2.2.1 hP q0 he hc k hk (X.2.2.2.2.1 _ hlink) (fun _ h9 => h9) hv d (kk H locs ls hP hD hS hw)
theorem z_getN (X : zC p s m args c cc nL own Ts D tys A) {C rf nm ds host : String} {T : u_T} {N index a : Nat} {fs : List Value} {v : Value} (ci q0 k : Nat) (hin : ∀ w ∈ u_ws C T N, w ∈ Ts) (he : ws[q0]? = some (a, .inr (ci, fs))) (hc : vwCl[ci]? = some (C, T, N)) (hk : k < N) (hT : (T k).1 = rf ∧ (T k).2.1 = nm ∧ (T k).2.2.1 = ds) (hlink : va_Nw (.fieldLinkNest own index rf nm ds host) s) (hv : fs[k]? = some v) (d : decode cc pc = .ok (.getfield index, 3))
    (kk : zW p l e R s m args below meth c nL D A cells slots Q ws (pc + 3) lv (v :: st)) : zW p l e R s m args below meth c nL D A cells slots Q ws pc lv (.ref a :: st) := by
  obtain ⟨rfl, rfl, rfl⟩ := hT
  exact fun H locs ls hP hD hS hw => va_getN X.1 X.2.1 X.2.2.2.2.1 hin X.2.2.2.1 X.2.2.2.2.2.1 hP q0 he hc k hk (va_Nw.use rfl hlink) (fun _ h9 => h9) hv d (kk H locs ls hP hD hS hw)
theorem z_put (X : zC p s m args c cc nL own Ts D tys A) {C rf nm ds : String} {T : u_T} {N index a : Nat} {fs : List Value} {v : Value} {ty : FieldType} (ty0 : Nat → FieldType) (ci q0 k : Nat) (ws' : va_W) (hty : ∀ k, k < N → parseFieldDescriptor (T k).2.2.1 = some (ty0 k)) (hnm : ∀ a, a < N → ∀ b, b < N → a ≠ b → (T a).2.1 ≠ (T b).2.1) (hin : ∀ w ∈ u_ws C T N, w ∈ Ts) (he : ws[q0]? = some (a, .inr (ci, fs))) (hc : vwCl[ci]? = some (C, T, N)) (hk : k < N) (hT : (T k).1 = rf ∧ (T k).2.1 = nm ∧ (T k).2.2.1 = ds ∧ (T k).2.2.2 = false) (hlink : Cond.fieldLink own index rf nm ds ∈ Ts) (hd : ty0 k = ty) (hn : narrow ty v = v) (hfit : fits ty v = true) (hl : k < fs.length) (hw : ws.set q0 (a, .inr (ci, fs.set k v)) = ws') (d : decode cc pc = .ok (.putfield index, 3))
    (kk : zW p l e R s m args below meth c nL D A cells slots Q ws' (pc + 3) lv st) : zW p l e R s m args below meth c nL D A cells slots Q ws pc lv (v :: .ref a :: st) := by
  obtain ⟨rfl, rfl, rfl, hf⟩ := hT
  subst hw
  exact fun H locs ls hP hD hS hw => va_put X.1 X.2.1 X.2.2.2.2.1 hin ty0 hty hnm X.2.2.2.1 X.2.2.2.2.2.1 hP hD hS q0 he hc k hk (X.2.2.2.2.1 _ hlink) (fun _ h9 => h9) hf (by rw [hty k hk, hd]) hn hfit hl d (fun H1 locs1 hP1 hD1 hS1 => kk H1 locs1 ls hP1 hD1 hS1 hw)
theorem z_putF (X : zC p s m args c cc nL own Ts D tys A) {C rf nm ds : String} {T : u_T} {N index a : Nat} {fs : List Value} {v : Value} {ty : FieldType} (ty0 : Nat → FieldType) (ci q0 k : Nat) (ws' : va_W) (hty : ∀ k, k < N → parseFieldDescriptor (T k).2.2.1 = some (ty0 k)) (hnm : ∀ a, a < N → ∀ b, b < N → a ≠ b → (T a).2.1 ≠ (T b).2.1) (hin : ∀ w ∈ u_ws C T N, w ∈ Ts) (he : ws[q0]? = some (a, .inr (ci, fs))) (hc : vwCl[ci]? = some (C, T, N)) (hk : k < N) (hT : (T k).1 = rf ∧ (T k).2.1 = nm ∧ (T k).2.2.1 = ds ∧ (T k).2.2.2 = true) (hin2 : meth.name = "<init>") (hdecl : rf = own) (hlink : Cond.fieldLink own index rf nm ds ∈ Ts) (hd : ty0 k = ty) (hn : narrow ty v = v) (hfit : fits ty v = true) (hl : k < fs.length) (hw : ws.set q0 (a, .inr (ci, fs.set k v)) = ws') (d : decode cc pc = .ok (.putfield index, 3))
    (kk : zW p l e R s m args below meth c nL D A cells slots Q ws' (pc + 3) lv st) : zW p l e R s m args below meth c nL D A cells slots Q ws pc lv (v :: .ref a :: st) := by
  obtain ⟨rfl, rfl, rfl, hf⟩ := hT
  subst hw
  exact fun H locs ls hP hD hS hw => va_putF X.1 X.2.1 X.2.2.2.2.1 hin ty0 hty hnm X.2.2.2.1 X.2.2.2.2.2.1 hP hD hS q0 he hc k hk (X.2.2.2.2.1 _ hlink) (fun _ h9 => h9) hf hin2 hdecl (by rw [hty k hk, hd]) hn hfit hl d (fun H1 locs1 hP1 hD1 hS1 => kk H1 locs1 ls hP1 hD1 hS1 hw)
/-! Math.min, max, abs -/
theorem z_min (X : zC p s m args c cc nL own Ts D tys A) {a b : Int} {index : Nat} (ha : zB a) (hb : zB b) (h1 : Cond.methodLink own index Lib.Math.min.name ∈ Ts) (h2 : Cond.static Lib.Math.min.name ∈ Ts) (h3 : Cond.initialized "java/lang/Math" ∈ Ts) (h4 : Cond.code Lib.Math.min.name Lib.Math.min.code 2 (some .int) ∈ Ts) (hR : 1 ≤ R.frames ∧ (st.map fun v => v.category).sum + 13 ≤ R.locals ∧ cells ≤ R.cells ∧ slots ≤ R.slots) (d : decode cc pc = .ok (.invokestatic index, 3))
    (kk : zW p l e R s m args below meth c nL D A cells slots Q ws (pc + 3) lv (.int (iZ (zmin a b)) :: st)) : zW p l e R s m args below meth c nL D A cells slots Q ws pc lv (.int (iZ b) :: .int (iZ a) :: st) :=
  fun H locs ls hP hD hS hv => va_mmin X.1 X.2.1 (X.2.2.1.trans hv.1.symm) X.2.2.2.1 (X.2.2.2.2.1 _ h1) (X.2.2.2.2.1 _ h2) (X.2.2.2.2.1 _ h3) (X.2.2.2.2.1 _ h4) hR.1 hR.2.1 hR.2.2.1 hR.2.2.2 d (by
    have h := kk H locs ls hP hD hS hv
    unfold zmin at h
    by_cases q : b < a
    · rw [if_pos ((iZ_lt hb ha).mpr q)]; rw [if_pos q] at h; exact h
    · rw [if_neg (fun z => q ((iZ_lt hb ha).mp z))]; rw [if_neg q] at h; exact h)
theorem z_max (X : zC p s m args c cc nL own Ts D tys A) {a b : Int} {index : Nat} (ha : zB a) (hb : zB b) (h1 : Cond.methodLink own index Lib.Math.max.name ∈ Ts) (h2 : Cond.static Lib.Math.max.name ∈ Ts) (h3 : Cond.initialized "java/lang/Math" ∈ Ts) (h4 : Cond.code Lib.Math.max.name Lib.Math.max.code 2 (some .int) ∈ Ts) (hR : 1 ≤ R.frames ∧ (st.map fun v => v.category).sum + 13 ≤ R.locals ∧ cells ≤ R.cells ∧ slots ≤ R.slots) (d : decode cc pc = .ok (.invokestatic index, 3))
    (kk : zW p l e R s m args below meth c nL D A cells slots Q ws (pc + 3) lv (.int (iZ (zmax a b)) :: st)) : zW p l e R s m args below meth c nL D A cells slots Q ws pc lv (.int (iZ b) :: .int (iZ a) :: st) :=
  fun H locs ls hP hD hS hv => va_mmax X.1 X.2.1 (X.2.2.1.trans hv.1.symm) X.2.2.2.1 (X.2.2.2.2.1 _ h1) (X.2.2.2.2.1 _ h2) (X.2.2.2.2.1 _ h3) (X.2.2.2.2.1 _ h4) hR.1 hR.2.1 hR.2.2.1 hR.2.2.2 d (by
    have h := kk H locs ls hP hD hS hv
    unfold zmax at h
    by_cases q : a < b
    · rw [if_pos ((iZ_lt ha hb).mpr q)]; rw [if_pos q] at h; exact h
    · rw [if_neg (fun z => q ((iZ_lt ha hb).mp z))]; rw [if_neg q] at h; exact h)
theorem z_abs (X : zC p s m args c cc nL own Ts D tys A) {a : Int} {index : Nat} (ha : zB a) (h1 : Cond.methodLink own index Lib.Math.abs.name ∈ Ts) (h2 : Cond.static Lib.Math.abs.name ∈ Ts) (h3 : Cond.initialized "java/lang/Math" ∈ Ts) (h4 : Cond.code Lib.Math.abs.name Lib.Math.abs.code 1 (some .int) ∈ Ts) (hR : 1 ≤ R.frames ∧ (st.map fun v => v.category).sum + 13 ≤ R.locals ∧ cells ≤ R.cells ∧ slots ≤ R.slots) (d : decode cc pc = .ok (.invokestatic index, 3))
    (kk : zW p l e R s m args below meth c nL D A cells slots Q ws (pc + 3) lv (.int (iZ (zabs a)) :: st)) : zW p l e R s m args below meth c nL D A cells slots Q ws pc lv (.int (iZ a) :: st) :=
  fun H locs ls hP hD hS hv => va_mabs X.1 X.2.1 (X.2.2.1.trans hv.1.symm) X.2.2.2.1 (X.2.2.2.2.1 _ h1) (X.2.2.2.2.1 _ h2) (X.2.2.2.2.1 _ h3) (X.2.2.2.2.1 _ h4) hR.1 hR.2.1 hR.2.2.1 hR.2.2.2 d (by
    have h := kk H locs ls hP hD hS hv
    unfold zabs at h
    by_cases q : 0 ≤ a
    · rw [if_pos (by rw [← iZ_0, iZ_le zB_0 ha]; exact q)]; rw [if_pos q] at h; exact h
    · rw [if_neg (by rw [← iZ_0, iZ_le zB_0 ha]; exact q), ← iZ_0, iZ_sub]; rw [if_neg q] at h; exact h)
/-! contracts: a start in a world, an end in a world -/
def zPre (D : va_G) (tys : List (ClassId × FieldType)) (wc : va_W) (av : List Value) (sz : Nat) : Array Value → State → Prop := va_Pc av (fun U => U.heap.size = sz ∧ va_P D vwCl wc U.heap ∧ va_K D vwCl tys U ∧ va_D (fun _ => True) wc ∧ zG U ∧ zH (va_A wc sz) U U.heap)
def zEnd (D : va_G) (tys : List (ClassId × FieldType)) (wc : va_W) (A : Nat → Prop) : Unit → State → Prop := fun _ t => va_P D vwCl wc t.heap ∧ va_K D vwCl tys t ∧ va_D A wc
def zPi (D : va_G) (tys : List (ClassId × FieldType)) (wc : va_W) (r : Int) (A : Nat → Prop) : Array Value → State → Outcome → State → Prop := va_Qi (fun (x : Int32) (_ : Unit) => x = iZ r) (zEnd D tys wc A) A
def zPv (D : va_G) (tys : List (ClassId × FieldType)) (wc : va_W) (A : Nat → Prop) : Array Value → State → Outcome → State → Prop := va_Qv (fun (_ : Unit) => True) (zEnd D tys wc A) A
def zMi (l : Launch) (D : va_G) (tys : List (ClassId × FieldType)) (y : MethodName) (wsm : List Cond) (rm : Room) (wc : va_W) (av : List Value) (r : Int) (wc' : va_W) (mc ms : Nat) : Prop := ∀ sz : Nat, Met l y wsm rm (zPre D tys wc av sz) (zPi D tys wc' r (va_A wc sz)) mc ms (va_A wc sz)
def zMv (l : Launch) (D : va_G) (tys : List (ClassId × FieldType)) (y : MethodName) (wsm : List Cond) (rm : Room) (wc : va_W) (av : List Value) (wc' : va_W) (mc ms : Nat) : Prop := ∀ sz : Nat, Met l y wsm rm (zPre D tys wc av sz) (zPv D tys wc' (va_A wc sz)) mc ms (va_A wc sz)
theorem zPre_blind {wc : va_W} {av : List Value} {sz : Nat} : FrameBlind (zPre D tys wc av sz) := fun a U g mk q => by
  obtain ⟨q0, q1, qP, qK, qD, qG, qH⟩ := q
  exact ⟨q0, q1, qP, va_K.moved (u := U) (U := U.calling g mk a) (Vm.Alike.refl U.vm) qK, qD, zG.same (s := U) (U := U.calling g mk a) rfl qG, zH.to (s := U) (U := U.calling g mk a) qH (fun _ _ _ => rfl) (Vm.Alike.refl U.vm) (fun _ h => h)⟩
theorem va_D.left {A : Nat → Prop} {w1 w2 : va_W} (h : va_D A (w1 ++ w2)) : va_D A w1 := by
  have up : ∀ (i : Nat) (p : Nat × va_E), w1[i]? = some p → (w1 ++ w2)[i]? = some p := fun i p hi => by
    rw [List.getElem?_append_left (List.getElem?_eq_some_iff.mp hi).1]; exact hi
  exact ⟨fun i j p q hi hj e => h.1 i j p q (up i p hi) (up j q hj) e, fun k q hk => h.2 k q (up k q hk)⟩
theorem va_D.right {A : Nat → Prop} {w1 w2 : va_W} (h : va_D A (w1 ++ w2)) : va_D A w2 := by
  have up : ∀ (i : Nat) (p : Nat × va_E), w2[i]? = some p → (w1 ++ w2)[w1.length + i]? = some p := fun i p hi => by
    rw [List.getElem?_append_right (Nat.le_add_right _ _), Nat.add_sub_cancel_left]; exact hi
  exact ⟨fun i j p q hi hj e => by have := h.1 _ _ p q (up i p hi) (up j q hj) e; omega, fun k q hk => h.2 _ q (up k q hk)⟩
theorem va_D.cross {A : Nat → Prop} {w1 w2 : va_W} (h : va_D A (w1 ++ w2)) : ∀ (i j : Nat) (p q : Nat × va_E), w1[i]? = some p → w2[j]? = some q → p.1 ≠ q.1 := by
  intro i j p q hi hj e
  have h1 := (List.getElem?_eq_some_iff.mp hi).1
  have := h.1 i (w1.length + j) p q (by rw [List.getElem?_append_left h1]; exact hi) (by rw [List.getElem?_append_right (Nat.le_add_right _ _), Nat.add_sub_cancel_left]; exact hj) e
  omega
theorem va_P.left {D : va_G} {w1 w2 : va_W} {H : Heap} (h : va_P D vwCl (w1 ++ w2) H) : va_P D vwCl w1 H := fun k q hk => h k q (by
    rw [List.getElem?_append_left (List.getElem?_eq_some_iff.mp hk).1]; exact hk)
theorem va_P.right {D : va_G} {w1 w2 : va_W} {H : Heap} (h : va_P D vwCl (w1 ++ w2) H) : va_P D vwCl w2 H := fun k q hk => h (w1.length + k) q (by
    rw [List.getElem?_append_right (Nat.le_add_right _ _), Nat.add_sub_cancel_left]; exact hk)
theorem z_join {A0 : Nat → Prop} {D : va_G} {w1 wc wc' w2 : va_W} {H H1 : Heap} (hP : va_P D vwCl (w1 ++ (wc ++ w2)) H) (hD : va_D A0 (w1 ++ (wc ++ w2))) (hk : ∀ q : Nat, q < H.size → ¬ va_A wc H.size q → H1[q]? = H[q]?) (hF : ∀ q, va_A wc H.size q → A0 q) (hP1 : va_P D vwCl wc' H1) (hD1 : va_D (va_A wc H.size) wc') : va_P D vwCl (w1 ++ (wc' ++ w2)) H1 ∧ va_D A0 (w1 ++ (wc' ++ w2)) := by
  have hPr := hP.right
  have hDr := hD.right
  have n1 : ∀ (i : Nat) (x : Nat × va_E), w1[i]? = some x → x.1 < H.size ∧ ¬ va_A wc H.size x.1 := by
    intro i x hx
    have hl := (hP.left i x hx).lt
    refine ⟨hl, fun h => ?_⟩
    rcases h with ⟨k, e, hk⟩ | h
    · exact hD.cross i k x (x.1, e) hx (by rw [List.getElem?_append_left (List.getElem?_eq_some_iff.mp hk).1]; exact hk) rfl
    · omega
  have n2 : ∀ (i : Nat) (x : Nat × va_E), w2[i]? = some x → x.1 < H.size ∧ ¬ va_A wc H.size x.1 := by
    intro i x hx
    have hl := (hPr.right i x hx).lt
    refine ⟨hl, fun h => ?_⟩
    rcases h with ⟨k, e, hk⟩ | h
    · exact hDr.cross k i (x.1, e) x hk hx rfl
    · omega
  have k1 : va_P D vwCl w1 H1 := fun i x hx => (hP.left i x hx).kept (hk x.1 (n1 i x hx).1 (n1 i x hx).2)
  have k2 : va_P D vwCl w2 H1 := fun i x hx => (hPr.right i x hx).kept (hk x.1 (n2 i x hx).1 (n2 i x hx).2)
  refine ⟨k1.app (hP1.app k2), hD.left.app ((hD1.weaken (fun k q _ h => hF q.1 h)).app hDr.right (fun i j x y hx hy e => ?_)) (fun i j x y hx hy e => ?_)⟩
  · exact (n2 j y hy).2 (by rw [← e]; exact hD1.2 i x hx)
  · by_cases hj : j < wc'.length
    · rw [List.getElem?_append_left hj] at hy
      exact (n1 i x hx).2 (by rw [e]; exact hD1.2 j y hy)
    · rw [List.getElem?_append_right (by omega)] at hy
      exact hD.cross i (wc.length + (j - wc'.length)) x y hx (by rw [List.getElem?_append_right (Nat.le_add_right _ _), Nat.add_sub_cancel_left]; exact hy) e
theorem z_free {A0 : Nat → Prop} {w1 wc w2 : va_W} {H0 H : Heap} {locs : List Loc} (hD : va_D A0 (w1 ++ (wc ++ w2))) (hS : va_S A0 H0 H locs) (hA : ∀ q, H0.size ≤ q → A0 q) : ∀ q, va_A wc H.size q → A0 q := by
  intro q h
  rcases h with ⟨k, e, h⟩ | h
  · exact hD.right.left.2 k (q, e) h
  · exact hA q (Nat.le_trans hS.1 h)
section Calls
variable {y : MethodName} {bytes : ByteArray} {maxL index n mc ms : Nat} {rm : Room} {wsm : List Cond} {wc wc' w1 w2 : va_W} {b : Nat} {As : List Value} {r : Int} {C : String} {T : u_T} {N : Nat} {fs : List Value} {ret : Option FieldType}
theorem z_calli (X : zC p s m args c cc nL own Ts D tys A) (hM : zMi l D tys y wsm rm wc (.ref b :: As) r wc' mc ms) (cw : CallW R s args own C index y bytes maxL ret wsm rm mc ms n) (hn : As.length = n) (w1 w2 : va_W) (hseg : ws = w1 ++ (wc ++ w2)) (ci q0 : Nat) (hci : vwCl[ci]? = some (C, T, N)) (he : ws[q0]? = some (b, .inr (ci, fs))) (rest : List Value) (hst : st = As.reverse ++ .ref b :: rest) (hcat : (rest.map fun v => v.category).sum ≤ 8) (d : decode cc pc = .ok (.invokevirtual index, 3)) (hf : cells + mc ≤ R.cells ∧ slots + ms ≤ R.slots) (hw : w1 ++ (wc' ++ w2) = ws')
    (kk : zW p l e R s m args below meth c nL D A (cells + mc) (slots + ms) Q ws' (pc + 3) lv (.int (iZ r) :: rest)) : zW p l e R s m args below meth c nL D A cells slots Q ws pc lv st := by
  intro H locs ls hP hD hS hv
  have hrec := va_recv X.2.2.2.2.2.1 hP hci he
  subst hseg
  have hPc : va_P D vwCl wc H := hP.right.left
  have hDc : va_D A wc := hD.right.left
  have hF := z_free hD hS X.2.2.2.2.2.2.1
  refine va_calli (va_runV (As := As) (rest := rest) (z_fix X) (hM H.size) cw ⟨zPre_blind, hrec, fun U hU hW => ⟨rfl, by rw [hU], by rw [hU]; exact hPc, va_K.moved hW.alike X.2.2.2.2.2.1, hDc.weaken (fun _ _ _ _ => trivial), X.2.2.2.2.2.2.2.1.warm hW, by rw [hU]; exact X.2.2.2.2.2.2.2.2.to hS.2.1 hW.alike hF⟩⟩ rfl hn hv.1 hst (lv_room hcat) d hf) hS (fun q _ h => hF q h) hF (fun r9 u t H1 locs1 ht hvm hr9 hB hz1 hk1 hS1 => ?_)
  obtain ⟨hP1, hK1, hD1⟩ := hB
  rw [ht] at hP1
  obtain ⟨hP2, hD2⟩ := z_join hP hD hk1 hF hP1 hD1
  subst hw
  rw [hr9]
  exact kk H1 locs1 ls hP2 hD2 hS1 hv
theorem z_callv (X : zC p s m args c cc nL own Ts D tys A) (hM : zMv l D tys y wsm rm wc (.ref b :: As) wc' mc ms) (cw : CallW R s args own C index y bytes maxL ret wsm rm mc ms n) (hn : As.length = n) (w1 w2 : va_W) (hseg : ws = w1 ++ (wc ++ w2)) (ci q0 : Nat) (hci : vwCl[ci]? = some (C, T, N)) (he : ws[q0]? = some (b, .inr (ci, fs))) (rest : List Value) (hst : st = As.reverse ++ .ref b :: rest) (hcat : (rest.map fun v => v.category).sum ≤ 8) (d : decode cc pc = .ok (.invokevirtual index, 3)) (hf : cells + mc ≤ R.cells ∧ slots + ms ≤ R.slots) (hw : w1 ++ (wc' ++ w2) = ws')
    (kk : zW p l e R s m args below meth c nL D A (cells + mc) (slots + ms) Q ws' (pc + 3) lv rest) : zW p l e R s m args below meth c nL D A cells slots Q ws pc lv st := by
  intro H locs ls hP hD hS hv
  have hrec := va_recv X.2.2.2.2.2.1 hP hci he
  subst hseg
  have hPc : va_P D vwCl wc H := hP.right.left
  have hDc : va_D A wc := hD.right.left
  have hF := z_free hD hS X.2.2.2.2.2.2.1
  refine va_callv (va_runV (As := As) (rest := rest) (z_fix X) (hM H.size) cw ⟨zPre_blind, hrec, fun U hU hW => ⟨rfl, by rw [hU], by rw [hU]; exact hPc, va_K.moved hW.alike X.2.2.2.2.2.1, hDc.weaken (fun _ _ _ _ => trivial), X.2.2.2.2.2.2.2.1.warm hW, by rw [hU]; exact X.2.2.2.2.2.2.2.2.to hS.2.1 hW.alike hF⟩⟩ rfl hn hv.1 hst (lv_room hcat) d hf) hS (fun q _ h => hF q h) hF (fun u t H1 locs1 ht hvm hr9 hB hz1 hk1 hS1 => ?_)
  obtain ⟨hP1, hK1, hD1⟩ := hB
  rw [ht] at hP1
  obtain ⟨hP2, hD2⟩ := z_join hP hD hk1 hF hP1 hD1
  subst hw
  exact kk H1 locs1 ls hP2 hD2 hS1 hv
theorem z_callis (X : zC p s m args c cc nL own Ts D tys A) (hM : zMi l D tys y wsm rm wc As r wc' mc ms) (cw : CallB R s args own index y bytes maxL ret wsm rm mc ms n ∧ (Cond.static y).before args s = true) (hn : As.length = n) (w1 w2 : va_W) (hseg : ws = w1 ++ (wc ++ w2)) (rest : List Value) (hst : st = As.reverse ++ rest) (hcat : (rest.map fun v => v.category).sum ≤ 8) (d : decode cc pc = .ok (.invokestatic index, 3)) (hf : cells + mc ≤ R.cells ∧ slots + ms ≤ R.slots) (hw : w1 ++ (wc' ++ w2) = ws')
    (kk : zW p l e R s m args below meth c nL D A (cells + mc) (slots + ms) Q ws' (pc + 3) lv (.int (iZ r) :: rest)) : zW p l e R s m args below meth c nL D A cells slots Q ws pc lv st := by
  intro H locs ls hP hD hS hv
  subst hseg
  have hPc : va_P D vwCl wc H := hP.right.left
  have hDc : va_D A wc := hD.right.left
  have hF := z_free hD hS X.2.2.2.2.2.2.1
  refine va_calli (va_runS (As := As) (rest := rest) (z_fix X) (hM H.size) cw ⟨zPre_blind, fun U hU hW => ⟨rfl, by rw [hU], by rw [hU]; exact hPc, va_K.moved hW.alike X.2.2.2.2.2.1, hDc.weaken (fun _ _ _ _ => trivial), X.2.2.2.2.2.2.2.1.warm hW, by rw [hU]; exact X.2.2.2.2.2.2.2.2.to hS.2.1 hW.alike hF⟩⟩ rfl hn hv.1 hst (lv_room hcat) d hf) hS (fun q _ h => hF q h) hF (fun r9 u t H1 locs1 ht hvm hr9 hB hz1 hk1 hS1 => ?_)
  obtain ⟨hP1, hK1, hD1⟩ := hB
  rw [ht] at hP1
  obtain ⟨hP2, hD2⟩ := z_join hP hD hk1 hF hP1 hD1
  subst hw
  rw [hr9]
  exact kk H1 locs1 ls hP2 hD2 hS1 hv
theorem z_callvs (X : zC p s m args c cc nL own Ts D tys A) (hM : zMv l D tys y wsm rm wc As wc' mc ms) (cw : CallB R s args own index y bytes maxL ret wsm rm mc ms n ∧ (Cond.static y).before args s = true) (hn : As.length = n) (w1 w2 : va_W) (hseg : ws = w1 ++ (wc ++ w2)) (rest : List Value) (hst : st = As.reverse ++ rest) (hcat : (rest.map fun v => v.category).sum ≤ 8) (d : decode cc pc = .ok (.invokestatic index, 3)) (hf : cells + mc ≤ R.cells ∧ slots + ms ≤ R.slots) (hw : w1 ++ (wc' ++ w2) = ws')
    (kk : zW p l e R s m args below meth c nL D A (cells + mc) (slots + ms) Q ws' (pc + 3) lv rest) : zW p l e R s m args below meth c nL D A cells slots Q ws pc lv st := by
  intro H locs ls hP hD hS hv
  subst hseg
  have hPc : va_P D vwCl wc H := hP.right.left
  have hDc : va_D A wc := hD.right.left
  have hF := z_free hD hS X.2.2.2.2.2.2.1
  refine va_callv (va_runS (As := As) (rest := rest) (z_fix X) (hM H.size) cw ⟨zPre_blind, fun U hU hW => ⟨rfl, by rw [hU], by rw [hU]; exact hPc, va_K.moved hW.alike X.2.2.2.2.2.1, hDc.weaken (fun _ _ _ _ => trivial), X.2.2.2.2.2.2.2.1.warm hW, by rw [hU]; exact X.2.2.2.2.2.2.2.2.to hS.2.1 hW.alike hF⟩⟩ rfl hn hv.1 hst (lv_room hcat) d hf) hS (fun q _ h => hF q h) hF (fun u t H1 locs1 ht hvm hr9 hB hz1 hk1 hS1 => ?_)
  obtain ⟨hP1, hK1, hD1⟩ := hB
  rw [ht] at hP1
  obtain ⟨hP2, hD2⟩ := z_join hP hD hk1 hF hP1 hD1
  subst hw
  exact kk H1 locs1 ls hP2 hD2 hS1 hv
theorem z_callNi {host : String} (X : zC p s m args c cc nL own Ts D tys A) (hM : zMi l D tys y wsm rm wc (.ref b :: As) r wc' mc ms) (cw : va_CN R s args own index y host bytes maxL ret wsm rm mc ms n ∧ (Cond.instanceMethod y).before args s = true ∧ (Cond.selects C y y).before args s = true) (hn : As.length = n) (w1 w2 : va_W) (hseg : ws = w1 ++ (wc ++ w2)) (ci q0 : Nat) (hci : vwCl[ci]? = some (C, T, N)) (he : ws[q0]? = some (b, .inr (ci, fs))) (rest : List Value) (hst : st = As.reverse ++ .ref b :: rest) (hcat : (rest.map fun v => v.category).sum ≤ 8) (d : decode cc pc = .ok (.invokevirtual index, 3)) (hf : cells + mc ≤ R.cells ∧ slots + ms ≤ R.slots) (hw : w1 ++ (wc' ++ w2) = ws')
    (kk : zW p l e R s m args below meth c nL D A (cells + mc) (slots + ms) Q ws' (pc + 3) lv (.int (iZ r) :: rest)) : zW p l e R s m args below meth c nL D A cells slots Q ws pc lv st := by
  intro H locs ls hP hD hS hv
  have hrec := va_recv X.2.2.2.2.2.1 hP hci he
  subst hseg
  have hPc : va_P D vwCl wc H := hP.right.left
  have hDc : va_D A wc := hD.right.left
  have hF := z_free hD hS X.2.2.2.2.2.2.1
  refine va_calli (va_runVN (As := As) (rest := rest) (z_fix X) (hM H.size) cw ⟨zPre_blind, hrec, fun U hU hW => ⟨rfl, by rw [hU], by rw [hU]; exact hPc, va_K.moved hW.alike X.2.2.2.2.2.1, hDc.weaken (fun _ _ _ _ => trivial), X.2.2.2.2.2.2.2.1.warm hW, by rw [hU]; exact X.2.2.2.2.2.2.2.2.to hS.2.1 hW.alike hF⟩⟩ rfl hn hv.1 hst (lv_room hcat) d hf) hS (fun q _ h => hF q h) hF (fun r9 u t H1 locs1 ht hvm hr9 hB hz1 hk1 hS1 => ?_)
  obtain ⟨hP1, hK1, hD1⟩ := hB
  rw [ht] at hP1
  obtain ⟨hP2, hD2⟩ := z_join hP hD hk1 hF hP1 hD1
  subst hw
  rw [hr9]
  exact kk H1 locs1 ls hP2 hD2 hS1 hv
theorem z_callNv {host : String} (X : zC p s m args c cc nL own Ts D tys A) (hM : zMv l D tys y wsm rm wc (.ref b :: As) wc' mc ms) (cw : va_CN R s args own index y host bytes maxL ret wsm rm mc ms n ∧ (Cond.instanceMethod y).before args s = true ∧ (Cond.selects C y y).before args s = true) (hn : As.length = n) (w1 w2 : va_W) (hseg : ws = w1 ++ (wc ++ w2)) (ci q0 : Nat) (hci : vwCl[ci]? = some (C, T, N)) (he : ws[q0]? = some (b, .inr (ci, fs))) (rest : List Value) (hst : st = As.reverse ++ .ref b :: rest) (hcat : (rest.map fun v => v.category).sum ≤ 8) (d : decode cc pc = .ok (.invokevirtual index, 3)) (hf : cells + mc ≤ R.cells ∧ slots + ms ≤ R.slots) (hw : w1 ++ (wc' ++ w2) = ws')
    (kk : zW p l e R s m args below meth c nL D A (cells + mc) (slots + ms) Q ws' (pc + 3) lv rest) : zW p l e R s m args below meth c nL D A cells slots Q ws pc lv st := by
  intro H locs ls hP hD hS hv
  have hrec := va_recv X.2.2.2.2.2.1 hP hci he
  subst hseg
  have hPc : va_P D vwCl wc H := hP.right.left
  have hDc : va_D A wc := hD.right.left
  have hF := z_free hD hS X.2.2.2.2.2.2.1
  refine va_callv (va_runVN (As := As) (rest := rest) (z_fix X) (hM H.size) cw ⟨zPre_blind, hrec, fun U hU hW => ⟨rfl, by rw [hU], by rw [hU]; exact hPc, va_K.moved hW.alike X.2.2.2.2.2.1, hDc.weaken (fun _ _ _ _ => trivial), X.2.2.2.2.2.2.2.1.warm hW, by rw [hU]; exact X.2.2.2.2.2.2.2.2.to hS.2.1 hW.alike hF⟩⟩ rfl hn hv.1 hst (lv_room hcat) d hf) hS (fun q _ h => hF q h) hF (fun u t H1 locs1 ht hvm hr9 hB hz1 hk1 hS1 => ?_)
  obtain ⟨hP1, hK1, hD1⟩ := hB
  rw [ht] at hP1
  obtain ⟨hP2, hD2⟩ := z_join hP hD hk1 hF hP1 hD1
  subst hw
  exact kk H1 locs1 ls hP2 hD2 hS1 hv
end Calls
/-! ends of a method -/
theorem z_iret (X : zC p s m args c cc nL own Ts D tys A) (hr : meth.sig.returnType = some .int) (hlocks : meth.locks = false) {wc' : va_W} {r x : Int} (hx : x = r) (hw : ws = wc') (d : decode cc pc = .ok (.ireturn, 1)) : zW p l e R s m args below meth c nL D A cells slots (MQ below (zPi D tys wc' r A) args s cells slots A) ws pc lv [.int (iZ x)] := by
  subst hx; subst hw
  exact fun H locs ls hP hD hS hv => W.iret X.1 X.2.1 hr (fun t ht hW => ⟨⟨iZ x, (), rfl, rfl, by rw [ht]; exact hP, va_K.moved hW.alike X.2.2.2.2.2.1, hD⟩, hS.F ht⟩) hS.2.2 d hlocks
theorem z_zret (X : zC p s m args c cc nL own Ts D tys A) (hr : meth.sig.returnType = some .boolean) (hlocks : meth.locks = false) {wc' : va_W} {r x : Int} (h01 : x = 0 ∨ x = 1) (hx : x = r) (hw : ws = wc') (d : decode cc pc = .ok (.ireturn, 1)) : zW p l e R s m args below meth c nL D A cells slots (MQ below (zPi D tys wc' r A) args s cells slots A) ws pc lv [.int (iZ x)] := by
  subst hx; subst hw
  exact fun H locs ls hP hD hS hv => W.zret X.1 X.2.1 hr (by rcases h01 with rfl | rfl <;> rfl) (fun t ht hW => ⟨⟨iZ x, (), rfl, rfl, by rw [ht]; exact hP, va_K.moved hW.alike X.2.2.2.2.2.1, hD⟩, hS.F ht⟩) hS.2.2 d hlocks
theorem z_vret (X : zC p s m args c cc nL own Ts D tys A) (hr : meth.sig.returnType = none) (hlocks : meth.locks = false) {wc' : va_W} (hw : ws = wc') (d : decode cc pc = .ok (.return_, 1)) : zW p l e R s m args below meth c nL D A cells slots (MQ below (zPv D tys wc' A) args s cells slots A) ws pc lv [] := by
  subst hw
  exact fun H locs ls hP hD hS hv => W.vret X.1 X.2.1 hr (fun t ht hW => ⟨⟨(), rfl, trivial, by rw [ht]; exact hP, va_K.moved hW.alike X.2.2.2.2.2.1, hD⟩, hS.F ht⟩) hS.2.2 d hlocks
end ZK
/-! bodies -/
theorem z_body {l : Launch} {y : MethodName} {ws ws' : List Cond} {rm : Room} {D : va_G} {tys : List (ClassId × FieldType)} {wc : va_W} {av : List Value} {Qc : (Nat → Prop) → Array Value → State → Outcome → State → Prop} {mc ms : Nat} {cc : ByteArray} {maxL : Nat} {ret : Option FieldType} (hy : plainName y.cls = true) (hw : ws = Cond.code y cc maxL ret :: ws') (hlen : (lg_sl av).length ≤ maxL)
    (body : ∀ (p : Program) (e : Env) (s : State) (m : MethodId) (below : List Frame) (meth : Method) (c : Code) (A : Nat → Prop), zC p s m av.toArray c cc maxL y.cls ws D tys A → meth.sig.returnType = ret → meth.locks = false → (y.name = "<init>" → meth.name = "<init>") → zW p l e rm s m av.toArray below meth c maxL D A 0 0 (MQ below (Qc A) av.toArray s mc ms A) wc 0 (lv_args 0 av) []) (sz : Nat) : Met l y ws rm (zPre D tys wc av sz) (Qc (va_A wc sz)) mc ms (va_A wc sz) := by
  refine Met.ofW (cc := cc) (maxL := maxL) (ret := ret) hy hw ?_
  intro p e s m args below meth c s₁ B hml hv
  obtain ⟨rfl, hsz, hP, hK, hD0, hG, hH⟩ := hv
  subst hsz
  have hA : ∀ q : Nat, s.heap.size ≤ q → va_A wc s.heap.size q := fun q h => Or.inr h
  have h := body p e s m below meth c (va_A wc s.heap.size) ⟨B.exec, B.bytes, hml, findClass_of_methodNamed B.named, atoms_spec (ws := ws) B.pre, hK, hA, hG, hH⟩ B.returns B.notSynchronized (fun hy => ((name_of_methodNamed B.named B.method).1).trans hy)
  have hl := lv_entry av hlen
  rw [lg_entry_eq]
  exact h s.heap [] _ hP hD0.self va_S.rf hl
theorem z_mi {l : Launch} {y : MethodName} {ws ws' : List Cond} {rm : Room} {D : va_G} {tys : List (ClassId × FieldType)} {wc wc' : va_W} {av : List Value} {r : Int} {mc ms : Nat} {cc : ByteArray} {maxL : Nat} {ret : Option FieldType} (hy : plainName y.cls = true) (hw : ws = Cond.code y cc maxL ret :: ws') (hlen : (lg_sl av).length ≤ maxL)
    (body : ∀ (p : Program) (e : Env) (s : State) (m : MethodId) (below : List Frame) (meth : Method) (c : Code) (A : Nat → Prop), zC p s m av.toArray c cc maxL y.cls ws D tys A → meth.sig.returnType = ret → meth.locks = false → (y.name = "<init>" → meth.name = "<init>") → zW p l e rm s m av.toArray below meth c maxL D A 0 0 (MQ below (zPi D tys wc' r A) av.toArray s mc ms A) wc 0 (lv_args 0 av) []) : zMi l D tys y ws rm wc av r wc' mc ms :=
  fun sz => z_body (Qc := fun A => zPi D tys wc' r A) hy hw hlen body sz
theorem z_mv {l : Launch} {y : MethodName} {ws ws' : List Cond} {rm : Room} {D : va_G} {tys : List (ClassId × FieldType)} {wc wc' : va_W} {av : List Value} {mc ms : Nat} {cc : ByteArray} {maxL : Nat} {ret : Option FieldType} (hy : plainName y.cls = true) (hw : ws = Cond.code y cc maxL ret :: ws') (hlen : (lg_sl av).length ≤ maxL)
    (body : ∀ (p : Program) (e : Env) (s : State) (m : MethodId) (below : List Frame) (meth : Method) (c : Code) (A : Nat → Prop), zC p s m av.toArray c cc maxL y.cls ws D tys A → meth.sig.returnType = ret → meth.locks = false → (y.name = "<init>" → meth.name = "<init>") → zW p l e rm s m av.toArray below meth c maxL D A 0 0 (MQ below (zPv D tys wc' A) av.toArray s mc ms A) wc 0 (lv_args 0 av) []) : zMv l D tys y ws rm wc av wc' mc ms :=
  fun sz => z_body (Qc := fun A => zPv D tys wc' A) hy hw hlen body sz
/-! loops with a counter: f 0, f 1 .. one behind the other -/
def zfor {α : Type} : Nat → (Int → α → α) → α → α
  | 0, _, a => a
  | n + 1, f, a => f (n : Int) (zfor n f a)
theorem zfor_ind {α : Type} (n : Nat) (N : Int) (hN : (n : Int) = N) (f : Int → α → α) (a0 : α) (P : Int → α → Prop) (hx : ∀ a, a = zfor n f a0 → P N a) (hs : ∀ (i : Int) (k : Nat) (a : α), i = (k : Int) → 0 ≤ i → i < N → a = zfor k f a0 → P (i + 1) (f i a) → P i a) : P 0 a0 := by
  subst hN
  have key : ∀ j k : Nat, k + j = n → P (k : Int) (zfor k f a0) := by
    intro j
    induction j with
    | zero => intro k hk; have e : k = n := by omega
              subst e; exact hx _ rfl
    | succ j ih =>
      intro k hk
      refine hs (k : Int) k _ rfl (by omega) (by omega) rfl ?_
      have h := ih (k + 1) (by omega)
      rw [show ((k + 1 : Nat) : Int) = (k : Int) + 1 by omega] at h
      exact h
  exact key n 0 (by omega)
end
section
/-! THROWS: a contract of a call that throws, its ends, its catching -/
def zXC (D : va_G) (tys : List (ClassId × FieldType)) (wc : va_W) (E : String) (A : Nat → Prop) : String → State → State → Prop := vx_X (fun (_ : Unit) => True) (fun E9 _ t => E9 = E ∧ va_P D vwCl wc t.heap ∧ va_K D vwCl tys t ∧ va_D A wc) A
def zQxv (A : Nat → Prop) : Array Value → State → Outcome → State → Prop := va_Qv (fun (_ : Unit) => False) (fun _ _ => True) A
def zQxi (A : Nat → Prop) : Array Value → State → Outcome → State → Prop := va_Qi (fun (_ : Int32) (_ : Unit) => False) (fun _ _ => True) A
def zMxv (l : Launch) (D : va_G) (tys : List (ClassId × FieldType)) (y : MethodName) (wsm : List Cond) (rm : Room) (wc : va_W) (av : List Value) (E : String) : Prop := ∀ sz : Nat, vx_Met l y wsm rm (zPre D tys wc av sz) (zQxv (va_A wc sz)) (zXC D tys wc E (va_A wc sz)) 1 6 (va_A wc sz)
def zMxi (l : Launch) (D : va_G) (tys : List (ClassId × FieldType)) (y : MethodName) (wsm : List Cond) (rm : Room) (wc : va_W) (av : List Value) (E : String) : Prop := ∀ sz : Nat, vx_Met l y wsm rm (zPre D tys wc av sz) (zQxi (va_A wc sz)) (zXC D tys wc E (va_A wc sz)) 1 6 (va_A wc sz)
section ZX
variable {p : Program} {l : Launch} {e : Env} {R : Room} {s : State} {m : MethodId} {args : Array Value} {below : List Frame} {meth : Method} {c : Code} {cells slots : Nat} {Q : State → Prop}
variable {cc : ByteArray} {pc nL : Nat} {own : String} {Ts : List Cond} {D : va_G} {tys : List (ClassId × FieldType)} {A : Nat → Prop} {ws ws' : va_W} {lv lv' : List (Nat × Value)} {st rest : List Value} {E : String}
def zXW (p : Program) (l : Launch) (e : Env) (R : Room) (s : State) (m : MethodId) (args : Array Value) (below : List Frame) (meth : Method) (c : Code) (nL : Nat) (D : va_G) (A : Nat → Prop) (cells slots : Nat) (Q : State → Prop) (ws : va_W) (pc : Nat) (lv : List (Nat × Value)) (rest : List Value) (E : String) : Prop :=
  ∀ (H : Heap) (locs : List Loc) (ls : Array Slot) (q : Addr) (ce : Cell), va_P D vwCl ws H → va_D A ws → va_S A s.heap H locs → lv_has ls nL lv → H[q]? = some ce → ce.vm = .none → s.vm.findClass E = some ce.cls → vx_W p l e R s m args below meth c H locs cells slots Q (F0 m pc ls rest) q
theorem z_xout (hlk : meth.locks = false) (hnt : ∀ x ∈ c.exceptionTable.toList, False) (X : zC p s m args c cc nL own Ts D tys A) {Qc : Array Value → State → Outcome → State → Prop} {mc ms : Nat} (hc : cells ≤ mc ∧ slots ≤ ms) : zXW p l e R s m args below meth c nL D A cells slots (vx_MQ below Qc (zXC D tys ws E A) args s mc ms A) ws pc lv rest E :=
  fun H locs ls q ce hP hD hS hv h1 h2 h3 => vx_out (fun x hx => (hnt x hx).elim) hlk h1 h2 h3 (fun t ht hvm => ⟨(), trivial, ⟨rfl, by rw [ht]; exact hP, va_K.moved hvm X.2.2.2.2.2.1, hD⟩, hS.F ht⟩) hS.2.2 hc.1 hc.2
theorem z_xcatch (X : zC p s m args c cc nL own Ts D tys A) {name : String} (pre : List ExceptionTableEntry) (x : ExceptionTableEntry) (suf : List ExceptionTableEntry) (hsplit : c.exceptionTable.toList = pre ++ x :: suf) (hpass : ∀ z ∈ pre, z.catchType ≠ 0 ∧ ∃ nm : String, Cond.classLink own z.catchType nm ∈ Ts ∧ va_Nc E nm s) (hx : covers x pc = true) (h0 : x.catchType ≠ 0) (hlink : Cond.classLink own x.catchType name ∈ Ts) (hcast : va_Nw (.castable E name) s)
    (kk : ∀ q : Nat, zW p l e R s m args below meth c nL D A cells slots Q ws x.handlerPc lv [.ref q]) : zXW p l e R s m args below meth c nL D A cells slots Q ws pc lv rest E :=
  fun H locs ls q ce hP hD hS hv h1 h2 h3 => vx_catch X.2.2.2.1 pre x suf hsplit (fun z hz => Or.inr ⟨(hpass z hz).1, by obtain ⟨nm, a, b⟩ := (hpass z hz).2; exact ⟨nm, X.2.2.2.2.1 _ a, b⟩⟩) hx h0 (X.2.2.2.2.1 _ hlink) (va_Nw.use rfl hcast) h1 h2 h3 (kk q H locs ls hP hD hS hv)
theorem z_top {x y : Int32} (h : x = y) (kk : zW p l e R s m args below meth c nL D A cells slots Q ws pc lv (.int y :: st)) : zW p l e R s m args below meth c nL D A cells slots Q ws pc lv (.int x :: st) := h ▸ kk
theorem z_ishr (X : zC p s m args c cc nL own Ts D tys A) {x y : Int32} (d : decode cc pc = .ok (.ishr, 1))
    (kk : zW p l e R s m args below meth c nL D A cells slots Q ws (pc + 1) lv (.int (x >>> (y &&& 31)) :: st)) : zW p l e R s m args below meth c nL D A cells slots Q ws pc lv (.int y :: .int x :: st) :=
  fun H locs ls hP hD hS hv => lv_ishr X.1 X.2.1 d (kk H locs ls hP hD hS hv)
theorem z_iand (X : zC p s m args c cc nL own Ts D tys A) {x y : Int32} (d : decode cc pc = .ok (.iand, 1))
    (kk : zW p l e R s m args below meth c nL D A cells slots Q ws (pc + 1) lv (.int (x &&& y) :: st)) : zW p l e R s m args below meth c nL D A cells slots Q ws pc lv (.int y :: .int x :: st) :=
  fun H locs ls hP hD hS hv => lv_iand X.1 X.2.1 d (kk H locs ls hP hD hS hv)
theorem z_tsw (X : zC p s m args c cc nL own Ts D tys A) {a dflt lo hi : Int} {offs : Array Int} {len : Nat} (off : Int) (tgt : Nat) (hb : zB a) (h1 : lo ≤ a) (h2 : a ≤ hi) (ho : offs[(a - lo).toNat]? = some off) (ht : (pc : Int) + off = (tgt : Int)) (d : decode cc pc = .ok (.tableswitch dflt lo hi offs, len))
    (kk : zW p l e R s m args below meth c nL D A cells slots Q ws tgt lv st) : zW p l e R s m args below meth c nL D A cells slots Q ws pc lv (.int (iZ a) :: st) :=
  fun H locs ls hP hD hS hv => lv_tableIn X.1 X.2.1 d (by rw [iZ_toInt hb]; omega) (by rw [iZ_toInt hb]; omega) (by rw [iZ_toInt hb]; exact ho) ht (kk H locs ls hP hD hS hv)
theorem z_tswO (X : zC p s m args c cc nL own Ts D tys A) {a dflt lo hi : Int} {offs : Array Int} {len : Nat} (tgt : Nat) (hb : zB a) (h : a < lo ∨ hi < a) (ht : (pc : Int) + dflt = (tgt : Int)) (d : decode cc pc = .ok (.tableswitch dflt lo hi offs, len))
    (kk : zW p l e R s m args below meth c nL D A cells slots Q ws tgt lv st) : zW p l e R s m args below meth c nL D A cells slots Q ws pc lv (.int (iZ a) :: st) :=
  fun H locs ls hP hD hS hv => lv_tableOut X.1 X.2.1 d (by rw [iZ_toInt hb]; exact h) ht (kk H locs ls hP hD hS hv)
section CallsX
variable {y : MethodName} {bytes : ByteArray} {maxL index n : Nat} {rm : Room} {wsm : List Cond} {wc : va_W} {b : Nat} {As : List Value} {C : String} {T : u_T} {N : Nat} {fs : List Value} {ret : Option FieldType}
theorem z_callxvs (X : zC p s m args c cc nL own Ts D tys A) (hM : zMxv l D tys y wsm rm wc As E) (cw : CallB R s args own index y bytes maxL ret wsm rm 1 6 n ∧ (Cond.static y).before args s = true) (hn : As.length = n) (w1 w2 : va_W) (hseg : ws = w1 ++ (wc ++ w2)) (rest : List Value) (hst : st = As.reverse ++ rest) (hcat : (rest.map fun v => v.category).sum ≤ 8) (d : decode cc pc = .ok (.invokestatic index, 3)) (hf : cells + 1 ≤ R.cells ∧ slots + 6 ≤ R.slots)
    (kx : zXW p l e R s m args below meth c nL D A (cells + 1) (slots + 6) Q ws pc lv rest E) : zW p l e R s m args below meth c nL D A cells slots Q ws pc lv st := by
  intro H locs ls hP hD hS hv
  subst hseg
  have hPc : va_P D vwCl wc H := hP.right.left
  have hDc : va_D A wc := hD.right.left
  have hF := z_free hD hS X.2.2.2.2.2.2.1
  refine vx_callv (vx_runS (As := As) (rest := rest) (z_fix X) (hM H.size) cw ⟨zPre_blind, fun U hU hW => ⟨rfl, by rw [hU], by rw [hU]; exact hPc, va_K.moved hW.alike X.2.2.2.2.2.1, hDc.weaken (fun _ _ _ _ => trivial), X.2.2.2.2.2.2.2.1.warm hW, by rw [hU]; exact X.2.2.2.2.2.2.2.2.to hS.2.1 hW.alike hF⟩⟩ rfl hn hv.1 hst (lv_room hcat) d hf) hS (fun q _ h => hF q h) hF (fun q _ h => hF q h) (fun E9 ce q9 u t H1 locs1 ht hvm _ hB hz1 hk1 hS1 h1 h2 h3 => ?_) (fun u t H1 locs1 ht hvm hbad => hbad.elim)
  obtain ⟨rfl, hP1, hK1, hD1⟩ := hB
  rw [ht] at hP1
  obtain ⟨hP2, hD2⟩ := z_join hP hD hk1 hF hP1 hD1
  exact kx H1 locs1 ls q9 ce hP2 hD2 hS1 hv h1 h2 h3
theorem z_callxv (X : zC p s m args c cc nL own Ts D tys A) (hM : zMxv l D tys y wsm rm wc (.ref b :: As) E) (cw : CallW R s args own C index y bytes maxL ret wsm rm 1 6 n) (hn : As.length = n) (w1 w2 : va_W) (hseg : ws = w1 ++ (wc ++ w2)) (ci q0 : Nat) (hci : vwCl[ci]? = some (C, T, N)) (he : ws[q0]? = some (b, .inr (ci, fs))) (rest : List Value) (hst : st = As.reverse ++ .ref b :: rest) (hcat : (rest.map fun v => v.category).sum ≤ 8) (d : decode cc pc = .ok (.invokevirtual index, 3)) (hf : cells + 1 ≤ R.cells ∧ slots + 6 ≤ R.slots)
    (kx : zXW p l e R s m args below meth c nL D A (cells + 1) (slots + 6) Q ws pc lv rest E) : zW p l e R s m args below meth c nL D A cells slots Q ws pc lv st := by
  intro H locs ls hP hD hS hv
  have hrec := va_recv X.2.2.2.2.2.1 hP hci he
  subst hseg
  have hPc : va_P D vwCl wc H := hP.right.left
  have hDc : va_D A wc := hD.right.left
  have hF := z_free hD hS X.2.2.2.2.2.2.1
  refine vx_callv (vx_runV (As := As) (rest := rest) (z_fix X) (hM H.size) cw ⟨zPre_blind, hrec, fun U hU hW => ⟨rfl, by rw [hU], by rw [hU]; exact hPc, va_K.moved hW.alike X.2.2.2.2.2.1, hDc.weaken (fun _ _ _ _ => trivial), X.2.2.2.2.2.2.2.1.warm hW, by rw [hU]; exact X.2.2.2.2.2.2.2.2.to hS.2.1 hW.alike hF⟩⟩ rfl hn hv.1 hst (lv_room hcat) d hf) hS (fun q _ h => hF q h) hF (fun q _ h => hF q h) (fun E9 ce q9 u t H1 locs1 ht hvm _ hB hz1 hk1 hS1 h1 h2 h3 => ?_) (fun u t H1 locs1 ht hvm hbad => hbad.elim)
  obtain ⟨rfl, hP1, hK1, hD1⟩ := hB
  rw [ht] at hP1
  obtain ⟨hP2, hD2⟩ := z_join hP hD hk1 hF hP1 hD1
  exact kx H1 locs1 ls q9 ce hP2 hD2 hS1 hv h1 h2 h3
theorem z_callxi (X : zC p s m args c cc nL own Ts D tys A) (hM : zMxi l D tys y wsm rm wc (.ref b :: As) E) (cw : CallW R s args own C index y bytes maxL ret wsm rm 1 6 n) (hn : As.length = n) (w1 w2 : va_W) (hseg : ws = w1 ++ (wc ++ w2)) (ci q0 : Nat) (hci : vwCl[ci]? = some (C, T, N)) (he : ws[q0]? = some (b, .inr (ci, fs))) (rest : List Value) (hst : st = As.reverse ++ .ref b :: rest) (hcat : (rest.map fun v => v.category).sum ≤ 8) (d : decode cc pc = .ok (.invokevirtual index, 3)) (hf : cells + 1 ≤ R.cells ∧ slots + 6 ≤ R.slots)
    (kx : zXW p l e R s m args below meth c nL D A (cells + 1) (slots + 6) Q ws pc lv rest E) : zW p l e R s m args below meth c nL D A cells slots Q ws pc lv st := by
  intro H locs ls hP hD hS hv
  have hrec := va_recv X.2.2.2.2.2.1 hP hci he
  subst hseg
  have hPc : va_P D vwCl wc H := hP.right.left
  have hDc : va_D A wc := hD.right.left
  have hF := z_free hD hS X.2.2.2.2.2.2.1
  refine vx_calli (vx_runV (As := As) (rest := rest) (z_fix X) (hM H.size) cw ⟨zPre_blind, hrec, fun U hU hW => ⟨rfl, by rw [hU], by rw [hU]; exact hPc, va_K.moved hW.alike X.2.2.2.2.2.1, hDc.weaken (fun _ _ _ _ => trivial), X.2.2.2.2.2.2.2.1.warm hW, by rw [hU]; exact X.2.2.2.2.2.2.2.2.to hS.2.1 hW.alike hF⟩⟩ rfl hn hv.1 hst (lv_room hcat) d hf) hS (fun q _ h => hF q h) hF (fun q _ h => hF q h) (fun E9 ce q9 u t H1 locs1 ht hvm _ hB hz1 hk1 hS1 h1 h2 h3 => ?_) (fun r u t H1 locs1 ht hvm hbad => hbad.elim)
  obtain ⟨rfl, hP1, hK1, hD1⟩ := hB
  rw [ht] at hP1
  obtain ⟨hP2, hD2⟩ := z_join hP hD hk1 hF hP1 hD1
  exact kx H1 locs1 ls q9 ce hP2 hD2 hS1 hv h1 h2 h3
end CallsX
def zNm : List String := ["java/lang/RuntimeException", "java/lang/Exception"]
def zNg (cls : String) : List Cond := [.declares ⟨"java/lang/RuntimeException", "<init>", "(Ljava/lang/String;)V"⟩, .declares ⟨"java/lang/Exception", "<init>", "(Ljava/lang/String;)V"⟩, .declares ⟨"java/lang/Throwable", "<init>", "(Ljava/lang/String;)V"⟩, .castable cls cls]
theorem z_throw (hl : l.stackTraces = false) (hlk : meth.locks = false) (hnt : ∀ x ∈ c.exceptionTable.toList, False) (X : zC p s m args c cc nL own Ts D tys A) {Qc : Array Value → State → Outcome → State → Prop} {mc ms ik is ic : Nat} {cls text : String} (hcls : Bundle.fit cls = true ∧ ∀ n ∈ zNm, Bundle.fit n = true) (hk : Cond.classLink own ik cls ∈ Ts) (hini : Cond.initialized cls ∈ Ts) (hstr : ∃ a : Nat, vk_R own is text a s) (hcast : va_Nw (.castable cls cls) s) (hat : ∀ w ∈ (vx_atS own ic cls zNm).filter goodWord, w ∈ Ts) (hng : ∀ w ∈ (vx_atS own ic cls zNm).filter (fun w => !goodWord w), w ∈ zNg cls) (hgood : ∀ w ∈ Cond.classLink own ik cls :: Cond.initialized cls :: vx_atS own ic cls zNm, vx_ot w = true)
    (d0 : decode cc pc = .ok (.new ik, 3)) (d3 : decode cc (pc + 3) = .ok (.dup, 1)) (d4 : decode cc (pc + 4) = .ok (.ldc is, 2)) (d6 : decode cc (pc + 6) = .ok (.invokespecial ic, 3)) (d9 : decode cc (pc + 9) = .ok (.athrow, 1))
    (hR : 5 < R.frames ∧ (rest.map fun v => v.category).sum + 82 ≤ R.locals ∧ cells + 1 ≤ R.cells ∧ slots + 6 ≤ R.slots) (hc : cells + 1 ≤ mc ∧ slots + 6 ≤ ms) : zW p l e R s m args below meth c nL D A cells slots (vx_MQ below Qc (zXC D tys ws cls A) args s mc ms A) ws pc lv rest := by
  intro H locs ls hP hD hS hv
  obtain ⟨sa, hsa⟩ := hstr
  refine vx_throwS X.1 X.2.1 hl (names := zNm) X.2.2.2.1 hcls.1 hcls.2 (X.2.2.2.2.1 _ hk) (X.2.2.2.2.1 _ hini) hsa (vx_hat (fun w hw => X.2.2.2.2.1 _ (hat w hw)) hng ?_) hgood X.2.2.2.2.2.2.2.2.1 X.2.2.2.2.2.2.2.2.2 hS (hv.1.trans X.2.2.1.symm) d0 d3 d4 d6 d9 (fun x hx => (hnt x hx).elim) hR.1 hR.2.1 hR.2.2.1 hR.2.2.2 hlk (fun t hvm h1 h2 => ⟨(), trivial, ⟨rfl, hP.kept (fun k q hq => h2 q.1 (hP k q hq).lt), va_K.moved hvm X.2.2.2.2.2.1, hD⟩, Nat.le_trans hS.1 h1, fun q a b => (h2 q (Nat.lt_of_lt_of_le a hS.1)).trans (hS.2.1 q a b)⟩) hS.2.2 hc.1 hc.2
  exact vx_c (va_Nw.use rfl X.2.2.2.2.2.2.2.1.d0) (vx_c (va_Nw.use rfl X.2.2.2.2.2.2.2.1.d1) (vx_c (va_Nw.use rfl X.2.2.2.2.2.2.2.1.d2) (vx_c (va_Nw.use rfl hcast) vx_n)))
end ZX
theorem z_bodyX {l : Launch} {y : MethodName} {ws ws' : List Cond} {rm : Room} {D : va_G} {tys : List (ClassId × FieldType)} {wc : va_W} {av : List Value} {E : String} {Qc : (Nat → Prop) → Array Value → State → Outcome → State → Prop} {cc : ByteArray} {maxL : Nat} {ret : Option FieldType} (hy : plainName y.cls = true) (hw : ws = Cond.code y cc maxL ret :: ws') (hlen : (lg_sl av).length ≤ maxL)
    (body : ∀ (p : Program) (e : Env) (s : State) (m : MethodId) (below : List Frame) (meth : Method) (c : Code) (A : Nat → Prop), zC p s m av.toArray c cc maxL y.cls ws D tys A → meth.locks = false → (∀ x ∈ c.exceptionTable.toList, False) → zW p l e rm s m av.toArray below meth c maxL D A 0 0 (vx_MQ below (Qc A) (zXC D tys wc E A) av.toArray s 1 6 A) wc 0 (lv_args 0 av) []) (sz : Nat) : vx_Met l y ws rm (zPre D tys wc av sz) (Qc (va_A wc sz)) (zXC D tys wc E (va_A wc sz)) 1 6 (va_A wc sz) := by
  refine vx_ofW (cc := cc) (maxL := maxL) (ret := ret) hy hw ?_
  intro p e s m args below meth c s₁ B hml hnt hv
  obtain ⟨rfl, hsz, hP, hK, hD0, hG, hH⟩ := hv
  subst hsz
  have hA : ∀ q : Nat, s.heap.size ≤ q → va_A wc s.heap.size q := fun q h => Or.inr h
  have h := body p e s m below meth c (va_A wc s.heap.size) ⟨B.exec, B.bytes, hml, findClass_of_methodNamed B.named, atoms_spec (ws := ws) B.pre, hK, hA, hG, hH⟩ B.notSynchronized hnt
  have hl := lv_entry av hlen
  rw [lg_entry_eq]
  exact h s.heap [] _ hP hD0.self va_S.rf hl
theorem z_mxv {l : Launch} {y : MethodName} {ws ws' : List Cond} {rm : Room} {D : va_G} {tys : List (ClassId × FieldType)} {wc : va_W} {av : List Value} {E : String} {cc : ByteArray} {maxL : Nat} {ret : Option FieldType} (hy : plainName y.cls = true) (hw : ws = Cond.code y cc maxL ret :: ws') (hlen : (lg_sl av).length ≤ maxL)
    (body : ∀ (p : Program) (e : Env) (s : State) (m : MethodId) (below : List Frame) (meth : Method) (c : Code) (A : Nat → Prop), zC p s m av.toArray c cc maxL y.cls ws D tys A → meth.locks = false → (∀ x ∈ c.exceptionTable.toList, False) → zW p l e rm s m av.toArray below meth c maxL D A 0 0 (vx_MQ below (zQxv A) (zXC D tys wc E A) av.toArray s 1 6 A) wc 0 (lv_args 0 av) []) : zMxv l D tys y ws rm wc av E :=
  fun sz => z_bodyX (Qc := fun A => zQxv A) hy hw hlen body sz
theorem z_mxi {l : Launch} {y : MethodName} {ws ws' : List Cond} {rm : Room} {D : va_G} {tys : List (ClassId × FieldType)} {wc : va_W} {av : List Value} {E : String} {cc : ByteArray} {maxL : Nat} {ret : Option FieldType} (hy : plainName y.cls = true) (hw : ws = Cond.code y cc maxL ret :: ws') (hlen : (lg_sl av).length ≤ maxL)
    (body : ∀ (p : Program) (e : Env) (s : State) (m : MethodId) (below : List Frame) (meth : Method) (c : Code) (A : Nat → Prop), zC p s m av.toArray c cc maxL y.cls ws D tys A → meth.locks = false → (∀ x ∈ c.exceptionTable.toList, False) → zW p l e rm s m av.toArray below meth c maxL D A 0 0 (vx_MQ below (zQxi A) (zXC D tys wc E A) av.toArray s 1 6 A) wc 0 (lv_args 0 av) []) : zMxi l D tys y ws rm wc av E :=
  fun sz => z_bodyX (Qc := fun A => zQxi A) hy hw hlen body sz
/-- a method with a table of its own that returns -/
theorem z_miW {l : Launch} {y : MethodName} {ws ws' : List Cond} {rm : Room} {D : va_G} {tys : List (ClassId × FieldType)} {wc wc' : va_W} {av : List Value} {r : Int} {mc ms : Nat} {cc : ByteArray} {maxL : Nat} {ret : Option FieldType} {hh : List (Nat × Nat × Nat × Nat)} (hy : plainName y.cls = true) (hw : ws = Cond.codeWith y cc maxL ret hh :: ws') (hlen : (lg_sl av).length ≤ maxL)
    (body : ∀ (p : Program) (e : Env) (s : State) (m : MethodId) (below : List Frame) (meth : Method) (c : Code) (A : Nat → Prop), zC p s m av.toArray c cc maxL y.cls ws D tys A → meth.sig.returnType = ret → meth.locks = false → c.exceptionTable.toList = tableOf hh → zW p l e rm s m av.toArray below meth c maxL D A 0 0 (MQ below (zPi D tys wc' r A) av.toArray s mc ms A) wc 0 (lv_args 0 av) []) : zMi l D tys y ws rm wc av r wc' mc ms := by
  intro sz
  refine va_MetW (cc := cc) (maxL := maxL) (ret := ret) (hh := hh) hy hw ?_
  intro p e s m args below meth c s₁ B hml hv
  obtain ⟨rfl, hsz, hP, hK, hD0, hG, hH⟩ := hv
  subst hsz
  have hA : ∀ q : Nat, s.heap.size ≤ q → va_A wc s.heap.size q := fun q h => Or.inr h
  have hpre := atoms_spec (ws := ws) B.pre
  have h := body p e s m below meth c (va_A wc s.heap.size) ⟨B.exec, B.bytes, hml, findClass_of_methodNamed B.named, hpre, hK, hA, hG, hH⟩ B.returns B.notSynchronized (vx_table (x := y) B (hpre _ (by rw [hw]; exact List.mem_cons_self)))
  have hl := lv_entry av hlen
  rw [lg_entry_eq]
  exact h s.heap [] _ hP hD0.self va_S.rf hl
/-! the three classes of the document: what a throw of theirs asks of the tables -/
theorem zft_0 : Bundle.fit "java/lang/IndexOutOfBoundsException" = true ∧ ∀ n ∈ zNm, Bundle.fit n = true := by decide +kernel
theorem zng_0 : ∀ w ∈ (vx_atS RX1 143 "java/lang/IndexOutOfBoundsException" zNm).filter (fun w => !goodWord w), w ∈ zNg "java/lang/IndexOutOfBoundsException" := by decide +kernel
theorem zgo_0 : ∀ w ∈ Cond.classLink RX1 139 "java/lang/IndexOutOfBoundsException" :: Cond.initialized "java/lang/IndexOutOfBoundsException" :: vx_atS RX1 143 "java/lang/IndexOutOfBoundsException" zNm, vx_ot w = true := by decide +kernel
theorem zft_1 : Bundle.fit "java/lang/IllegalArgumentException" = true ∧ ∀ n ∈ zNm, Bundle.fit n = true := by decide +kernel
theorem zng_1 : ∀ w ∈ (vx_atS RX1 85 "java/lang/IllegalArgumentException" zNm).filter (fun w => !goodWord w), w ∈ zNg "java/lang/IllegalArgumentException" := by decide +kernel
theorem zgo_1 : ∀ w ∈ Cond.classLink RX1 81 "java/lang/IllegalArgumentException" :: Cond.initialized "java/lang/IllegalArgumentException" :: vx_atS RX1 85 "java/lang/IllegalArgumentException" zNm, vx_ot w = true := by decide +kernel
theorem zft_2 : Bundle.fit "java/lang/IllegalStateException" = true ∧ ∀ n ∈ zNm, Bundle.fit n = true := by decide +kernel
theorem zng_2 : ∀ w ∈ (vx_atS RX1 92 "java/lang/IllegalStateException" zNm).filter (fun w => !goodWord w), w ∈ zNg "java/lang/IllegalStateException" := by decide +kernel
theorem zgo_2 : ∀ w ∈ Cond.classLink RX1 88 "java/lang/IllegalStateException" :: Cond.initialized "java/lang/IllegalStateException" :: vx_atS RX1 92 "java/lang/IllegalStateException" zNm, vx_ot w = true := by decide +kernel
end
section
/-! THE STATES: rows and numbers of the class (18 cells at ad 0 .. ad 17), of the reference (16 cells at ad 0 .. ad 15), the law's answer row -/
def zT (cI cZ cL : ClassId) : List (ClassId × FieldType) := [(cI, .int), (cZ, .boolean), (cL, .long)]
/-- the class: rows 0 members 1 forecasts 2 meters 3 prices 4 parts 5 stores 6 bills 7 lefts 8 limits 9 flows 10 ways, of the book 11 sellers 12 buyers 13 units 14 cuts 15 prices; numbers 0 sells 1 buys 2 pool 3 supplied 4 quarter 5 the book's count -/
def Gp (ad : Nat → Nat) (cI cZ : ClassId) (u : GS) : va_W :=
  [(ad 0, .inr (1, [.ref (ad 1), .ref (ad 2), .ref (ad 3), .ref (ad 4), .ref (ad 5), .ref (ad 6), .ref (ad 7), .ref (ad 8), .ref (ad 9), .ref (ad 10), .ref (ad 11), .ref (ad 12), .int (iZ (u.2 0)), .int (iZ (u.2 1)), .int (iZ (u.2 2)), .int (iZ (u.2 3)), .int (iZ (u.2 4))])),
   (ad 1, .inl (cZ, 6, .inl (zF (u.1 0)))), (ad 2, .inl (cI, 6, .inl (zF (u.1 1)))), (ad 3, .inl (cI, 6, .inl (zF (u.1 2)))), (ad 4, .inl (cI, 6, .inl (zF (u.1 3)))), (ad 5, .inl (cI, 6, .inl (zF (u.1 4)))), (ad 6, .inl (cI, 6, .inl (zF (u.1 5)))), (ad 7, .inl (cI, 6, .inl (zF (u.1 6)))), (ad 8, .inl (cI, 6, .inl (zF (u.1 7)))),
   (ad 9, .inl (cI, 5, .inl (zF (u.1 8)))), (ad 10, .inl (cI, 5, .inl (zF (u.1 9)))), (ad 11, .inl (cI, 6, .inl (zF (u.1 10))))]
def Bw (ad : Nat → Nat) (cI : ClassId) (u : GS) : va_W :=
  [(ad 12, .inr (0, [.ref (ad 13), .ref (ad 14), .ref (ad 15), .ref (ad 16), .ref (ad 17), .int (iZ (u.2 5))])),
   (ad 13, .inl (cI, 6, .inl (zF (u.1 11)))), (ad 14, .inl (cI, 6, .inl (zF (u.1 12)))), (ad 15, .inl (cI, 6, .inl (zF (u.1 13)))), (ad 16, .inl (cI, 6, .inl (zF (u.1 14)))), (ad 17, .inl (cI, 6, .inl (zF (u.1 15))))]
def Gw (ad : Nat → Nat) (cI cZ : ClassId) (u : GS) : va_W := Gp ad cI cZ u ++ (Bw ad cI u ++ [])
/-- the reference: rows 0 forecasts 1 meters 2 prices 3 limits 4 parts 5 stores 6 bills 7 gone 8 sellers 9 buyers 10 units 11 costs 12 went 13 flows 14 left; numbers 0 sells 1 buys 2 pool 3 supplied 4 quarter 5 trades 6 last -/
def Mw (ad : Nat → Nat) (cI cZ : ClassId) (u : GS) : va_W :=
  [(ad 0, .inr (2, [.ref (ad 1), .ref (ad 2), .ref (ad 3), .ref (ad 4), .ref (ad 5), .ref (ad 6), .ref (ad 7), .ref (ad 8), .int (iZ (u.2 0)), .int (iZ (u.2 1)), .int (iZ (u.2 2)), .int (iZ (u.2 3)), .int (iZ (u.2 4)), .ref (ad 9), .ref (ad 10), .ref (ad 11), .ref (ad 12), .int (iZ (u.2 5)), .ref (ad 13), .ref (ad 14), .ref (ad 15), .int (iZ (u.2 6))])),
   (ad 1, .inl (cI, 6, .inl (zF (u.1 0)))), (ad 2, .inl (cI, 6, .inl (zF (u.1 1)))), (ad 3, .inl (cI, 6, .inl (zF (u.1 2)))), (ad 4, .inl (cI, 5, .inl (zF (u.1 3)))), (ad 5, .inl (cI, 6, .inl (zF (u.1 4)))), (ad 6, .inl (cI, 6, .inl (zF (u.1 5)))), (ad 7, .inl (cI, 6, .inl (zF (u.1 6)))), (ad 8, .inl (cZ, 6, .inl (zF (u.1 7)))),
   (ad 9, .inl (cI, 36, .inl (zF (u.1 8)))), (ad 10, .inl (cI, 36, .inl (zF (u.1 9)))), (ad 11, .inl (cI, 36, .inl (zF (u.1 10)))), (ad 12, .inl (cI, 36, .inl (zF (u.1 11)))), (ad 13, .inl (cI, 6, .inl (zF (u.1 12)))), (ad 14, .inl (cI, 5, .inl (zF (u.1 13)))), (ad 15, .inl (cI, 6, .inl (zF (u.1 14))))]
/-! THE CLASS, as functions of its state -/
def f_rankS (P : Int → Int) (h : Int) : Int → Int → Int := fun o r => if P h < P o ∨ (P o = P h ∧ o < h) then r + 1 else r
def f_rank (P : Int → Int) (h : Int) : Int := zfor 6 (f_rankS P h) 0
def f_better (P : Int → Int) (h best b : Int) : Int := if P h ≠ P best then (if P h < P best then 1 else 0) else (if zabs (h - b) < zabs (best - b) then 1 else 0)
def f_bestS (L P : Int → Int) (b : Int) : Int → Int → Int := fun h best => if 0 < L h ∧ P h ≤ P b ∧ (best < 0 ∨ f_better P h best b ≠ 0) then h else best
def f_best (L P : Int → Int) (b : Int) : Int := zfor 6 (f_bestS L P b) (-1)
def f_add (u : GS) (s b x p : Int) : GS := if 6 ≤ u.2 5 then u else gV (gA (gA (gA (gA (gA u 11 (u.2 5) s) 12 (u.2 5) b) 13 (u.2 5) x) 14 (u.2 5) 0) 15 (u.2 5) p) 5 (u.2 5 + 1)
def f_tradeL (u : GS) (s b : Int) : GS := gA (gA u 7 s (u.1 7 s - zmin (u.1 7 s) (-(u.1 7 b)))) 7 b (updZ (u.1 7) s (u.1 7 s - zmin (u.1 7 s) (-(u.1 7 b))) b + zmin (u.1 7 s) (-(u.1 7 b)))
def f_trade (u : GS) (s b : Int) : GS := f_add (f_tradeL u s b) s b (zmin (u.1 7 s) (-(u.1 7 b))) ((u.1 3 s + u.1 3 b) / 2)
def f_serve (b : Int) : Nat → GS → GS
  | 0, u => u
  | n + 1, u => if u.1 7 b < 0 then (if f_best (u.1 7) (u.1 3) b < 0 then u else f_serve b n (f_trade u (f_best (u.1 7) (u.1 3) b) b)) else u
def f_matchI (r : Int) : Int → GS → GS := fun h u => if u.1 7 h < 0 ∧ f_rank (u.1 3) h = r then f_serve h 6 u else u
def f_matchO : Int → GS → GS := fun r u => zfor 6 (f_matchI r) u
def f_match (u : GS) : GS := zfor 6 f_matchO u
def f_beginW : Int → GS → GS := fun w u => gA u 10 w 0
def f_beginL : Int → GS → GS := fun h u => gA u 7 h (u.1 2 h)
def f_begin (u : GS) : GS := zfor 6 f_beginL (zfor 6 f_beginW (gV u 5 0))
def f_nextS : Int → GS → GS := fun h u => gA (gA u 1 h 0) 2 h 0
def f_next (u : GS) : GS := gV (zfor 6 f_nextS u) 4 ((zfor 6 f_nextS u).2 4 + 1)
def f_dir (s b k : Int) : Int := if s ≤ k ∧ k < b then 1 else (if b ≤ k ∧ k < s then -1 else 0)
def f_flowS (S B U : Int → Int) (k : Int) : Int → Int → Int := fun t a => a + f_dir (S t) (B t) k * U t
def f_flow (u : GS) (k : Int) : Int := zfor (u.2 5).toNat (f_flowS (u.1 11) (u.1 12) (u.1 13) k) 0
def f_cutL (k w : Int) : Nat → Int → GS → GS
  | 0, _, u => u
  | n + 1, ab, u => if 0 < ab then (if f_dir (u.1 11 (n : Int)) (u.1 12 (n : Int)) k = w then f_cutL k w n (ab - zmin (u.1 13 (n : Int)) ab) (gA (gA u 13 (n : Int) (u.1 13 (n : Int) - zmin (u.1 13 (n : Int)) ab)) 14 (n : Int) (u.1 14 (n : Int) + zmin (u.1 13 (n : Int)) ab)) else f_cutL k w n ab u) else u
def f_cutR (u : GS) (k lim : Int) : Int := if zabs (f_flow u k) - lim ≤ 0 then 0 else 1
def f_cutU (u : GS) (k lim : Int) : GS := if zabs (f_flow u k) - lim ≤ 0 then u else f_cutL k (if 0 < f_flow u k then 1 else -1) (u.2 5).toNat (zabs (f_flow u k) - lim) u
def f_pass : Nat → Int × GS → Int × GS
  | 0, x => x
  | n + 1, x => f_pass n (if f_cutR x.2 (n : Int) (x.2.1 8 (n : Int)) ≠ 0 then 1 else x.1, f_cutU x.2 (n : Int) (x.2.1 8 (n : Int)))
def f_cutsL : Nat → Int × GS → GS
  | 0, x => x.2
  | n + 1, x => if x.1 ≠ 0 then f_cutsL n (f_pass 5 (0, x.2)) else x.2
def f_cuts (u : GS) : GS := f_cutsL 1000 (1, u)
def f_countS : Int → GS → GS := fun t u => gA (gA u 10 0 (u.1 10 0 + u.1 13 t)) 10 1 (u.1 10 1 + u.1 14 t)
def f_countF : Int → GS → GS := fun k u => gA u 9 k (f_flow u k)
def f_countP (u : GS) : GS := gV u 2 (u.2 2 - u.1 10 1)
def f_count (u : GS) : GS := zfor 5 f_countF (f_countP (zfor (u.2 5).toNat f_countS u))
def f_settleA (h t : Int) (u : GS) : GS := if u.1 11 t = h then gA (gA u 6 h (u.1 6 h - (u.1 13 t * u.1 15 t + u.1 14 t))) 7 h (u.1 7 h + u.1 14 t) else u
def f_settleB (h t : Int) (u : GS) : GS := if u.1 12 t = h then gA (gA u 6 h (u.1 6 h + u.1 13 t * u.1 15 t)) 7 h (u.1 7 h - u.1 14 t) else u
def f_settleS (h : Int) : Int → GS → GS := fun t u => f_settleB h t (f_settleA h t u)
def f_settle (u : GS) (h : Int) : GS := zfor (u.2 5).toNat (f_settleS h) u
def f_pay (u : GS) (h x : Int) : GS := gV (gA u 6 h (u.1 6 h + x)) 2 (u.2 2 + x)
def f_putIn (u : GS) (h x : Int) : GS := gA (gA (gA u 7 h (u.1 7 h - x)) 5 h (u.1 5 h + x)) 10 2 (u.1 10 2 + x)
def f_takeA (u : GS) (h x : Int) : GS := gA (gA (gA u 7 h (u.1 7 h + x)) 5 h (u.1 5 h - x)) 10 3 (u.1 10 3 + x)
def f_takeOut (u : GS) (h x : Int) : GS := if x ≤ 0 then u else f_pay (f_takeA u h x) h (2 * x + zmax 0 (u.1 4 h / 4 - updZ (u.1 5) h (u.1 5 h - x) h))
def f_battery (u : GS) (h : Int) : GS := if 0 < u.1 7 h then f_putIn u h (zmin (u.1 7 h) (u.1 4 h - u.1 5 h)) else f_takeOut u h (zmin (-(u.1 7 h)) (u.1 5 h))
def f_supSum (u : GS) (h : Int) : Int := if u.1 7 h < 0 then -(u.1 7 h) * u.2 0 else -(u.1 7 h) * u.2 1
def f_supPay (u : GS) (h : Int) : GS := gV (gA u 6 h (u.1 6 h + f_supSum u h)) 3 (u.2 3 + f_supSum u h)
def f_supplier (u : GS) (h : Int) : GS := if u.1 7 h < 0 then gA (f_supPay u h) 10 4 (u.1 10 4 - u.1 7 h) else gA (f_supPay u h) 10 5 (u.1 10 5 + u.1 7 h)
def f_house : Int → GS → GS := fun h u => f_pay (f_supplier (f_battery (f_settle u h) h) h) h (zabs ((f_supplier (f_battery (f_settle u h) h) h).1 2 h - (f_supplier (f_battery (f_settle u h) h) h).1 1 h))
def f_clearU (u : GS) : GS := f_next (zfor 6 f_house (f_count (f_cuts (f_match (f_begin u)))))
def f_bit (set h : Int) : Int := set / (2 ^ h.toNat) % 2
def f_sellsL (M P : Int → Int) (s set : Int) : Nat → Int → Int
  | 0, _ => 0
  | n + 1, h => if M h < 0 ∧ f_bit set h ≠ 0 ∧ P s ≤ P h then 1 else f_sellsL M P s set n (h + 1)
def f_sells (M P : Int → Int) (s set : Int) : Int := f_sellsL M P s set 6 0
def f_boundA (M : Int → Int) (set h b : Int) : Int := if M h < 0 ∧ f_bit set h = 0 then b - M h else b
def f_boundS (M P : Int → Int) (set : Int) : Int → Int → Int := fun h b => if 0 < M h ∧ f_sells M P h set ≠ 0 then f_boundA M set h b + M h else f_boundA M set h b
def f_bound (M P : Int → Int) (set : Int) : Int := zfor 6 (f_boundS M P set) 0
def f_mostS (M P : Int → Int) : Int → Int → Int := fun i m => zmin m (f_bound M P (i + 1))
def f_most (M P : Int → Int) : Int := zfor 63 (f_mostS M P) (f_bound M P 0)
def f_ofTrade (u : GS) (t w : Int) : Int := if w = 0 then u.1 11 t else (if w = 1 then u.1 12 t else (if w = 2 then u.1 13 t else u.1 15 t))
def f_leave (u : GS) (h : Int) : GS := gA (gA (gA (gA (gA (f_pay u h (-(u.1 5 h * u.2 1))) 0 h 0) 1 h 0) 2 h 0) 4 h 0) 5 h 0
def f_rent (u : GS) (h o x : Int) : GS := gA (gA u 4 h (u.1 4 h - x)) 4 o (updZ (u.1 4) h (u.1 4 h - x) o + x)
/-! what is compared is small -/
def zok (j : Nat) : Bool := decide (j < 16) && decide (j ≠ 6) && decide (j ≠ 9) && decide (j ≠ 10) && decide (j ≠ 15)
def Bd (u : GS) : Prop := ∀ j : Nat, zok j = true → ∀ i : Int, -1000 ≤ u.1 j i ∧ u.1 j i ≤ 1000
/-! THE REFERENCE, as functions of its state -/
def m_in (v a b : Int) : Int := if a ≤ v ∧ v ≤ b then 1 else 0
def m_goesC (a b c : Int) : Int := if a = 0 then 1 else (if b = 0 then 2 else (if c ≠ 0 then 0 else 3))
def m_goesR (a b c : Int) : Int := if m_goesC a b c = 0 then 1 else 0
def m_goesW (w : GS) (a b c : Int) : GS := gV w 6 (m_goesC a b c)
def m_belongs (w : GS) (h : Int) : Int := if m_in h 0 5 ≠ 0 ∧ w.1 7 h = 0 then 1 else 0
def m_lesser (a b : Int) : Int := if a < b then a else b
def m_size (a : Int) : Int := if a < 0 then -a else a
def m_buyer (w : GS) (h : Int) : Int := if w.1 7 h = 0 ∧ w.1 1 h < 0 then 1 else 0
def m_isel (w : GS) (h : Int) : Int := if w.1 7 h = 0 ∧ 0 < w.1 1 h then 1 else 0
def m_turnS (w : GS) (h : Int) : Int → Int → Int := fun k n => if m_buyer w k ≠ 0 ∧ (w.1 2 h < w.1 2 k ∨ (w.1 2 k = w.1 2 h ∧ k < h)) then n + 1 else n + 0
def m_turn (w : GS) (h : Int) : Int := zfor 6 (m_turnS w h) 0
def m_sellerS (w : GS) (b : Int) : Int → Int → Int := fun k best => if m_isel w k ≠ 0 ∧ 0 < w.1 14 k ∧ w.1 2 k ≤ w.1 2 b ∧ (best = -1 ∨ w.1 2 k < w.1 2 best ∨ (w.1 2 k = w.1 2 best ∧ m_size (k - b) < m_size (best - b))) then k else best
def m_seller (w : GS) (b : Int) : Int := zfor 6 (m_sellerS w b) (-1)
def m_trade (w : GS) (s b : Int) : GS := gA (gA (gV (gA (gA (gA (gA w 8 (w.2 5) s) 9 (w.2 5) b) 10 (w.2 5) (m_lesser (w.1 14 b) (w.1 14 s))) 11 (w.2 5) ((w.1 2 s + w.1 2 b) / 2)) 5 (w.2 5 + 1)) 14 b (w.1 14 b - m_lesser (w.1 14 b) (w.1 14 s))) 14 s (updZ (w.1 14) b (w.1 14 b - m_lesser (w.1 14 b) (w.1 14 s)) s - m_lesser (w.1 14 b) (w.1 14 s))
def m_takesL (b : Int) : Nat → GS → GS
  | 0, w => w
  | n + 1, w => if 0 < w.1 14 b ∧ m_seller w b ≠ -1 then m_takesL b n (m_trade w (m_seller w b) b) else w
def m_takes (w : GS) (b : Int) : GS := m_takesL b 8 w
def m_low (w : GS) (t : Int) : Int := m_lesser (w.1 8 t) (w.1 9 t)
def m_high (w : GS) (t : Int) : Int := w.1 8 t + w.1 9 t - m_low w t
def m_over (w : GS) (t k : Int) : Int := if k < m_low w t ∨ m_high w t ≤ k then 0 else (if w.1 8 t = m_low w t then 1 else -1)
def m_flowS (w : GS) (k : Int) : Int → Int → Int := fun t a => a + m_over w t k * w.1 10 t
def m_flow (w : GS) (k : Int) : Int := zfor (w.2 5).toNat (m_flowS w k) 0
def m_latS (w : GS) (k fl : Int) : Int → Int → Int := fun t lt => if 0 < w.1 10 t ∧ m_over w t k = (if 0 < fl then 1 else -1) then t else lt
def m_lat (w : GS) (k : Int) : Int := zfor (w.2 5).toNat (m_latS w k (m_flow w k)) (-1)
def m_its (w : GS) (k : Int) : Int := m_lesser (w.1 10 (m_lat w k)) (m_size (m_flow w k) - w.1 3 k)
def m_cutA (w : GS) (lt x : Int) : GS := gA (gA w 10 lt (w.1 10 lt - x)) 14 (w.1 8 lt) (w.1 14 (w.1 8 lt) + x)
def m_cutB (w : GS) (lt x : Int) : GS := gA w 14 (w.1 9 lt) (w.1 14 (w.1 9 lt) + x)
def m_cutC (w : GS) (lt x : Int) : GS := gV (gA w 6 (w.1 8 lt) (w.1 6 (w.1 8 lt) - x)) 2 (w.2 2 - x)
def m_cut1 (w : GS) (lt x : Int) : GS := m_cutC (m_cutB (m_cutA w lt x) lt x) lt x
def m_cutsL (k : Int) : Nat → Int × GS → Int × GS
  | 0, x => x
  | n + 1, x => if x.2.1 3 k < m_size (m_flow x.2 k) then m_cutsL k n (x.1 + m_its x.2 k, m_cut1 x.2 (m_lat x.2 k) (m_its x.2 k)) else x
def m_cuts (w : GS) (k : Int) : Int × GS := m_cutsL k 301 (0, w)
def m_keepX (w : GS) (h : Int) : Int := m_lesser (w.1 14 h) (w.1 4 h - w.1 5 h)
def m_keepA (w : GS) (h x : Int) : GS := gA (gA (gA w 5 h (w.1 5 h + x)) 14 h (w.1 14 h - x)) 12 2 (w.1 12 2 + x)
def m_keepB (v : GS) (h : Int) : GS := gA v 12 5 (v.1 12 5 + v.1 14 h)
def m_keepC (v : GS) (h : Int) : GS := gA v 6 h (v.1 6 h - v.1 14 h * v.2 1)
def m_keepD (v : GS) (h : Int) : GS := gV v 3 (v.2 3 - v.1 14 h * v.2 1)
def m_keeps (w : GS) (h : Int) : GS := m_keepD (m_keepC (m_keepB (m_keepA w h (m_keepX w h)) h) h) h
def m_drawX (w : GS) (h : Int) : Int := m_lesser (w.1 14 h) (w.1 5 h)
def m_drawA (w : GS) (h x : Int) : GS := gA (gA w 5 h (w.1 5 h - x)) 14 h (w.1 14 h - x)
def m_wear (w : GS) (h x : Int) : Int := if x = 0 then 0 else (if 0 < w.1 4 h / 4 - updZ (w.1 5) h (w.1 5 h - x) h then 2 * x + (w.1 4 h / 4 - updZ (w.1 5) h (w.1 5 h - x) h) else 2 * x + 0)
def m_drawB (v : GS) (h z : Int) : GS := gV (gA v 6 h (v.1 6 h + z)) 2 (v.2 2 + z)
def m_drawC (v : GS) (h x : Int) : GS := gA v 12 3 (v.1 12 3 + x)
def m_drawD (v : GS) (h : Int) : GS := gA v 12 4 (v.1 12 4 + v.1 14 h)
def m_drawE (v : GS) (h : Int) : GS := gA v 6 h (v.1 6 h + v.1 14 h * v.2 0)
def m_drawF (v : GS) (h : Int) : GS := gV v 3 (v.2 3 + v.1 14 h * v.2 0)
def m_drawZ (w : GS) (h x z : Int) : GS := m_drawF (m_drawE (m_drawD (m_drawC (m_drawB (m_drawA w h x) h z) h x) h) h) h
def m_draws (w : GS) (h : Int) : GS := m_drawZ w h (m_drawX w h) (m_wear w h (m_drawX w h))
def m_beginW : Int → GS → GS := fun k w => gA w 12 k 0
def m_beginL : Int → GS → GS := fun k w => gA w 14 k (if w.1 7 k = 0 then m_size (w.1 1 k) else 0)
def m_begin (w : GS) : GS := zfor 6 m_beginL (zfor 6 m_beginW (gV w 5 0))
def m_matchI (r : Int) : Int → GS → GS := fun k w => if m_buyer w k ≠ 0 ∧ m_turn w k = r then m_takes w k else w
def m_matchO : Int → GS → GS := fun r w => zfor 6 (m_matchI r) w
def m_match (w : GS) : GS := zfor 6 m_matchO w
def m_pass : Nat → Int × GS → Int × GS
  | 0, x => x
  | n + 1, x => m_pass n (x.1 + (m_cuts x.2 (n : Int)).1, (m_cuts x.2 (n : Int)).2)
def m_cutAll : Nat → Int × GS → GS
  | 0, x => x.2
  | n + 1, x => if 0 < x.1 then m_cutAll n ((m_pass 5 (0, x.2)).1, gA (m_pass 5 (0, x.2)).2 12 1 ((m_pass 5 (0, x.2)).2.1 12 1 + (m_pass 5 (0, x.2)).1)) else x.2
def m_setA (t : Int) (w : GS) : GS := gA w 6 (w.1 9 t) (w.1 6 (w.1 9 t) + w.1 10 t * w.1 11 t)
def m_setB (t : Int) (w : GS) : GS := gA w 6 (w.1 8 t) (w.1 6 (w.1 8 t) - w.1 10 t * w.1 11 t)
def m_setC (t : Int) (w : GS) : GS := gA w 12 0 (w.1 12 0 + w.1 10 t)
def m_setS : Int → GS → GS := fun t w => m_setC t (m_setB t (m_setA t w))
def m_set (w : GS) : GS := zfor (w.2 5).toNat m_setS w
def m_store (w : GS) (k : Int) : GS := if m_isel w k ≠ 0 then m_keeps w k else (if m_buyer w k ≠ 0 then m_draws w k else w)
def m_wrong (w : GS) (k : Int) : Int := if w.1 7 k = 0 then m_size (w.1 1 k - w.1 0 k) else 0
def m_fine (w : GS) (k : Int) : GS := gV (gA w 6 k (w.1 6 k + m_wrong w k)) 2 (w.2 2 + m_wrong w k)
def m_house : Int → GS → GS := fun k w => m_fine (m_store w k) k
def m_flowF : Int → GS → GS := fun k w => gA w 13 k (m_flow w k)
def m_nextS : Int → GS → GS := fun k w => gA (gA w 0 k 0) 1 k 0
def m_next (w : GS) : GS := gV (zfor 6 m_nextS w) 4 ((zfor 6 m_nextS w).2 4 + 1)
def m_clearU (w : GS) : GS := m_next (zfor 5 m_flowF (zfor 6 m_house (m_set (m_cutAll 302 (1, m_match (m_begin w))))))
def m_tradS (w : GS) (x : Int) : Int → Int → Int := fun k b => (b + (if m_buyer w k ≠ 0 ∧ x < w.1 2 k then -(w.1 1 k) else 0)) + (if m_isel w k ≠ 0 ∧ w.1 2 k ≤ x then w.1 1 k else 0)
def m_trad (w : GS) (x : Int) : Int := zfor 6 (m_tradS w x) 0
def m_mostS (w : GS) : Int → Int → Int := fun k b => if m_buyer w k ≠ 0 then m_lesser b (m_trad w (w.1 2 k)) else b
def m_most (w : GS) : Int := zfor 6 (m_mostS w) (m_trad w (-1))
/-- what a call that tells leaves behind, by its code: nothing but the code, or the change -/
def m_when (w : GS) (k : Int) (v : GS) : GS := if k = 0 then v else gV w 6 k
def m_tellC (w : GS) (h x : Int) : Int := m_goesC (m_in h 0 5) (m_in x (-50) 50) (m_belongs w h)
def m_priceC (h x : Int) : Int := m_goesC (m_in h 0 5) (m_in x 0 100) 1
def m_limitC (h x : Int) : Int := m_goesC (m_in h 0 4) (m_in x 0 300) 1
def m_supC (a b : Int) : Int := if m_in a 1 100 ≠ 0 ∧ m_in b 0 a ≠ 0 then 0 else 1
def m_rentC (w : GS) (h o x : Int) : Int := if m_in h 0 5 = 0 ∨ m_in o 0 5 = 0 then 1 else (if h = o ∨ m_in x 1 100 = 0 then 2 else (if m_belongs w h ≠ 0 ∧ m_belongs w o ≠ 0 ∧ w.1 5 h ≤ w.1 4 h - x then 0 else 3))
def m_rentW (w : GS) (h o x : Int) : GS := gA (gA w 4 h (w.1 4 h - x)) 4 o (updZ (w.1 4) h (w.1 4 h - x) o + x)
def m_leaveC (w : GS) (h : Int) : Int := m_goesC (m_in h 0 5) (m_belongs w h) 1
def m_leaveW (w : GS) (h : Int) : GS := gA (gA (gA (gV (gA w 6 h (w.1 6 h - w.1 5 h * w.2 1)) 2 (w.2 2 - w.1 5 h * w.2 1)) 4 h 0) 5 h 0) 7 h 1
def m_ofC (w : GS) (t x : Int) : Int := if m_in t 0 (w.2 5 - 1) ≠ 0 ∧ m_in x 0 3 ≠ 0 then 0 else 1
def m_ofV (w : GS) (t x : Int) : Int := if x = 0 then w.1 8 t else (if x = 1 then w.1 9 t else (if x = 2 then w.1 10 t else w.1 11 t))
def m_askC (h hi : Int) : Int := m_goesC (m_in h 0 hi) 1 1
def zokM (j : Nat) : Bool := decide (j < 15) && decide (j ≠ 6) && decide (j ≠ 11) && decide (j ≠ 12) && decide (j ≠ 13)
def Bdm (w : GS) : Prop := ∀ j : Nat, zokM j = true → ∀ i : Int, -1000 ≤ w.1 j i ∧ w.1 j i ≤ 1000
end
section
/-! bounds that the walks ask for -/
theorem zfor_inv {α : Type} (f : Int → α → α) (a0 : α) (I : Int → α → Prop) (n : Nat) (h0 : I 0 a0) (hs : ∀ (i : Int) (a : α), 0 ≤ i → i < n → I i a → I (i + 1) (f i a)) : ∀ k : Nat, k ≤ n → I (k : Int) (zfor k f a0) := by
  intro k
  induction k with
  | zero => intro _; exact h0
  | succ k ih =>
    intro hk
    have h := hs (k : Int) _ (by omega) (by omega) (ih (by omega))
    rw [show ((k + 1 : Nat) : Int) = (k : Int) + 1 by omega]
    exact h
theorem f_better_rg (P : Int → Int) (h best b : Int) : f_better P h best b = 0 ∨ f_better P h best b = 1 := by
  unfold f_better; repeat' (first | omega | split)
theorem f_bestk (L P : Int → Int) (b : Int) (k : Nat) (hk : k ≤ 6) : -1 ≤ zfor k (f_bestS L P b) (-1) ∧ zfor k (f_bestS L P b) (-1) ≤ 5 := by
  refine zfor_inv (f_bestS L P b) (-1) (fun _ a => -1 ≤ a ∧ a ≤ 5) 6 (by omega) (fun i a h0 h1 h => ?_) k hk
  simp only [f_bestS]
  split <;> omega
theorem f_rankk (P : Int → Int) (h : Int) (k : Nat) (hk : k ≤ 6) : 0 ≤ zfor k (f_rankS P h) 0 ∧ zfor k (f_rankS P h) 0 ≤ 6 := by
  have := zfor_inv (f_rankS P h) 0 (fun i a => 0 ≤ a ∧ a ≤ i) 6 (by omega) (fun i a h0 h1 h => by simp only [f_rankS]; split <;> omega) k hk
  omega
theorem f_dir_rg (s b k : Int) : f_dir s b k = 0 ∨ f_dir s b k = 1 ∨ f_dir s b k = -1 := by
  unfold f_dir; repeat' (first | omega | split)
theorem f_flowk (S B U : Int → Int) (k : Int) (n : Nat) (hn : n ≤ 6) (hU : ∀ i, -1000 ≤ U i ∧ U i ≤ 1000) : -6000 ≤ zfor n (f_flowS S B U k) 0 ∧ zfor n (f_flowS S B U k) 0 ≤ 6000 := by
  have := zfor_inv (f_flowS S B U k) 0 (fun i a => -(1000 * i) ≤ a ∧ a ≤ 1000 * i) 6 (by omega) (fun i a h0 h1 h => by
    simp only [f_flowS]
    have hu := hU i
    rcases f_dir_rg (S i) (B i) k with e | e | e <;> rw [e] <;> omega) n hn
  omega
theorem f_flow_rg (u : GS) (k : Int) (h1 : u.2 5 ≤ 6) (hB : Bd u) : -6000 ≤ f_flow u k ∧ f_flow u k ≤ 6000 := f_flowk _ _ _ k _ (by omega) (fun i => hB 13 rfl i)
theorem Gp_congr {ad : Nat → Nat} {cI cZ : ClassId} {u v : GS} (h1 : ∀ j : Nat, j ≤ 10 → u.1 j = v.1 j) (h2 : ∀ j : Nat, j ≤ 4 → u.2 j = v.2 j) : Gp ad cI cZ u = Gp ad cI cZ v := by
  unfold Gp
  rw [h1 0 (by omega), h1 1 (by omega), h1 2 (by omega), h1 3 (by omega), h1 4 (by omega), h1 5 (by omega), h1 6 (by omega), h1 7 (by omega), h1 8 (by omega), h1 9 (by omega), h1 10 (by omega), h2 0 (by omega), h2 1 (by omega), h2 2 (by omega), h2 3 (by omega), h2 4 (by omega)]
theorem zup_n {α : Type} (f : Nat → α) {j k : Nat} (v : α) (h : k ≠ j) : zup f j v k = f k := by simp [zup, h]
theorem gA_1n (u : GS) {j k : Nat} (i x : Int) (h : k ≠ j) : (gA u j i x).1 k = u.1 k := zup_n _ _ h
theorem gA_1s (u : GS) (j : Nat) (i x : Int) : (gA u j i x).1 j = updZ (u.1 j) i x := by simp [gA, zup]
theorem gA_2 (u : GS) (j : Nat) (i x : Int) : (gA u j i x).2 = u.2 := rfl
theorem gV_1 (u : GS) (j : Nat) (x : Int) : (gV u j x).1 = u.1 := rfl
theorem gV_2n (u : GS) {j k : Nat} (x : Int) (h : k ≠ j) : (gV u j x).2 k = u.2 k := zup_n _ _ h
theorem gV_2s (u : GS) (j : Nat) (x : Int) : (gV u j x).2 j = x := by simp [gV, zup]
theorem f_bit_rg (set h : Int) : f_bit set h = 0 ∨ f_bit set h = 1 := by unfold f_bit; omega
theorem f_bit_ofNat : ∀ s : Fin 64, ∀ h : Fin 6, (iZ ((s.val : Nat) : Int) >>> (iZ ((h.val : Nat) : Int) &&& 31)) &&& iZ 1 = iZ (f_bit ((s.val : Nat) : Int) ((h.val : Nat) : Int)) := by decide +kernel
theorem f_bit_eq {set h : Int} (hs : 0 ≤ set ∧ set < 64) (hh : 0 ≤ h ∧ h ≤ 5) : (iZ set >>> (iZ h &&& 31)) &&& iZ 1 = iZ (f_bit set h) := by
  have e1 : ((set.toNat : Nat) : Int) = set := Int.toNat_of_nonneg hs.1
  have e2 : ((h.toNat : Nat) : Int) = h := Int.toNat_of_nonneg hh.1
  have := f_bit_ofNat ⟨set.toNat, by omega⟩ ⟨h.toNat, by omega⟩
  dsimp only at this
  rw [e1, e2] at this
  exact this
theorem f_sellsL_rg (M P : Int → Int) (s set : Int) : ∀ (n : Nat) (h : Int), f_sellsL M P s set n h = 0 ∨ f_sellsL M P s set n h = 1 := by
  intro n
  induction n with
  | zero => intro h; exact Or.inl rfl
  | succ n ih => intro h; simp only [f_sellsL]; split; exact Or.inr rfl; exact ih _
theorem f_boundk (M P : Int → Int) (set : Int) (hM : ∀ i, -1000 ≤ M i ∧ M i ≤ 1000) (k : Nat) (hk : k ≤ 6) : 0 ≤ zfor k (f_boundS M P set) 0 ∧ zfor k (f_boundS M P set) 0 ≤ 6000 := by
  have := zfor_inv (f_boundS M P set) 0 (fun i a => 0 ≤ a ∧ a ≤ 1000 * i) 6 (by omega) (fun i a h0 h1 h => by
    have hm := hM i
    simp only [f_boundS, f_boundA]
    repeat' split
    all_goals omega) k hk
  omega
theorem f_mostk (M P : Int → Int) (hM : ∀ i, -1000 ≤ M i ∧ M i ≤ 1000) (k : Nat) : 0 ≤ zfor k (f_mostS M P) (f_bound M P 0) ∧ zfor k (f_mostS M P) (f_bound M P 0) ≤ 6000 := by
  have := zfor_inv (f_mostS M P) (f_bound M P 0) (fun i a => 0 ≤ a ∧ a ≤ 6000) k (f_boundk M P 0 hM 6 (by omega)) (fun i a h0 h1 h => by
    have hb : 0 ≤ f_bound M P (i + 1) ∧ f_bound M P (i + 1) ≤ 6000 := f_boundk M P (i + 1) hM 6 (by omega)
    have hz := zmin_sp a (f_bound M P (i + 1))
    simp only [f_mostS]
    omega) k (by omega)
  exact this
end
section
/-! invariants of the class's states -/
theorem z05 {i : Int} (h : 0 ≤ i ∧ i ≤ 5) : i = 0 ∨ i = 1 ∨ i = 2 ∨ i = 3 ∨ i = 4 ∨ i = 5 := by omega
def zc (x : Int) : Int := if x = 0 then 0 else 1
theorem zc_rg (x : Int) : 0 ≤ zc x ∧ zc x ≤ 1 := by unfold zc; split <;> omega
theorem zc_n {x : Int} (h : x ≠ 0) : zc x = 1 := if_neg h
def NZ (f : Int → Int) : Int := zc (f 0) + zc (f 1) + zc (f 2) + zc (f 3) + zc (f 4) + zc (f 5)
theorem NZ_rg (f : Int → Int) : 0 ≤ NZ f ∧ NZ f ≤ 6 := by
  have h0 := zc_rg (f 0); have h1 := zc_rg (f 1); have h2 := zc_rg (f 2); have h3 := zc_rg (f 3); have h4 := zc_rg (f 4); have h5 := zc_rg (f 5)
  unfold NZ; omega
theorem NZ_lt {f g : Int → Int} {s b : Int} (hs : 0 ≤ s ∧ s ≤ 5) (hb : 0 ≤ b ∧ b ≤ 5) (hsb : s ≠ b) (h : ∀ i, i ≠ s → i ≠ b → g i = f i) (h1 : f s ≠ 0) (h2 : f b ≠ 0) (h3 : g s = 0 ∨ g b = 0) : NZ g + 1 ≤ NZ f := by
  have e1 := zc_n h1
  have e2 := zc_n h2
  have r1 := zc_rg (g s)
  have r2 := zc_rg (g b)
  have e3 : zc (g s) + zc (g b) ≤ 1 := by
    rcases h3 with h3 | h3 <;> rw [h3] <;> simp only [zc, if_true] <;> (first | omega | (split <;> omega))
  have k : ∀ i, i ≠ s → i ≠ b → zc (g i) = zc (f i) := fun i a c => by rw [h i a c]
  unfold NZ
  rcases z05 hs with rfl | rfl | rfl | rfl | rfl | rfl <;> rcases z05 hb with rfl | rfl | rfl | rfl | rfl | rfl <;>
    first
    | exact absurd rfl hsb
    | (have k0 := k 0; have k1 := k 1; have k2 := k 2; have k3 := k 3; have k4 := k 4; have k5 := k 5
       simp only [ne_eq, Int.reduceEq, not_false_eq_true, not_true_eq_false, forall_const, false_implies, true_implies] at k0 k1 k2 k3 k4 k5
       omega)
theorem f_best_spec (L P : Int → Int) (b : Int) : f_best L P b = -1 ∨ (0 ≤ f_best L P b ∧ f_best L P b ≤ 5 ∧ 0 < L (f_best L P b) ∧ P (f_best L P b) ≤ P b) := by
  have := zfor_inv (f_bestS L P b) (-1) (fun i a => a = -1 ∨ (0 ≤ a ∧ a < i ∧ 0 < L a ∧ P a ≤ P b)) 6 (Or.inl rfl) (fun i a h0 h1 h => by
    simp only [f_bestS]
    split
    · next hc => exact Or.inr ⟨h0, by omega, hc.1, hc.2.1⟩
    · rcases h with h | h
      · exact Or.inl h
      · exact Or.inr ⟨h.1, by omega, h.2.2⟩) 6 (by omega)
  rcases this with h | ⟨h1, h2, h3, h4⟩
  · exact Or.inl h
  · exact Or.inr ⟨h1, by have : f_best L P b < ((6 : Nat) : Int) := h2
                         omega, h3, h4⟩
/-- what no clearing changes but at its end -/
def Base (u : GS) : Prop := (∀ i, 0 ≤ u.1 0 i ∧ u.1 0 i ≤ 1) ∧ (∀ i, -50 ≤ u.1 1 i ∧ u.1 1 i ≤ 50) ∧ (∀ i, -50 ≤ u.1 2 i ∧ u.1 2 i ≤ 50) ∧ (∀ i, 0 ≤ u.1 3 i ∧ u.1 3 i ≤ 100) ∧ (∀ i, 0 ≤ u.1 8 i ∧ u.1 8 i ≤ 300) ∧ (∀ i, 0 ≤ u.1 5 i ∧ u.1 5 i ≤ u.1 4 i) ∧ (∀ i, u.1 4 i ≤ 120) ∧ u.1 4 0 + u.1 4 1 + u.1 4 2 + u.1 4 3 + u.1 4 4 + u.1 4 5 ≤ 120
/-- the book -/
def BI (u : GS) : Prop := 0 ≤ u.2 5 ∧ u.2 5 ≤ 6 ∧ ∀ t, 0 ≤ u.1 13 t ∧ 0 ≤ u.1 14 t ∧ u.1 13 t + u.1 14 t ≤ 50 ∧ 0 ≤ u.1 11 t ∧ u.1 11 t ≤ 5 ∧ 0 ≤ u.1 12 t ∧ u.1 12 t ≤ 5
theorem Bd_of {u : GS} (h1 : Base u) (h2 : BI u) (h3 : ∀ i, -1000 ≤ u.1 7 i ∧ u.1 7 i ≤ 1000) : Bd u := by
  obtain ⟨a0, a1, a2, a3, a8, a5, a4, -⟩ := h1
  obtain ⟨-, -, b⟩ := h2
  intro j hz i
  have e0 := a0 i; have e1 := a1 i; have e2 := a2 i; have e3 := a3 i; have e8 := a8 i; have e5 := a5 i; have e4 := a4 i; have e7 := h3 i
  have eb := b i
  match j, hz with
  | 0, _ => omega
  | 1, _ => omega
  | 2, _ => omega
  | 3, _ => omega
  | 4, _ => omega
  | 5, _ => omega
  | 6, hz => exact absurd hz (by decide)
  | 7, _ => omega
  | 8, _ => omega
  | 9, hz => exact absurd hz (by decide)
  | 10, hz => exact absurd hz (by decide)
  | 11, _ => omega
  | 12, _ => omega
  | 13, _ => omega
  | 14, _ => omega
  | 15, hz => exact absurd hz (by decide)
  | k + 16, hz => exact absurd hz (by simp [zok])
theorem Base_congr {u v : GS} (h : ∀ j : Nat, j ≤ 8 → j ≠ 6 → j ≠ 7 → v.1 j = u.1 j) (hb : Base u) : Base v := by
  unfold Base
  rw [h 0 (by omega) (by omega) (by omega), h 1 (by omega) (by omega) (by omega), h 2 (by omega) (by omega) (by omega), h 3 (by omega) (by omega) (by omega), h 4 (by omega) (by omega) (by omega), h 5 (by omega) (by omega) (by omega), h 8 (by omega) (by omega) (by omega)]
  exact hb
theorem f_add_1 (u : GS) (s b x p : Int) (j : Nat) (h : j < 11) : (f_add u s b x p).1 j = u.1 j := by
  unfold f_add
  split
  · rfl
  · rw [gV_1, gA_1n _ _ _ (by omega), gA_1n _ _ _ (by omega), gA_1n _ _ _ (by omega), gA_1n _ _ _ (by omega), gA_1n _ _ _ (by omega)]
theorem f_add_2 (u : GS) (s b x p : Int) (j : Nat) (h : j ≠ 5) : (f_add u s b x p).2 j = u.2 j := by
  unfold f_add
  split
  · rfl
  · rw [gV_2n _ _ h]; rfl
theorem f_trade_1 (u : GS) (s b : Int) (j : Nat) (h : j < 11) (h7 : j ≠ 7) : (f_trade u s b).1 j = u.1 j := by
  unfold f_trade
  rw [f_add_1 _ _ _ _ _ _ h]
  unfold f_tradeL
  rw [gA_1n _ _ _ h7, gA_1n _ _ _ h7]
theorem f_trade_2 (u : GS) (s b : Int) (j : Nat) (h : j ≠ 5) : (f_trade u s b).2 j = u.2 j := by
  unfold f_trade
  rw [f_add_2 _ _ _ _ _ _ h]; rfl
theorem f_trade_7 (u : GS) (s b : Int) : (f_trade u s b).1 7 = updZ (updZ (u.1 7) s (u.1 7 s - zmin (u.1 7 s) (-(u.1 7 b)))) b (updZ (u.1 7) s (u.1 7 s - zmin (u.1 7 s) (-(u.1 7 b))) b + zmin (u.1 7 s) (-(u.1 7 b))) := by
  unfold f_trade
  rw [f_add_1 _ _ _ _ _ _ (by decide)]
  rfl
/-- while buyers are served: each trade leaves a zero more -/
def GI1 (u : GS) : Prop := Base u ∧ BI u ∧ (∀ i, -50 ≤ u.1 7 i ∧ u.1 7 i ≤ 50) ∧ u.2 5 + NZ (u.1 7) ≤ 6
theorem GI1.bd {u : GS} (h : GI1 u) : Bd u := Bd_of h.1 h.2.1 (fun i => by have := h.2.2.1 i; omega)
theorem GI1_trade {u : GS} {s b : Int} (h : GI1 u) (hs : 0 ≤ s ∧ s ≤ 5) (hb : 0 ≤ b ∧ b ≤ 5) (hL : 0 < u.1 7 s) (hLb : u.1 7 b < 0) : GI1 (f_trade u s b) := by
  obtain ⟨h1, ⟨c0, c6, hB⟩, h3, h4⟩ := h
  have hsb : s ≠ b := fun q => by rw [q] at hL; omega
  have hx := zmin_sp (u.1 7 s) (-(u.1 7 b))
  have h7 := f_trade_7 u s b
  have hN : NZ ((f_trade u s b).1 7) + 1 ≤ NZ (u.1 7) := by
    rw [h7]
    refine NZ_lt hs hb hsb (fun i a c => by rw [updZ_n _ _ c, updZ_n _ _ a]) (by omega) (by omega) ?_
    rw [updZ_n _ _ hsb, updZ_s, updZ_s, updZ_n _ _ (Ne.symm hsb)]
    omega
  have hR := NZ_rg ((f_trade u s b).1 7)
  have hc : ¬ 6 ≤ (f_tradeL u s b).2 5 := by
    show ¬ 6 ≤ u.2 5
    omega
  refine ⟨Base_congr (fun j a c d => f_trade_1 u s b j (by omega) d) h1, ?_, fun i => ?_, ?_⟩
  · have e : f_trade u s b = gV (gA (gA (gA (gA (gA (f_tradeL u s b) 11 (u.2 5) s) 12 (u.2 5) b) 13 (u.2 5) (zmin (u.1 7 s) (-(u.1 7 b)))) 14 (u.2 5) 0) 15 (u.2 5) ((u.1 3 s + u.1 3 b) / 2)) 5 (u.2 5 + 1) := by
      unfold f_trade f_add
      rw [if_neg hc]; rfl
    rw [e]
    refine ⟨?_, ?_, fun t => ?_⟩
    · show 0 ≤ u.2 5 + 1; omega
    · show u.2 5 + 1 ≤ 6; omega
    · have ht := hB t
      have hls := h3 s
      show 0 ≤ updZ (u.1 13) (u.2 5) (zmin (u.1 7 s) (-(u.1 7 b))) t ∧ 0 ≤ updZ (u.1 14) (u.2 5) 0 t ∧ updZ (u.1 13) (u.2 5) (zmin (u.1 7 s) (-(u.1 7 b))) t + updZ (u.1 14) (u.2 5) 0 t ≤ 50 ∧ 0 ≤ updZ (u.1 11) (u.2 5) s t ∧ updZ (u.1 11) (u.2 5) s t ≤ 5 ∧ 0 ≤ updZ (u.1 12) (u.2 5) b t ∧ updZ (u.1 12) (u.2 5) b t ≤ 5
      unfold updZ
      split <;> omega
  · rw [h7]
    have hi := h3 i
    have hls := h3 s
    have hlb := h3 b
    unfold updZ
    split
    · rw [if_neg (Ne.symm hsb)]; omega
    · split <;> omega
  · have e : (f_trade u s b).2 5 = u.2 5 + 1 := by
      unfold f_trade f_add
      rw [if_neg hc]; rfl
    rw [e]; omega
theorem GI1_serve {b : Int} (hb : 0 ≤ b ∧ b ≤ 5) : ∀ (n : Nat) (u : GS), GI1 u → GI1 (f_serve b n u) := by
  intro n
  induction n with
  | zero => intro u h; exact h
  | succ n ih =>
    intro u h
    simp only [f_serve]
    split
    · next h1 =>
      split
      · exact h
      · next h2 =>
        rcases f_best_spec (u.1 7) (u.1 3) b with q | ⟨q1, q2, q3, q4⟩
        · omega
        · exact ih _ (GI1_trade h ⟨q1, q2⟩ hb q3 h1)
    · exact h
theorem GI1_matchI {r h : Int} (hh : 0 ≤ h ∧ h ≤ 5) {u : GS} (hu : GI1 u) : GI1 (f_matchI r h u) := by
  simp only [f_matchI]
  split
  · exact GI1_serve hh 6 u hu
  · exact hu
theorem GI1_matchIk {r : Int} {u : GS} (hu : GI1 u) (k : Nat) (hk : k ≤ 6) : GI1 (zfor k (f_matchI r) u) := zfor_inv (f_matchI r) u (fun _ a => GI1 a) 6 hu (fun i a h0 h1 h => GI1_matchI ⟨h0, by omega⟩ h) k hk
theorem GI1_matchOk {u : GS} (hu : GI1 u) (k : Nat) (hk : k ≤ 6) : GI1 (zfor k f_matchO u) := zfor_inv f_matchO u (fun _ a => GI1 a) 6 hu (fun i a h0 h1 h => GI1_matchIk h 6 (by omega)) k hk
theorem GI1_match {u : GS} (hu : GI1 u) : GI1 (f_match u) := GI1_matchOk hu 6 (by omega)
/-! cuts, settling: what stays, what is bounded -/
def zokb (j : Nat) : Bool := decide (11 ≤ j) && decide (j ≤ 14)
theorem BI.bd {u : GS} (h : BI u) : ∀ j : Nat, zokb j = true → ∀ i : Int, -1000 ≤ u.1 j i ∧ u.1 j i ≤ 1000 := by
  intro j hj i
  have hb := h.2.2 i
  simp only [zokb, Bool.and_eq_true, decide_eq_true_eq] at hj
  have : j = 11 ∨ j = 12 ∨ j = 13 ∨ j = 14 := by omega
  rcases this with rfl | rfl | rfl | rfl <;> omega
theorem BI_congr {u v : GS} (h1 : ∀ j : Nat, 11 ≤ j → j ≤ 14 → v.1 j = u.1 j) (h2 : v.2 5 = u.2 5) (h : BI u) : BI v := by
  unfold BI
  rw [h2, h1 11 (by omega) (by omega), h1 12 (by omega) (by omega), h1 13 (by omega) (by omega), h1 14 (by omega) (by omega)]
  exact h
theorem f_flow_bi (u : GS) (k : Int) (h : BI u) : -6000 ≤ f_flow u k ∧ f_flow u k ≤ 6000 := f_flowk _ _ _ k _ (by have := h.1; have := h.2.1; omega) (fun i => h.bd 13 rfl i)
theorem BI_cut {u : GS} (h : BI u) {t x : Int} (h0 : 0 ≤ x) (h1 : x ≤ u.1 13 t) : BI (gA (gA u 13 t (u.1 13 t - x)) 14 t (u.1 14 t + x)) := by
  refine ⟨h.1, h.2.1, fun i => ?_⟩
  have hi := h.2.2 i
  show 0 ≤ updZ (u.1 13) t (u.1 13 t - x) i ∧ 0 ≤ updZ (u.1 14) t (u.1 14 t + x) i ∧ updZ (u.1 13) t (u.1 13 t - x) i + updZ (u.1 14) t (u.1 14 t + x) i ≤ 50 ∧ 0 ≤ u.1 11 i ∧ u.1 11 i ≤ 5 ∧ 0 ≤ u.1 12 i ∧ u.1 12 i ≤ 5
  unfold updZ
  split
  · next e => subst e; omega
  · exact hi
theorem f_cutL_1 (k w : Int) : ∀ (n : Nat) (ab : Int) (u : GS) (j : Nat), j ≠ 13 → j ≠ 14 → (f_cutL k w n ab u).1 j = u.1 j := by
  intro n
  induction n with
  | zero => intro ab u j _ _; rfl
  | succ n ih =>
    intro ab u j h1 h2
    simp only [f_cutL]
    split
    · split
      · rw [ih _ _ j h1 h2, gA_1n _ _ _ h2, gA_1n _ _ _ h1]
      · exact ih _ _ j h1 h2
    · rfl
theorem f_cutL_2 (k w : Int) : ∀ (n : Nat) (ab : Int) (u : GS), (f_cutL k w n ab u).2 = u.2 := by
  intro n
  induction n with
  | zero => intro ab u; rfl
  | succ n ih =>
    intro ab u
    simp only [f_cutL]
    split
    · split
      · rw [ih]; rfl
      · exact ih _ _
    · rfl
theorem f_cutU_1 (u : GS) (k lim : Int) (j : Nat) (h1 : j ≠ 13) (h2 : j ≠ 14) : (f_cutU u k lim).1 j = u.1 j := by
  unfold f_cutU
  split
  · rfl
  · exact f_cutL_1 _ _ _ _ _ j h1 h2
theorem f_cutU_2 (u : GS) (k lim : Int) : (f_cutU u k lim).2 = u.2 := by
  unfold f_cutU
  split
  · rfl
  · exact f_cutL_2 _ _ _ _ _
theorem BI_cutL (k w : Int) : ∀ (n : Nat) (ab : Int) (u : GS), BI u → BI (f_cutL k w n ab u) := by
  intro n
  induction n with
  | zero => intro ab u h; exact h
  | succ n ih =>
    intro ab u h
    simp only [f_cutL]
    split
    · next hab =>
      split
      · have hz := zmin_sp (u.1 13 (n : Int)) ab
        have hu := h.2.2 (n : Int)
        exact ih _ _ (BI_cut h (by omega) (by omega))
      · exact ih _ _ h
    · exact h
theorem BI_cutU (u : GS) (k lim : Int) (h : BI u) : BI (f_cutU u k lim) := by
  unfold f_cutU
  split
  · exact h
  · exact BI_cutL _ _ _ _ _ h
/-- while trades are cut and settled -/
def GI2 (u : GS) : Prop := Base u ∧ BI u ∧ ∀ i, -50 ≤ u.1 7 i ∧ u.1 7 i ≤ 50
theorem GI2.bd {u : GS} (h : GI2 u) : Bd u := Bd_of h.1 h.2.1 (fun i => by have := h.2.2 i; omega)
theorem GI1.to2 {u : GS} (h : GI1 u) : GI2 u := ⟨h.1, h.2.1, h.2.2.1⟩
theorem GI2_congr {u v : GS} (h : ∀ j : Nat, j ≤ 14 → j ≠ 6 → j ≠ 9 → j ≠ 10 → v.1 j = u.1 j) (h5 : v.2 5 = u.2 5) (hu : GI2 u) : GI2 v :=
  ⟨Base_congr (fun j a b c => h j (by omega) b (by omega) (by omega)) hu.1, BI_congr (fun j a b => h j b (by omega) (by omega) (by omega)) h5 hu.2.1, by rw [h 7 (by omega) (by omega) (by omega) (by omega)]; exact hu.2.2⟩
theorem GI2_cutU {u : GS} (h : GI2 u) (k lim : Int) : GI2 (f_cutU u k lim) :=
  ⟨Base_congr (fun j a b c => f_cutU_1 u k lim j (by omega) (by omega)) h.1, BI_cutU u k lim h.2.1, by rw [f_cutU_1 u k lim 7 (by decide) (by decide)]; exact h.2.2⟩
theorem GI2_pass : ∀ (n : Nat) (x : Int × GS), GI2 x.2 → GI2 (f_pass n x).2 := by
  intro n
  induction n with
  | zero => intro x h; exact h
  | succ n ih => intro x h; simp only [f_pass]; exact ih _ (GI2_cutU h _ _)
theorem GI2_cutsL : ∀ (n : Nat) (x : Int × GS), GI2 x.2 → GI2 (f_cutsL n x) := by
  intro n
  induction n with
  | zero => intro x h; exact h
  | succ n ih =>
    intro x h
    simp only [f_cutsL]
    split
    · exact ih _ (GI2_pass 5 (0, x.2) h)
    · exact h
theorem f_begin_1 (u : GS) (j : Nat) (h7 : j ≠ 7) (h10 : j ≠ 10) : (f_begin u).1 j = u.1 j := by
  have a := zfor_inv f_beginW (gV u 5 0) (fun _ a => a.1 j = u.1 j) 6 rfl (fun i a _ _ h => by simp only [f_beginW]; rw [gA_1n _ _ _ h10]; exact h) 6 (by omega)
  exact zfor_inv f_beginL (zfor 6 f_beginW (gV u 5 0)) (fun _ a => a.1 j = u.1 j) 6 a (fun i a _ _ h => by simp only [f_beginL]; rw [gA_1n _ _ _ h7]; exact h) 6 (by omega)
theorem f_begin_2 (u : GS) : (f_begin u).2 = (gV u 5 0).2 := by
  have a := zfor_inv f_beginW (gV u 5 0) (fun _ a => a.2 = (gV u 5 0).2) 6 rfl (fun i a _ _ h => h) 6 (by omega)
  exact zfor_inv f_beginL (zfor 6 f_beginW (gV u 5 0)) (fun _ a => a.2 = (gV u 5 0).2) 6 a (fun i a _ _ h => h) 6 (by omega)
theorem f_countS_1 (t : Int) (u : GS) (j : Nat) (h : j ≠ 10) : (f_countS t u).1 j = u.1 j := by
  simp only [f_countS]; rw [gA_1n _ _ _ h, gA_1n _ _ _ h]
theorem f_countk_1 (u : GS) (n : Nat) (j : Nat) (h : j ≠ 10) : (zfor n f_countS u).1 j = u.1 j := zfor_inv f_countS u (fun _ a => a.1 j = u.1 j) n rfl (fun i a _ _ q => (f_countS_1 i a j h).trans q) n (by omega)
theorem f_countk_2 (u : GS) (n : Nat) : (zfor n f_countS u).2 = u.2 := zfor_inv f_countS u (fun _ a => a.2 = u.2) n rfl (fun i a _ _ q => q) n (by omega)
theorem f_countFk_1 (u : GS) (n : Nat) (j : Nat) (h : j ≠ 9) : (zfor n f_countF u).1 j = u.1 j := zfor_inv f_countF u (fun _ a => a.1 j = u.1 j) n rfl (fun i a _ _ q => by simp only [f_countF]; rw [gA_1n _ _ _ h]; exact q) n (by omega)
theorem f_countFk_2 (u : GS) (n : Nat) : (zfor n f_countF u).2 = u.2 := zfor_inv f_countF u (fun _ a => a.2 = u.2) n rfl (fun i a _ _ q => q) n (by omega)
theorem f_count_1 (u : GS) (j : Nat) (h9 : j ≠ 9) (h10 : j ≠ 10) : (f_count u).1 j = u.1 j := by
  unfold f_count
  rw [f_countFk_1 _ _ j h9]
  show (zfor (u.2 5).toNat f_countS u).1 j = u.1 j
  exact f_countk_1 u _ j h10
theorem f_count_2 (u : GS) (j : Nat) (h2 : j ≠ 2) : (f_count u).2 j = u.2 j := by
  unfold f_count
  rw [f_countFk_2]
  unfold f_countP
  rw [gV_2n _ _ h2, f_countk_2]
theorem f_settleS_1 (h t : Int) (u : GS) (j : Nat) (h6 : j ≠ 6) (h7 : j ≠ 7) : (f_settleS h t u).1 j = u.1 j := by
  simp only [f_settleS, f_settleA, f_settleB]
  repeat' split
  all_goals (first | rfl | (rw [gA_1n _ _ _ h7, gA_1n _ _ _ h6, gA_1n _ _ _ h7, gA_1n _ _ _ h6]) | (rw [gA_1n _ _ _ h7, gA_1n _ _ _ h6]))
theorem f_settleS_2 (h t : Int) (u : GS) : (f_settleS h t u).2 = u.2 := by
  simp only [f_settleS, f_settleA, f_settleB]
  repeat' split
  all_goals rfl
theorem f_settleA_1 (h t : Int) (u : GS) (j : Nat) (h6 : j ≠ 6) (h7 : j ≠ 7) : (f_settleA h t u).1 j = u.1 j := by
  unfold f_settleA
  split
  · rw [gA_1n _ _ _ h7, gA_1n _ _ _ h6]
  · rfl
theorem f_settleA_7 (h t : Int) (u : GS) (i : Int) : (f_settleA h t u).1 7 i = if i = h then u.1 7 h + (if u.1 11 t = h then u.1 14 t else 0) else u.1 7 i := by
  unfold f_settleA
  by_cases a : u.1 11 t = h
  · rw [if_pos a, if_pos a]
    rfl
  · rw [if_neg a, if_neg a]
    split
    · next e => rw [e]; omega
    · rfl
theorem f_settleB_7 (h t : Int) (u : GS) (i : Int) : (f_settleB h t u).1 7 i = if i = h then u.1 7 h - (if u.1 12 t = h then u.1 14 t else 0) else u.1 7 i := by
  unfold f_settleB
  by_cases a : u.1 12 t = h
  · rw [if_pos a, if_pos a]
    rfl
  · rw [if_neg a, if_neg a]
    split
    · next e => rw [e]; omega
    · rfl
theorem f_settleS_7 (h t : Int) (u : GS) (i : Int) : (f_settleS h t u).1 7 i = if i = h then u.1 7 h + (if u.1 11 t = h then u.1 14 t else 0) - (if u.1 12 t = h then u.1 14 t else 0) else u.1 7 i := by
  show (f_settleB h t (f_settleA h t u)).1 7 i = _
  rw [f_settleB_7, f_settleA_7, f_settleA_7, f_settleA_1 h t u 12 (by decide) (by decide), f_settleA_1 h t u 14 (by decide) (by decide), if_pos rfl]
  split
  · rfl
  · next e => rfl
theorem f_settlek_1 (h : Int) (u : GS) (n : Nat) (j : Nat) (h6 : j ≠ 6) (h7 : j ≠ 7) : (zfor n (f_settleS h) u).1 j = u.1 j := zfor_inv (f_settleS h) u (fun _ a => a.1 j = u.1 j) n rfl (fun i a _ _ q => (f_settleS_1 h i a j h6 h7).trans q) n (by omega)
theorem f_settlek_2 (h : Int) (u : GS) (n : Nat) : (zfor n (f_settleS h) u).2 = u.2 := zfor_inv (f_settleS h) u (fun _ a => a.2 = u.2) n rfl (fun i a _ _ q => (f_settleS_2 h i a).trans q) n (by omega)
theorem f_settlek_7 (h : Int) (u : GS) (hb : BI u) (n : Nat) : (∀ i, i ≠ h → (zfor n (f_settleS h) u).1 7 i = u.1 7 i) ∧ u.1 7 h - 50 * n ≤ (zfor n (f_settleS h) u).1 7 h ∧ (zfor n (f_settleS h) u).1 7 h ≤ u.1 7 h + 50 * n := by
  induction n with
  | zero => exact ⟨fun _ _ => rfl, by simp [zfor], by simp [zfor]⟩
  | succ n ih =>
    obtain ⟨h1, h2, h3⟩ := ih
    have hc := hb.2.2 (n : Int)
    have e : ∀ i, (zfor (n + 1) (f_settleS h) u).1 7 i = _ := fun i => f_settleS_7 h (n : Int) (zfor n (f_settleS h) u) i
    rw [f_settlek_1 h u n 11 (by decide) (by decide), f_settlek_1 h u n 12 (by decide) (by decide), f_settlek_1 h u n 14 (by decide) (by decide)] at e
    refine ⟨fun i hi => ?_, ?_⟩
    · rw [e i, if_neg hi]; exact h1 i hi
    · rw [e h, if_pos rfl]
      repeat' split
      all_goals omega
/-- before house h is settled -/
def GI3 (h : Int) (u : GS) : Prop := Base u ∧ BI u ∧ (∀ i, -1000 ≤ u.1 7 i ∧ u.1 7 i ≤ 1000) ∧ ∀ i, (i < 0 ∨ h ≤ i) → -50 ≤ u.1 7 i ∧ u.1 7 i ≤ 50
theorem GI3.bd {h : Int} {u : GS} (g : GI3 h u) : Bd u := Bd_of g.1 g.2.1 g.2.2.1
theorem GI2.to3 {u : GS} (h : GI2 u) : GI3 0 u := ⟨h.1, h.2.1, fun i => by have := h.2.2 i; omega, fun i _ => h.2.2 i⟩
theorem GI3_settlek {h : Int} (hh0 : 0 ≤ h) {u : GS} (g : GI3 h u) (n : Nat) (hn : n ≤ 6) : GI3 (h + 1) (zfor n (f_settleS h) u) ∧ Bd (zfor n (f_settleS h) u) := by
  obtain ⟨g1, g2, g3, g4⟩ := g
  obtain ⟨k1, k2, k3⟩ := f_settlek_7 h u g2 n
  have hh := g4 h (by omega)
  have q : GI3 (h + 1) (zfor n (f_settleS h) u) := by
    refine ⟨Base_congr (fun j a b c => f_settlek_1 h u n j b c) g1, BI_congr (fun j a b => f_settlek_1 h u n j (by omega) (by omega)) (by rw [f_settlek_2]) g2, fun i => ?_, fun i hi => ?_⟩
    · by_cases e : i = h
      · rw [e]; omega
      · rw [k1 i e]; exact g3 i
    · rw [k1 i (by omega)]; exact g4 i (by omega)
  exact ⟨q, q.bd⟩
theorem f_pay_1 (u : GS) (h x : Int) (j : Nat) (h6 : j ≠ 6) : (f_pay u h x).1 j = u.1 j := by
  unfold f_pay; rw [gV_1, gA_1n _ _ _ h6]
theorem f_pay_2 (u : GS) (h x : Int) (j : Nat) (h2 : j ≠ 2) : (f_pay u h x).2 j = u.2 j := by
  unfold f_pay; rw [gV_2n _ _ h2]; rfl
theorem f_takeA_1 (u : GS) (h x : Int) (j : Nat) (h5 : j ≠ 5) (h7 : j ≠ 7) (h10 : j ≠ 10) : (f_takeA u h x).1 j = u.1 j := by
  unfold f_takeA; rw [gA_1n _ _ _ h10, gA_1n _ _ _ h5, gA_1n _ _ _ h7]
theorem f_battery_1 (u : GS) (h : Int) (j : Nat) (h5 : j ≠ 5) (h6 : j ≠ 6) (h7 : j ≠ 7) (h10 : j ≠ 10) : (f_battery u h).1 j = u.1 j := by
  unfold f_battery
  split
  · unfold f_putIn; rw [gA_1n _ _ _ h10, gA_1n _ _ _ h5, gA_1n _ _ _ h7]
  · unfold f_takeOut
    split
    · rfl
    · rw [f_pay_1 _ _ _ j h6, f_takeA_1 _ _ _ j h5 h7 h10]
theorem f_battery_2 (u : GS) (h : Int) (j : Nat) (h2 : j ≠ 2) : (f_battery u h).2 j = u.2 j := by
  unfold f_battery
  split
  · rfl
  · unfold f_takeOut
    split
    · rfl
    · rw [f_pay_2 _ _ _ j h2]; rfl
theorem f_supplier_1 (u : GS) (h : Int) (j : Nat) (h6 : j ≠ 6) (h10 : j ≠ 10) : (f_supplier u h).1 j = u.1 j := by
  unfold f_supplier f_supPay
  split <;> rw [gA_1n _ _ _ h10, gV_1, gA_1n _ _ _ h6]
theorem f_supplier_2 (u : GS) (h : Int) (j : Nat) (h3 : j ≠ 3) : (f_supplier u h).2 j = u.2 j := by
  unfold f_supplier f_supPay
  split <;> (rw [gA_2, gV_2n _ _ h3]; rfl)
theorem GI3_congr {h : Int} {u v : GS} (e : ∀ j : Nat, j ≤ 14 → j ≠ 6 → j ≠ 9 → j ≠ 10 → v.1 j = u.1 j) (h5 : v.2 5 = u.2 5) (hu : GI3 h u) : GI3 h v :=
  ⟨Base_congr (fun j a b c => e j (by omega) b (by omega) (by omega)) hu.1, BI_congr (fun j a b => e j b (by omega) (by omega) (by omega)) h5 hu.2.1, by rw [e 7 (by omega) (by omega) (by omega) (by omega)]; exact hu.2.2.1, by rw [e 7 (by omega) (by omega) (by omega) (by omega)]; exact hu.2.2.2⟩
theorem Base_store {u v : GS} {h x : Int} (e : ∀ j : Nat, j ≤ 8 → j ≠ 5 → j ≠ 6 → j ≠ 7 → v.1 j = u.1 j) (e5 : v.1 5 = updZ (u.1 5) h x) (h0 : 0 ≤ x) (h1 : x ≤ u.1 4 h) (hb : Base u) : Base v := by
  obtain ⟨b0, b1, b2, b3, b8, b5, b4, bs⟩ := hb
  unfold Base
  rw [e 0 (by omega) (by omega) (by omega) (by omega), e 1 (by omega) (by omega) (by omega) (by omega), e 2 (by omega) (by omega) (by omega) (by omega), e 3 (by omega) (by omega) (by omega) (by omega), e 4 (by omega) (by omega) (by omega) (by omega), e 8 (by omega) (by omega) (by omega) (by omega), e5]
  refine ⟨b0, b1, b2, b3, b8, fun i => ?_, b4, bs⟩
  unfold updZ
  split
  · next q => rw [q]; exact ⟨h0, h1⟩
  · exact b5 i
theorem GI3_battery {h : Int} (hh0 : 0 ≤ h) {u : GS} (g : GI3 (h + 1) u) : GI3 (h + 1) (f_battery u h) := by
  obtain ⟨g1, g2, g3, g4⟩ := g
  have hb := g1.2.2.2.2.2.1 h
  have hl := g3 h
  have L : ∀ i, i ≠ h → (f_battery u h).1 7 i = u.1 7 i := by
    intro i hi
    unfold f_battery
    split
    · exact updZ_n _ _ hi
    · unfold f_takeOut
      split
      · rfl
      · rw [f_pay_1 _ _ _ 7 (by decide)]; exact updZ_n _ _ hi
  have Lh : -1000 ≤ (f_battery u h).1 7 h ∧ (f_battery u h).1 7 h ≤ 1000 ∧ Base (f_battery u h) := by
    unfold f_battery
    split
    · next q =>
      have hz := zmin_sp (u.1 7 h) (u.1 4 h - u.1 5 h)
      have e : (f_putIn u h (zmin (u.1 7 h) (u.1 4 h - u.1 5 h))).1 7 h = u.1 7 h - zmin (u.1 7 h) (u.1 4 h - u.1 5 h) := updZ_s _ _ _
      rw [e]
      exact ⟨by omega, by omega, Base_store (u := u) (h := h) (x := u.1 5 h + zmin (u.1 7 h) (u.1 4 h - u.1 5 h)) (fun j a b c d => by unfold f_putIn; rw [gA_1n _ _ _ (by omega), gA_1n _ _ _ b, gA_1n _ _ _ d]) rfl (by omega) (by omega) g1⟩
    · next q =>
      have hz := zmin_sp (-(u.1 7 h)) (u.1 5 h)
      unfold f_takeOut
      split
      · exact ⟨by omega, by omega, g1⟩
      · next q2 =>
        rw [f_pay_1 _ _ _ 7 (by decide)]
        have e : (f_takeA u h (zmin (-(u.1 7 h)) (u.1 5 h))).1 7 h = u.1 7 h + zmin (-(u.1 7 h)) (u.1 5 h) := updZ_s _ _ _
        rw [e]
        exact ⟨by omega, by omega, Base_store (u := u) (h := h) (x := u.1 5 h - zmin (-(u.1 7 h)) (u.1 5 h)) (fun j a b c d => by rw [f_pay_1 _ _ _ j c, f_takeA_1 _ _ _ j b d (by omega)]) (by rw [f_pay_1 _ _ _ 5 (by decide)]; rfl) (by omega) (by omega) g1⟩
  refine ⟨Lh.2.2, BI_congr (fun j a b => f_battery_1 u h j (by omega) (by omega) (by omega) (by omega)) (f_battery_2 u h 5 (by decide)) g2, fun i => ?_, fun i hi => ?_⟩
  · by_cases e : i = h
    · rw [e]; exact ⟨Lh.1, Lh.2.1⟩
    · rw [L i e]; exact g3 i
  · rw [L i (by omega)]; exact g4 i hi
theorem GI3_house {h : Int} (hh0 : 0 ≤ h) {u : GS} (g : GI3 h u) : GI3 (h + 1) (f_settle u h) ∧ GI3 (h + 1) (f_battery (f_settle u h) h) ∧ GI3 (h + 1) (f_supplier (f_battery (f_settle u h) h) h) ∧ GI3 (h + 1) (f_house h u) := by
  have a := (GI3_settlek hh0 g (u.2 5).toNat (by have := g.2.1.1; have := g.2.1.2.1; omega)).1
  have b := GI3_battery hh0 a
  have c : GI3 (h + 1) (f_supplier (f_battery (f_settle u h) h) h) := GI3_congr (fun j _ h6 _ h10 => f_supplier_1 _ h j h6 h10) (f_supplier_2 _ h 5 (by decide)) b
  exact ⟨a, b, c, GI3_congr (fun j _ h6 _ h10 => f_pay_1 _ h _ j h6) (f_pay_2 _ h _ 5 (by decide)) c⟩
theorem GI3_housek {u : GS} (g : GI3 0 u) (k : Nat) (hk : k ≤ 6) : GI3 (k : Int) (zfor k f_house u) := zfor_inv f_house u (fun i a => GI3 i a) 6 g (fun i a h0 h1 h => (GI3_house h0 h).2.2.2) k hk
/-- between the calls -/
def GI (u : GS) : Prop := Base u ∧ BI u ∧ ∀ i, (i < 0 ∨ 6 ≤ i) → -50 ≤ u.1 7 i ∧ u.1 7 i ≤ 50
theorem f_begin_7 (u : GS) (i : Int) : (f_begin u).1 7 i = if 0 ≤ i ∧ i < 6 then u.1 2 i else u.1 7 i := by
  have a : (zfor 6 f_beginW (gV u 5 0)).1 7 = u.1 7 ∧ (zfor 6 f_beginW (gV u 5 0)).1 2 = u.1 2 := zfor_inv f_beginW (gV u 5 0) (fun _ a => a.1 7 = u.1 7 ∧ a.1 2 = u.1 2) 6 ⟨rfl, rfl⟩ (fun i a _ _ h => h) 6 (by omega)
  have b := zfor_inv f_beginL (zfor 6 f_beginW (gV u 5 0)) (fun k a => a.1 2 = u.1 2 ∧ ∀ i, a.1 7 i = if 0 ≤ i ∧ i < k then u.1 2 i else u.1 7 i) 6 ⟨a.2, fun i => by rw [a.1, if_neg (by omega)]⟩ (fun k a h0 h1 h => ⟨h.1, fun i => by
    show updZ (a.1 7) k (a.1 2 k) i = _
    unfold updZ
    split
    · next e => rw [e, if_pos (by omega), h.1]
    · rw [h.2 i]
      by_cases q : 0 ≤ i ∧ i < k
      · rw [if_pos q, if_pos (by omega)]
      · rw [if_neg q, if_neg (by omega)]⟩) 6 (by omega)
  exact b.2 i
theorem GI1_begin {u : GS} (h : GI u) : GI1 (f_begin u) := by
  obtain ⟨h1, ⟨-, -, h2⟩, h3⟩ := h
  refine ⟨Base_congr (fun j a b c => f_begin_1 u j c (by omega)) h1, ?_, fun i => ?_, ?_⟩
  · unfold BI
    rw [f_begin_2, f_begin_1 u 11 (by decide) (by decide), f_begin_1 u 12 (by decide) (by decide), f_begin_1 u 13 (by decide) (by decide), f_begin_1 u 14 (by decide) (by decide), gV_2s]
    exact ⟨by omega, by omega, h2⟩
  · rw [f_begin_7]
    have a := h1.2.2.1 i
    have b := h3 i
    split <;> omega
  · rw [f_begin_2, gV_2s]
    have := NZ_rg ((f_begin u).1 7)
    omega
theorem f_cutR_rg (u : GS) (k lim : Int) : f_cutR u k lim = 0 ∨ f_cutR u k lim = 1 := by unfold f_cutR; split <;> omega
end
section
/-! THE REFERENCE: what its small answers are -/
theorem m_in_sp (v a b : Int) : (a ≤ v ∧ v ≤ b ∧ m_in v a b = 1) ∨ (¬ (a ≤ v ∧ v ≤ b) ∧ m_in v a b = 0) := by unfold m_in; split <;> omega
theorem m_goes_sp (a b c : Int) : (a = 0 ∧ m_goesC a b c = 1 ∧ m_goesR a b c = 0) ∨ (a ≠ 0 ∧ b = 0 ∧ m_goesC a b c = 2 ∧ m_goesR a b c = 0) ∨ (a ≠ 0 ∧ b ≠ 0 ∧ c ≠ 0 ∧ m_goesC a b c = 0 ∧ m_goesR a b c = 1) ∨ (a ≠ 0 ∧ b ≠ 0 ∧ c = 0 ∧ m_goesC a b c = 3 ∧ m_goesR a b c = 0) := by
  unfold m_goesR m_goesC
  repeat' split
  all_goals omega
theorem m_belongs_sp (w : GS) (h : Int) : (0 ≤ h ∧ h ≤ 5 ∧ w.1 7 h = 0 ∧ m_belongs w h = 1) ∨ (¬ (0 ≤ h ∧ h ≤ 5 ∧ w.1 7 h = 0) ∧ m_belongs w h = 0) := by
  have := m_in_sp h 0 5
  unfold m_belongs
  split <;> omega
theorem m_lesser_sp (a b : Int) : (a < b ∧ m_lesser a b = a) ∨ (b ≤ a ∧ m_lesser a b = b) := by unfold m_lesser; split <;> omega
theorem m_size_sp (a : Int) : (a < 0 ∧ m_size a = -a) ∨ (0 ≤ a ∧ m_size a = a) := by unfold m_size; split <;> omega
theorem m_buyer_sp (w : GS) (h : Int) : (w.1 7 h = 0 ∧ w.1 1 h < 0 ∧ m_buyer w h = 1) ∨ (¬ (w.1 7 h = 0 ∧ w.1 1 h < 0) ∧ m_buyer w h = 0) := by unfold m_buyer; split <;> omega
theorem m_isel_sp (w : GS) (h : Int) : (w.1 7 h = 0 ∧ 0 < w.1 1 h ∧ m_isel w h = 1) ∨ (¬ (w.1 7 h = 0 ∧ 0 < w.1 1 h) ∧ m_isel w h = 0) := by unfold m_isel; split <;> omega
theorem m_turnk (w : GS) (h : Int) (k : Nat) (hk : k ≤ 6) : 0 ≤ zfor k (m_turnS w h) 0 ∧ zfor k (m_turnS w h) 0 ≤ 6 := by
  have := zfor_inv (m_turnS w h) 0 (fun i a => 0 ≤ a ∧ a ≤ i) 6 (by omega) (fun i a h0 h1 h => by simp only [m_turnS]; split <;> omega) k hk
  omega
theorem m_sellerk (w : GS) (b : Int) (k : Nat) (hk : k ≤ 6) : -1 ≤ zfor k (m_sellerS w b) (-1) ∧ zfor k (m_sellerS w b) (-1) ≤ 5 := by
  refine zfor_inv (m_sellerS w b) (-1) (fun _ a => -1 ≤ a ∧ a ≤ 5) 6 (by omega) (fun i a h0 h1 h => ?_) k hk
  simp only [m_sellerS]
  split <;> omega
theorem m_seller_spec (w : GS) (b : Int) : m_seller w b = -1 ∨ (0 ≤ m_seller w b ∧ m_seller w b ≤ 5 ∧ w.1 7 (m_seller w b) = 0 ∧ 0 < w.1 1 (m_seller w b) ∧ 0 < w.1 14 (m_seller w b) ∧ w.1 2 (m_seller w b) ≤ w.1 2 b) := by
  have := zfor_inv (m_sellerS w b) (-1) (fun i a => a = -1 ∨ (0 ≤ a ∧ a < i ∧ w.1 7 a = 0 ∧ 0 < w.1 1 a ∧ 0 < w.1 14 a ∧ w.1 2 a ≤ w.1 2 b)) 6 (Or.inl rfl) (fun i a h0 h1 h => by
    have hs := m_isel_sp w i
    simp only [m_sellerS]
    split
    · next hc => exact Or.inr ⟨h0, by omega, by omega, by omega, hc.2.1, hc.2.2.1⟩
    · rcases h with h | h
      · exact Or.inl h
      · exact Or.inr ⟨h.1, by omega, h.2.2⟩) 6 (by omega)
  rcases this with h | ⟨h1, h2, h3⟩
  · exact Or.inl h
  · exact Or.inr ⟨h1, by have : m_seller w b < ((6 : Nat) : Int) := h2
                         omega, h3⟩
theorem m_over_rg (w : GS) (t k : Int) : m_over w t k = 0 ∨ m_over w t k = 1 ∨ m_over w t k = -1 := by
  unfold m_over; repeat' (first | omega | split)
theorem m_flowk (w : GS) (k : Int) (hU : ∀ i, -1000 ≤ w.1 10 i ∧ w.1 10 i ≤ 1000) (n : Nat) (hn : n ≤ 6) : -6000 ≤ zfor n (m_flowS w k) 0 ∧ zfor n (m_flowS w k) 0 ≤ 6000 := by
  have := zfor_inv (m_flowS w k) 0 (fun i a => -(1000 * i) ≤ a ∧ a ≤ 1000 * i) 6 (by omega) (fun i a h0 h1 h => by
    simp only [m_flowS]
    have hu := hU i
    rcases m_over_rg w i k with e | e | e <;> rw [e] <;> omega) n hn
  omega
def sgn (x : Int) : Int := if 0 < x then 1 else -1
theorem m_latk (w : GS) (k fl : Int) (n : Nat) : (zfor n (m_latS w k fl) (-1) = -1 ∧ ∀ t : Int, 0 ≤ t → t < n → ¬ (0 < w.1 10 t ∧ m_over w t k = sgn fl)) ∨ (0 ≤ zfor n (m_latS w k fl) (-1) ∧ zfor n (m_latS w k fl) (-1) < n ∧ 0 < w.1 10 (zfor n (m_latS w k fl) (-1)) ∧ m_over w (zfor n (m_latS w k fl) (-1)) k = sgn fl) := by
  have := zfor_inv (m_latS w k fl) (-1) (fun i a => (a = -1 ∧ ∀ t : Int, 0 ≤ t → t < i → ¬ (0 < w.1 10 t ∧ m_over w t k = sgn fl)) ∨ (0 ≤ a ∧ a < i ∧ 0 < w.1 10 a ∧ m_over w a k = sgn fl)) n (Or.inl ⟨rfl, fun t a b => absurd b (by omega)⟩) (fun i a h0 h1 h => by
    show (_ ∨ _)
    have e : m_latS w k fl i a = if 0 < w.1 10 i ∧ m_over w i k = sgn fl then i else a := rfl
    rw [e]
    split
    · next hc => exact Or.inr ⟨h0, by omega, hc.1, hc.2⟩
    · next hc =>
      rcases h with ⟨h2, h3⟩ | ⟨h2, h3, h4⟩
      · refine Or.inl ⟨h2, fun t a b => ?_⟩
        by_cases q : t = i
        · rw [q]; exact hc
        · exact h3 t a (by omega)
      · exact Or.inr ⟨h2, by omega, h4⟩) n (by omega)
  exact this
theorem m_flow_sg (w : GS) (k s : Int) (hU : ∀ i, 0 ≤ w.1 10 i) (hs : s = 1 ∨ s = -1) (n : Nat) (h : ∀ t : Int, 0 ≤ t → t < n → ¬ (0 < w.1 10 t ∧ m_over w t k = s)) : s * zfor n (m_flowS w k) 0 ≤ 0 := by
  refine zfor_inv (m_flowS w k) 0 (fun _ a => s * a ≤ 0) n (by omega) (fun i a h0 h1 q => ?_) n (by omega)
  have hu := hU i
  have hi := h i h0 h1
  simp only [m_flowS]
  rcases hs with rfl | rfl <;> rcases m_over_rg w i k with e | e | e <;> rw [e] at hi ⊢ <;> omega
/-- where the flow is above the limit, there is a trade to cut -/
theorem m_lat_spec (w : GS) (k : Int) (hU : ∀ i, 0 ≤ w.1 10 i) (hl : 0 ≤ w.1 3 k) (hc : 0 ≤ w.2 5) (h : w.1 3 k < m_size (m_flow w k)) : 0 ≤ m_lat w k ∧ m_lat w k < w.2 5 ∧ 0 < w.1 10 (m_lat w k) ∧ m_over w (m_lat w k) k = sgn (m_flow w k) := by
  rcases m_latk w k (m_flow w k) (w.2 5).toNat with ⟨h1, h2⟩ | ⟨h1, h2, h3⟩
  · have h3 : sgn (m_flow w k) * m_flow w k ≤ 0 := m_flow_sg w k (sgn (m_flow w k)) hU (by unfold sgn; split <;> omega) _ h2
    have h4 := m_size_sp (m_flow w k)
    unfold sgn at h3
    split at h3 <;> omega
  · have e : ((w.2 5).toNat : Int) = w.2 5 := Int.toNat_of_nonneg hc
    rw [e] at h2
    exact ⟨h1, h2, h3⟩
def MBase (w : GS) : Prop := (∀ i, 0 ≤ w.1 7 i ∧ w.1 7 i ≤ 1) ∧ (∀ i, -50 ≤ w.1 0 i ∧ w.1 0 i ≤ 50) ∧ (∀ i, -50 ≤ w.1 1 i ∧ w.1 1 i ≤ 50) ∧ (∀ i, 0 ≤ w.1 2 i ∧ w.1 2 i ≤ 100) ∧ (∀ i, 0 ≤ w.1 3 i ∧ w.1 3 i ≤ 300) ∧ (∀ i, 0 ≤ w.1 5 i ∧ w.1 5 i ≤ w.1 4 i) ∧ (∀ i, w.1 4 i ≤ 120)
def MBk (w : GS) : Prop := 0 ≤ w.2 5 ∧ w.2 5 ≤ 6 ∧ ∀ t, 0 ≤ w.1 10 t ∧ w.1 10 t ≤ 50 ∧ 0 ≤ w.1 8 t ∧ w.1 8 t ≤ 5 ∧ 0 ≤ w.1 9 t ∧ w.1 9 t ≤ 5
def MOut (w : GS) : Prop := ∀ i, (i < 0 ∨ 6 ≤ i) → 0 ≤ w.1 14 i ∧ w.1 14 i ≤ 50
theorem Bdm_of {w : GS} (h1 : MBase w) (h2 : MBk w) (h3 : ∀ i, 0 ≤ w.1 14 i ∧ w.1 14 i ≤ 1000) : Bdm w := by
  obtain ⟨a7, a0, a1, a2, a3, a5, a4⟩ := h1
  obtain ⟨-, -, b⟩ := h2
  intro j hz i
  have e0 := a0 i; have e1 := a1 i; have e2 := a2 i; have e3 := a3 i; have e7 := a7 i; have e5 := a5 i; have e4 := a4 i; have e9 := h3 i
  have eb := b i
  match j, hz with
  | 0, _ => omega
  | 1, _ => omega
  | 2, _ => omega
  | 3, _ => omega
  | 4, _ => omega
  | 5, _ => omega
  | 6, hz => exact absurd hz (by decide)
  | 7, _ => omega
  | 8, _ => omega
  | 9, _ => omega
  | 10, _ => omega
  | 11, hz => exact absurd hz (by decide)
  | 12, hz => exact absurd hz (by decide)
  | 13, hz => exact absurd hz (by decide)
  | 14, _ => omega
  | k + 15, hz => exact absurd hz (by simp [zokM])
theorem MBase_congr {u v : GS} (h : ∀ j : Nat, j ≤ 7 → j ≠ 6 → v.1 j = u.1 j) (hb : MBase u) : MBase v := by
  unfold MBase
  rw [h 0 (by omega) (by omega), h 1 (by omega) (by omega), h 2 (by omega) (by omega), h 3 (by omega) (by omega), h 4 (by omega) (by omega), h 5 (by omega) (by omega), h 7 (by omega) (by omega)]
  exact hb
theorem MBk_congr {u v : GS} (h : ∀ j : Nat, 8 ≤ j → j ≤ 10 → v.1 j = u.1 j) (h5 : v.2 5 = u.2 5) (hb : MBk u) : MBk v := by
  unfold MBk
  rw [h5, h 8 (by omega) (by omega), h 9 (by omega) (by omega), h 10 (by omega) (by omega)]
  exact hb
theorem m_trade_1 (w : GS) (s b : Int) (j : Nat) (h : j < 8) : (m_trade w s b).1 j = w.1 j := by
  unfold m_trade
  rw [gA_1n _ _ _ (by omega), gA_1n _ _ _ (by omega), gV_1, gA_1n _ _ _ (by omega), gA_1n _ _ _ (by omega), gA_1n _ _ _ (by omega), gA_1n _ _ _ (by omega)]
theorem NZ_ge {f : Int → Int} {b : Int} (hb : 0 ≤ b ∧ b ≤ 5) : f b = 0 ∨ 1 ≤ NZ f := by
  have h0 := zc_rg (f 0); have h1 := zc_rg (f 1); have h2 := zc_rg (f 2); have h3 := zc_rg (f 3); have h4 := zc_rg (f 4); have h5 := zc_rg (f 5)
  by_cases h : f b = 0
  · exact Or.inl h
  · have e := zc_n h
    refine Or.inr ?_
    unfold NZ
    rcases z05 hb with rfl | rfl | rfl | rfl | rfl | rfl <;> omega
/-- while buyers take -/
def MI1 (w : GS) : Prop := MBase w ∧ MBk w ∧ (∀ i, 0 ≤ w.1 14 i ∧ w.1 14 i ≤ 50) ∧ w.2 5 + NZ (w.1 14) ≤ 6
theorem MI1.bd {w : GS} (h : MI1 w) : Bdm w := Bdm_of h.1 h.2.1 (fun i => by have := h.2.2.1 i; omega)
theorem MI1_trade {w : GS} {s b : Int} (h : MI1 w) (hs : 0 ≤ s ∧ s ≤ 5) (hb : 0 ≤ b ∧ b ≤ 5) (hsb : s ≠ b) (hL : 0 < w.1 14 s) (hLb : 0 < w.1 14 b) : MI1 (m_trade w s b) ∧ NZ ((m_trade w s b).1 14) + 1 ≤ NZ (w.1 14) := by
  obtain ⟨h1, ⟨c0, c6, hB⟩, h3, h4⟩ := h
  have hx := m_lesser_sp (w.1 14 b) (w.1 14 s)
  have e14 : (m_trade w s b).1 14 = updZ (updZ (w.1 14) b (w.1 14 b - m_lesser (w.1 14 b) (w.1 14 s))) s (updZ (w.1 14) b (w.1 14 b - m_lesser (w.1 14 b) (w.1 14 s)) s - m_lesser (w.1 14 b) (w.1 14 s)) := rfl
  have hN : NZ ((m_trade w s b).1 14) + 1 ≤ NZ (w.1 14) := by
    rw [e14]
    refine NZ_lt hs hb hsb (fun i a c => by rw [updZ_n _ _ a, updZ_n _ _ c]) (by omega) (by omega) ?_
    rw [updZ_s, updZ_n _ _ hsb, updZ_n _ _ (Ne.symm hsb), updZ_s]
    omega
  have hR := NZ_rg ((m_trade w s b).1 14)
  refine ⟨⟨MBase_congr (fun j a _ => m_trade_1 w s b j (by omega)) h1, ⟨?_, ?_, fun t => ?_⟩, fun i => ?_, ?_⟩, hN⟩
  · show 0 ≤ w.2 5 + 1; omega
  · show w.2 5 + 1 ≤ 6; omega
  · have ht := hB t
    have hls := h3 s
    have hlb := h3 b
    show 0 ≤ updZ (w.1 10) (w.2 5) (m_lesser (w.1 14 b) (w.1 14 s)) t ∧ updZ (w.1 10) (w.2 5) (m_lesser (w.1 14 b) (w.1 14 s)) t ≤ 50 ∧ 0 ≤ updZ (w.1 8) (w.2 5) s t ∧ updZ (w.1 8) (w.2 5) s t ≤ 5 ∧ 0 ≤ updZ (w.1 9) (w.2 5) b t ∧ updZ (w.1 9) (w.2 5) b t ≤ 5
    unfold updZ
    split <;> omega
  · rw [e14]
    have hi := h3 i
    have hls := h3 s
    have hlb := h3 b
    unfold updZ
    split
    · omega
    · split <;> omega
  · show w.2 5 + 1 + NZ ((m_trade w s b).1 14) ≤ 6
    omega
theorem m_takesL_ok {b : Int} (hb : 0 ≤ b ∧ b ≤ 5) : ∀ (n : Nat) (w : GS), MI1 w → m_buyer w b ≠ 0 → MI1 (m_takesL b n w) := by
  intro n
  induction n with
  | zero => intro w h _; exact h
  | succ n ih =>
    intro w h hbu
    have hsp := m_seller_spec w b
    have hbs := m_buyer_sp w b
    simp only [m_takesL]
    split
    · next hc =>
      rcases hsp with q | ⟨q1, q2, q3, q4, q5, q6⟩
      · exact absurd q hc.2
      · have hne : m_seller w b ≠ b := fun q => by rw [q] at q4; omega
        refine ih _ (MI1_trade h ⟨q1, q2⟩ hb hne q5 hc.1).1 ?_
        unfold m_buyer
        rw [m_trade_1 _ _ _ 7 (by decide), m_trade_1 _ _ _ 1 (by decide)]
        exact hbu
    · exact h
theorem MI1_matchI {r k : Int} (hk : 0 ≤ k ∧ k ≤ 5) {w : GS} (h : MI1 w) : MI1 (m_matchI r k w) := by
  simp only [m_matchI]
  split
  · next hc => exact m_takesL_ok hk 8 w h hc.1
  · exact h
theorem MI1_matchIk {r : Int} {w : GS} (hw : MI1 w) (k : Nat) (hk : k ≤ 6) : MI1 (zfor k (m_matchI r) w) := zfor_inv (m_matchI r) w (fun _ a => MI1 a) 6 hw (fun i a h0 h1 h => MI1_matchI ⟨h0, by omega⟩ h) k hk
theorem MI1_matchOk {w : GS} (hw : MI1 w) (k : Nat) (hk : k ≤ 6) : MI1 (zfor k m_matchO w) := zfor_inv m_matchO w (fun _ a => MI1 a) 6 hw (fun i a h0 h1 h => MI1_matchIk h 6 (by omega)) k hk
/-- all units that trades still have -/
def SU (w : GS) : Int := w.1 10 0 + w.1 10 1 + w.1 10 2 + w.1 10 3 + w.1 10 4 + w.1 10 5
def MI2 (w : GS) : Prop := MBase w ∧ MBk w ∧ ∀ i, 0 ≤ w.1 14 i ∧ w.1 14 i + 2 * SU w ≤ 650
theorem SU_rg {w : GS} (h : MBk w) : 0 ≤ SU w ∧ SU w ≤ 300 := by
  have h0 := h.2.2 0; have h1 := h.2.2 1; have h2 := h.2.2 2; have h3 := h.2.2 3; have h4 := h.2.2 4; have h5 := h.2.2 5
  unfold SU; omega
theorem MI2.bd {w : GS} (h : MI2 w) : Bdm w := Bdm_of h.1 h.2.1 (fun i => by have := h.2.2 i; have := SU_rg h.2.1; omega)
theorem MI1.to2 {w : GS} (h : MI1 w) : MI2 w := ⟨h.1, h.2.1, fun i => by have := h.2.2.1 i; have := SU_rg h.2.1; omega⟩
theorem m_cut1_1 (w : GS) (lt x : Int) (j : Nat) (h6 : j ≠ 6) (h10 : j ≠ 10) (h14 : j ≠ 14) : (m_cut1 w lt x).1 j = w.1 j := by
  unfold m_cut1 m_cutC m_cutB m_cutA
  rw [gV_1, gA_1n _ _ _ h6, gA_1n _ _ _ h14, gA_1n _ _ _ h14, gA_1n _ _ _ h10]
theorem m_cut1_2 (w : GS) (lt x : Int) (j : Nat) (h2 : j ≠ 2) : (m_cut1 w lt x).2 j = w.2 j := by
  unfold m_cut1 m_cutC
  rw [gV_2n _ _ h2]; rfl
theorem SU_cut {w : GS} {lt x : Int} (hl : 0 ≤ lt ∧ lt ≤ 5) : SU (m_cut1 w lt x) = SU w - x := by
  show updZ (w.1 10) lt (w.1 10 lt - x) 0 + updZ (w.1 10) lt (w.1 10 lt - x) 1 + updZ (w.1 10) lt (w.1 10 lt - x) 2 + updZ (w.1 10) lt (w.1 10 lt - x) 3 + updZ (w.1 10) lt (w.1 10 lt - x) 4 + updZ (w.1 10) lt (w.1 10 lt - x) 5 = _
  unfold SU updZ
  rcases z05 hl with rfl | rfl | rfl | rfl | rfl | rfl <;> simp only [Int.reduceEq, if_false, if_true] <;> omega
theorem MI2_cut1 {w : GS} (h : MI2 w) {lt x : Int} (hl : 0 ≤ lt ∧ lt ≤ 5) (h0 : 0 ≤ x) (h1 : x ≤ w.1 10 lt) : MI2 (m_cut1 w lt x) := by
  obtain ⟨a, b, c⟩ := h
  have hs := SU_cut (w := w) (lt := lt) (x := x) hl
  refine ⟨MBase_congr (fun j q1 q2 => m_cut1_1 w lt x j q2 (by omega) (by omega)) a, ⟨by rw [m_cut1_2 _ _ _ 5 (by decide)]; exact b.1, by rw [m_cut1_2 _ _ _ 5 (by decide)]; exact b.2.1, fun t => ?_⟩, fun i => ?_⟩
  · rw [m_cut1_1 _ _ _ 8 (by decide) (by decide) (by decide), m_cut1_1 _ _ _ 9 (by decide) (by decide) (by decide)]
    have hb := b.2.2 t
    have e : (m_cut1 w lt x).1 10 t = updZ (w.1 10) lt (w.1 10 lt - x) t := rfl
    rw [e]
    unfold updZ
    split
    · next q => subst q; omega
    · omega
  · rw [hs]
    have ci := c i
    have e : (m_cut1 w lt x).1 14 i = updZ (updZ (w.1 14) (w.1 8 lt) (w.1 14 (w.1 8 lt) + x)) (w.1 9 lt) (updZ (w.1 14) (w.1 8 lt) (w.1 14 (w.1 8 lt) + x) (w.1 9 lt) + x) i := rfl
    rw [e]
    have c8 := c (w.1 8 lt)
    have c9 := c (w.1 9 lt)
    unfold updZ
    split
    · split <;> omega
    · split <;> omega
theorem m_its_rg {w : GS} (h : MI2 w) {k : Int} (hq : w.1 3 k < m_size (m_flow w k)) : 0 ≤ m_lat w k ∧ m_lat w k < w.2 5 ∧ m_lat w k ≤ 5 ∧ 1 ≤ m_its w k ∧ m_its w k ≤ w.1 10 (m_lat w k) ∧ m_its w k ≤ 50 := by
  have := m_lat_spec w k (fun i => (h.2.1.2.2 i).1) (h.1.2.2.2.2.1 k).1 h.2.1.1 hq
  have hc := h.2.1.2.1
  have hu := h.2.1.2.2 (m_lat w k)
  have hz := m_lesser_sp (w.1 10 (m_lat w k)) (m_size (m_flow w k) - w.1 3 k)
  have e : m_its w k = m_lesser (w.1 10 (m_lat w k)) (m_size (m_flow w k) - w.1 3 k) := rfl
  omega
theorem m_cutsL_ok (k : Int) : ∀ (n : Nat) (x : Int × GS), MI2 x.2 → MI2 (m_cutsL k n x).2 ∧ (m_cutsL k n x).1 + SU (m_cutsL k n x).2 = x.1 + SU x.2 ∧ x.1 ≤ (m_cutsL k n x).1 := by
  intro n
  induction n with
  | zero => intro x h; exact ⟨h, rfl, Int.le_refl _⟩
  | succ n ih =>
    intro x h
    simp only [m_cutsL]
    split
    · next hc =>
      obtain ⟨r1, r2, r3, r4, r5, r6⟩ := m_its_rg h hc
      have h2 := MI2_cut1 h ⟨r1, r3⟩ (by omega) r5
      have hs := SU_cut (w := x.2) (lt := m_lat x.2 k) (x := m_its x.2 k) ⟨r1, r3⟩
      obtain ⟨i1, i2, i3⟩ := ih (x.1 + m_its x.2 k, m_cut1 x.2 (m_lat x.2 k) (m_its x.2 k)) h2
      exact ⟨i1, by rw [i2]; show x.1 + m_its x.2 k + SU (m_cut1 x.2 (m_lat x.2 k) (m_its x.2 k)) = _; rw [hs]; omega, by have : x.1 + m_its x.2 k ≤ _ := i3; omega⟩
    · exact ⟨h, rfl, Int.le_refl _⟩
theorem m_cuts_ok {w : GS} (h : MI2 w) (k : Int) : MI2 (m_cuts w k).2 ∧ (m_cuts w k).1 + SU (m_cuts w k).2 = SU w ∧ 0 ≤ (m_cuts w k).1 := by
  obtain ⟨a, b, c⟩ := m_cutsL_ok k 301 (0, w) h
  exact ⟨a, by unfold m_cuts; rw [b]; show 0 + SU w = SU w; omega, c⟩
theorem m_pass_ok : ∀ (n : Nat) (x : Int × GS), MI2 x.2 → MI2 (m_pass n x).2 ∧ (m_pass n x).1 + SU (m_pass n x).2 = x.1 + SU x.2 ∧ x.1 ≤ (m_pass n x).1 := by
  intro n
  induction n with
  | zero => intro x h; exact ⟨h, rfl, Int.le_refl _⟩
  | succ n ih =>
    intro x h
    simp only [m_pass]
    obtain ⟨a, b, c⟩ := m_cuts_ok h (n : Int)
    obtain ⟨i1, i2, i3⟩ := ih (x.1 + (m_cuts x.2 (n : Int)).1, (m_cuts x.2 (n : Int)).2) a
    exact ⟨i1, by rw [i2]; show x.1 + (m_cuts x.2 (n : Int)).1 + SU (m_cuts x.2 (n : Int)).2 = _; omega, by have : x.1 + (m_cuts x.2 (n : Int)).1 ≤ _ := i3; omega⟩
theorem MI2_went {w : GS} (h : MI2 w) (i x : Int) : MI2 (gA w 12 i x) := h
theorem m_cutAll_ok : ∀ (n : Nat) (x : Int × GS), MI2 x.2 → MI2 (m_cutAll n x) := by
  intro n
  induction n with
  | zero => intro x h; exact h
  | succ n ih =>
    intro x h
    simp only [m_cutAll]
    split
    · exact ih _ (MI2_went (m_pass_ok 5 (0, x.2) h).1 _ _)
    · exact h
/-- while houses keep and draw -/
def MI3 (w : GS) : Prop := MBase w ∧ MBk w ∧ ∀ i, 0 ≤ w.1 14 i ∧ w.1 14 i ≤ 1000
theorem MI3.bd {w : GS} (h : MI3 w) : Bdm w := Bdm_of h.1 h.2.1 h.2.2
theorem MI2.to3 {w : GS} (h : MI2 w) : MI3 w := ⟨h.1, h.2.1, fun i => by have := h.2.2 i; have := SU_rg h.2.1; omega⟩
theorem MI3_congr {u v : GS} (h : ∀ j : Nat, j ≤ 14 → j ≠ 6 → j ≠ 11 → j ≠ 12 → j ≠ 13 → v.1 j = u.1 j) (h5 : v.2 5 = u.2 5) (hu : MI3 u) : MI3 v :=
  ⟨MBase_congr (fun j a b => h j (by omega) b (by omega) (by omega) (by omega)) hu.1, MBk_congr (fun j a b => h j (by omega) (by omega) (by omega) (by omega) (by omega)) h5 hu.2.1, by rw [h 14 (by omega) (by omega) (by omega) (by omega) (by omega)]; exact hu.2.2⟩
theorem MI3_store {w v : GS} {h x y : Int} (e : ∀ j : Nat, j ≤ 10 → j ≠ 5 → j ≠ 6 → v.1 j = w.1 j) (e5 : v.1 5 = updZ (w.1 5) h x) (e14 : v.1 14 = updZ (w.1 14) h y) (h5 : v.2 5 = w.2 5) (hx : 0 ≤ x ∧ x ≤ w.1 4 h) (hy : 0 ≤ y ∧ y ≤ 1000) (hw : MI3 w) : MI3 v := by
  obtain ⟨⟨a7, a0, a1, a2, a3, a5, a4⟩, hk, hl⟩ := hw
  refine ⟨?_, MBk_congr (fun j a b => e j b (by omega) (by omega)) h5 hk, fun i => ?_⟩
  · unfold MBase
    rw [e 0 (by omega) (by omega) (by omega), e 1 (by omega) (by omega) (by omega), e 2 (by omega) (by omega) (by omega), e 3 (by omega) (by omega) (by omega), e 4 (by omega) (by omega) (by omega), e 7 (by omega) (by omega) (by omega), e5]
    refine ⟨a7, a0, a1, a2, a3, fun i => ?_, a4⟩
    unfold updZ
    split
    · next q => rw [q]; exact hx
    · exact a5 i
  · rw [e14]
    unfold updZ
    split
    · exact hy
    · exact hl i
theorem m_keeps_1 (w : GS) (h : Int) (j : Nat) (h5 : j ≠ 5) (h6 : j ≠ 6) (h12 : j ≠ 12) (h14 : j ≠ 14) : (m_keeps w h).1 j = w.1 j := by
  unfold m_keeps m_keepD m_keepC m_keepB m_keepA
  rw [gV_1, gA_1n _ _ _ h6, gA_1n _ _ _ h12, gA_1n _ _ _ h12, gA_1n _ _ _ h14, gA_1n _ _ _ h5]
theorem m_keeps_2 (w : GS) (h : Int) (j : Nat) (h3 : j ≠ 3) : (m_keeps w h).2 j = w.2 j := by
  unfold m_keeps m_keepD
  rw [gV_2n _ _ h3]; rfl
theorem m_draws_1 (w : GS) (h : Int) (j : Nat) (h5 : j ≠ 5) (h6 : j ≠ 6) (h12 : j ≠ 12) (h14 : j ≠ 14) : (m_draws w h).1 j = w.1 j := by
  unfold m_draws m_drawZ m_drawF m_drawE m_drawD m_drawC m_drawB m_drawA
  rw [gV_1, gA_1n _ _ _ h6, gA_1n _ _ _ h12, gA_1n _ _ _ h12, gV_1, gA_1n _ _ _ h6, gA_1n _ _ _ h14, gA_1n _ _ _ h5]
theorem m_draws_2 (w : GS) (h : Int) (j : Nat) (h2 : j ≠ 2) (h3 : j ≠ 3) : (m_draws w h).2 j = w.2 j := by
  unfold m_draws m_drawZ m_drawF m_drawE m_drawD m_drawC m_drawB
  rw [gV_2n _ _ h3, gA_2, gA_2, gA_2, gV_2n _ _ h2]; rfl
theorem MI3_keeps {w : GS} (hw : MI3 w) (h : Int) : MI3 (m_keeps w h) := by
  have hb := hw.1.2.2.2.2.2.1 h
  have hl := hw.2.2 h
  have hz := m_lesser_sp (w.1 14 h) (w.1 4 h - w.1 5 h)
  have e : m_keepX w h = m_lesser (w.1 14 h) (w.1 4 h - w.1 5 h) := rfl
  exact MI3_store (w := w) (h := h) (x := w.1 5 h + m_keepX w h) (y := w.1 14 h - m_keepX w h) (fun j a b c => m_keeps_1 w h j b c (by omega) (by omega)) rfl rfl rfl (by omega) (by omega) hw
theorem MI3_draws {w : GS} (hw : MI3 w) (h : Int) : MI3 (m_draws w h) := by
  have hb := hw.1.2.2.2.2.2.1 h
  have hl := hw.2.2 h
  have hz := m_lesser_sp (w.1 14 h) (w.1 5 h)
  have e : m_drawX w h = m_lesser (w.1 14 h) (w.1 5 h) := rfl
  exact MI3_store (w := w) (h := h) (x := w.1 5 h - m_drawX w h) (y := w.1 14 h - m_drawX w h) (fun j a b c => m_draws_1 w h j b c (by omega) (by omega)) rfl rfl rfl (by omega) (by omega) hw
theorem MI3_storeH {w : GS} (hw : MI3 w) (k : Int) : MI3 (m_store w k) := by
  unfold m_store
  split
  · exact MI3_keeps hw k
  · split
    · exact MI3_draws hw k
    · exact hw
theorem MI3_house {w : GS} (hw : MI3 w) (k : Int) : MI3 (m_house k w) := MI3_congr (u := m_store w k) (v := m_house k w) (fun j a b c d f => by show (m_fine (m_store w k) k).1 j = _; unfold m_fine; rw [gV_1, gA_1n _ _ _ b]) rfl (MI3_storeH hw k)
theorem MI3_housek {w : GS} (hw : MI3 w) (k : Nat) : MI3 (zfor k m_house w) := zfor_inv m_house w (fun _ a => MI3 a) k hw (fun i a _ _ h => MI3_house h i) k (by omega)
theorem m_setk_1 (w : GS) (n : Nat) (j : Nat) (h6 : j ≠ 6) (h12 : j ≠ 12) : (zfor n m_setS w).1 j = w.1 j := zfor_inv m_setS w (fun _ a => a.1 j = w.1 j) n rfl (fun i a _ _ h => by show (m_setC i (m_setB i (m_setA i a))).1 j = _; unfold m_setC m_setB m_setA; rw [gA_1n _ _ _ h12, gA_1n _ _ _ h6, gA_1n _ _ _ h6]; exact h) n (by omega)
theorem m_setk_2 (w : GS) (n : Nat) : (zfor n m_setS w).2 = w.2 := zfor_inv m_setS w (fun _ a => a.2 = w.2) n rfl (fun i a _ _ h => h) n (by omega)
theorem MI2_setk {w : GS} (hw : MI2 w) (n : Nat) : MI2 (zfor n m_setS w) := by
  have e10 := m_setk_1 w n 10 (by decide) (by decide)
  refine ⟨MBase_congr (fun j a b => m_setk_1 w n j b (by omega)) hw.1, MBk_congr (fun j a b => m_setk_1 w n j (by omega) (by omega)) (by rw [m_setk_2]) hw.2.1, ?_⟩
  unfold SU
  rw [e10, m_setk_1 w n 14 (by decide) (by decide)]
  exact hw.2.2
theorem m_flowFk_1 (w : GS) (n : Nat) (j : Nat) (h : j ≠ 13) : (zfor n m_flowF w).1 j = w.1 j := zfor_inv m_flowF w (fun _ a => a.1 j = w.1 j) n rfl (fun i a _ _ q => by simp only [m_flowF]; rw [gA_1n _ _ _ h]; exact q) n (by omega)
theorem m_flowFk_2 (w : GS) (n : Nat) : (zfor n m_flowF w).2 = w.2 := zfor_inv m_flowF w (fun _ a => a.2 = w.2) n rfl (fun i a _ _ q => q) n (by omega)
theorem MI3_flowk {w : GS} (hw : MI3 w) (n : Nat) : MI3 (zfor n m_flowF w) := MI3_congr (fun j a b c d f => m_flowFk_1 w n j f) (by rw [m_flowFk_2]) hw
def MI (w : GS) : Prop := MBase w ∧ MBk w ∧ MOut w
theorem m_beginW_1 (w : GS) (j : Nat) (h12 : j ≠ 12) : (zfor 6 m_beginW (gV w 5 0)).1 j = w.1 j := zfor_inv m_beginW (gV w 5 0) (fun _ a => a.1 j = w.1 j) 6 rfl (fun i a _ _ h => by simp only [m_beginW]; rw [gA_1n _ _ _ h12]; exact h) 6 (by omega)
theorem m_beginW_2 (w : GS) : (zfor 6 m_beginW (gV w 5 0)).2 = (gV w 5 0).2 := zfor_inv m_beginW (gV w 5 0) (fun _ a => a.2 = (gV w 5 0).2) 6 rfl (fun i a _ _ h => h) 6 (by omega)
theorem m_begin_1 (w : GS) (j : Nat) (h12 : j ≠ 12) (h14 : j ≠ 14) : (m_begin w).1 j = w.1 j :=
  zfor_inv m_beginL (zfor 6 m_beginW (gV w 5 0)) (fun _ a => a.1 j = w.1 j) 6 (m_beginW_1 w j h12) (fun i a _ _ h => by simp only [m_beginL]; rw [gA_1n _ _ _ h14]; exact h) 6 (by omega)
theorem m_begin_2 (w : GS) : (m_begin w).2 = (gV w 5 0).2 :=
  zfor_inv m_beginL (zfor 6 m_beginW (gV w 5 0)) (fun _ a => a.2 = (gV w 5 0).2) 6 (m_beginW_2 w) (fun i a _ _ h => h) 6 (by omega)
theorem m_begin_14 (w : GS) (i : Int) : (m_begin w).1 14 i = if 0 ≤ i ∧ i < 6 then (if w.1 7 i = 0 then m_size (w.1 1 i) else 0) else w.1 14 i := by
  have b := zfor_inv m_beginL (zfor 6 m_beginW (gV w 5 0)) (fun k a => a.1 7 = w.1 7 ∧ a.1 1 = w.1 1 ∧ ∀ i, a.1 14 i = if 0 ≤ i ∧ i < k then (if w.1 7 i = 0 then m_size (w.1 1 i) else 0) else w.1 14 i) 6 ⟨m_beginW_1 w 7 (by decide), m_beginW_1 w 1 (by decide), fun i => by rw [m_beginW_1 w 14 (by decide), if_neg (by omega)]⟩ (fun k a h0 h1 h => ⟨h.1, h.2.1, fun i => by
    show updZ (a.1 14) k (if a.1 7 k = 0 then m_size (a.1 1 k) else 0) i = _
    unfold updZ
    split
    · next e => rw [e, if_pos (show 0 ≤ k ∧ k < k + 1 by omega), h.1, h.2.1]
    · rw [h.2.2 i]
      by_cases q : 0 ≤ i ∧ i < k
      · rw [if_pos q, if_pos (show 0 ≤ i ∧ i < k + 1 by omega)]
      · rw [if_neg q, if_neg (show ¬ (0 ≤ i ∧ i < k + 1) by omega)]⟩) 6 (by omega)
  exact b.2.2 i
theorem MI1_begin {w : GS} (h : MI w) : MI1 (m_begin w) := by
  obtain ⟨h1, ⟨-, -, h2⟩, h3⟩ := h
  refine ⟨MBase_congr (fun j a b => m_begin_1 w j (by omega) (by omega)) h1, ?_, fun i => ?_, ?_⟩
  · unfold MBk
    rw [m_begin_2, m_begin_1 w 8 (by decide) (by decide), m_begin_1 w 9 (by decide) (by decide), m_begin_1 w 10 (by decide) (by decide), gV_2s]
    exact ⟨by omega, by omega, h2⟩
  · rw [m_begin_14]
    have a := h1.2.2.1 i
    have b := h3 i
    have c := m_size_sp (w.1 1 i)
    repeat' split
    all_goals omega
  · rw [m_begin_2, gV_2s]
    have := NZ_rg ((m_begin w).1 14)
    omega
theorem m_tradk (w : GS) (x : Int) (hM : ∀ i, -50 ≤ w.1 1 i ∧ w.1 1 i ≤ 50) (k : Nat) (hk : k ≤ 6) : 0 ≤ zfor k (m_tradS w x) 0 ∧ zfor k (m_tradS w x) 0 ≤ 600 := by
  have := zfor_inv (m_tradS w x) 0 (fun i a => 0 ≤ a ∧ a ≤ 100 * i) 6 (by omega) (fun i a h0 h1 h => by
    have hm := hM i
    have hb := m_buyer_sp w i
    have hs := m_isel_sp w i
    simp only [m_tradS]
    repeat' split
    all_goals omega) k hk
  omega
theorem m_mostk (w : GS) (hM : ∀ i, -50 ≤ w.1 1 i ∧ w.1 1 i ≤ 50) (k : Nat) (hk : k ≤ 6) : 0 ≤ zfor k (m_mostS w) (m_trad w (-1)) ∧ zfor k (m_mostS w) (m_trad w (-1)) ≤ 600 := by
  refine zfor_inv (m_mostS w) (m_trad w (-1)) (fun i a => 0 ≤ a ∧ a ≤ 600) 6 (m_tradk w (-1) hM 6 (by omega)) (fun i a h0 h1 h => ?_) k hk
  have hb : 0 ≤ m_trad w (w.1 2 i) ∧ m_trad w (w.1 2 i) ≤ 600 := m_tradk w (w.1 2 i) hM 6 (by omega)
  have hz := m_lesser_sp a (m_trad w (w.1 2 i))
  simp only [m_mostS]
  split <;> omega
end
section
set_option maxHeartbeats 4000000 in
set_option maxRecDepth 100000 in
theorem c_X2_in (l : Launch) (D : va_G) (ad : Nat → Nat) (cI cZ cL : ClassId) (v a b : Int) (hv : zB v) (ha : zB a) (hb : zB b) : zMi l D (zT cI cZ cL) yX2_in wsX2_in ({ frames := 0, cells := 0, slots := 0, locals := 0 } : Room) ([]) [.int (iZ v), .int (iZ a), .int (iZ b)] (m_in v a b) ([]) 0 0 := by
  refine z_mi (cc := cX2_in) (maxL := 3) (ret := (some .boolean)) (by decide) rfl (Nat.le_of_ble_eq_true rfl) ?_
  intro p e s m below meth c A X hr hlk hin
  refine z_sub (lv' := [(0, .int (iZ v)), (1, .int (iZ a)), (2, .int (iZ b))]) [0, 1, 2] rfl ?_
  refine z_iload_n X 0 rfl dX2_in_0 ?_
  refine z_iload_n X 1 rfl dX2_in_1 ?_
  refine z_icmp_lt (tgt := 14) X ⟨by omega, by omega⟩ ⟨by omega, by omega⟩ (by decide) dX2_in_2 (fun c_1 => ?_) (fun c_1 => ?_)
  · skip
    refine z_iconst X dX2_in_14 ?_
    exact z_zret X hr hlk (by omega) (by have := m_in_sp v a b; omega) rfl dX2_in_15
  · skip
    refine z_iload_n X 0 rfl dX2_in_5 ?_
    refine z_iload_n X 2 rfl dX2_in_6 ?_
    refine z_icmp_gt (tgt := 14) X ⟨by omega, by omega⟩ ⟨by omega, by omega⟩ (by decide) dX2_in_7 (fun c_2 => ?_) (fun c_2 => ?_)
    · skip
      refine z_iconst X dX2_in_14 ?_
      exact z_zret X hr hlk (by omega) (by have := m_in_sp v a b; omega) rfl dX2_in_15
    · skip
      refine z_iconst X dX2_in_10 ?_
      refine z_goto (tgt := 15) X (by decide) dX2_in_11 ?_
      exact z_zret X hr hlk (by omega) (by have := m_in_sp v a b; omega) rfl dX2_in_15
set_option maxHeartbeats 4000000 in
set_option maxRecDepth 100000 in
theorem c_X2_goes (l : Launch) (D : va_G) (ad : Nat → Nat) (cI cZ cL : ClassId) (w : GS) (a b c9 : Int) (ha : a = 0 ∨ a = 1) (hb : b = 0 ∨ b = 1) (hc : c9 = 0 ∨ c9 = 1) : zMi l D (zT cI cZ cL) yX2_goes wsX2_goes ({ frames := 0, cells := 0, slots := 0, locals := 0 } : Room) (Mw ad cI cZ w) [.ref (ad 0), .int (iZ a), .int (iZ b), .int (iZ c9)] (m_goesR a b c9) (Mw ad cI cZ (m_goesW w a b c9)) 0 0 := by
  refine z_mi (cc := cX2_goes) (maxL := 4) (ret := (some .boolean)) (by decide) rfl (Nat.le_of_ble_eq_true rfl) ?_
  intro p e s m below meth c A X hr hlk hin
  have hiX2 : ∀ w ∈ wsX20, w ∈ wsX2_goes := by decide +kernel
  refine z_sub (lv' := [(0, .ref (ad 0)), (1, .int (iZ a)), (2, .int (iZ b)), (3, .int (iZ c9))]) [0, 1, 2, 3] rfl ?_
  refine z_aload_n X 0 rfl dX2_goes_0 ?_
  refine z_iload_n X 1 rfl dX2_goes_1 ?_
  refine z_if_ne (tgt := 9) X ⟨by omega, by omega⟩ (by decide) dX2_goes_2 (fun c_1 => ?_) (fun c_1 => ?_)
  · skip
    refine z_iload_n X 2 rfl dX2_goes_9 ?_
    refine z_if_ne (tgt := 17) X ⟨by omega, by omega⟩ (by decide) dX2_goes_10 (fun c_2 => ?_) (fun c_2 => ?_)
    · skip
      refine z_iload_n X 3 rfl dX2_goes_17 ?_
      refine z_if_eq (tgt := 25) X ⟨by omega, by omega⟩ (by decide) dX2_goes_18 (fun c_3 => ?_) (fun c_3 => ?_)
      · skip
        refine z_iconst X dX2_goes_25 ?_
        refine z_put (v := .int (iZ 3)) (ty := .int) X tyX2 2 0 21 (Mw ad cI cZ (gV w 6 3)) tyX2_ok nmX2 hiX2 rfl rfl (by decide) ⟨rfl, rfl, rfl, rfl⟩ (by decide +kernel) rfl rfl rfl (Nat.le_of_ble_eq_true rfl) rfl dX2_goes_26 ?_
        refine z_aload_n X 0 rfl dX2_goes_29 ?_
        refine z_get (v := .int (iZ 3)) X 2 0 21 hiX2 rfl rfl (by decide) ⟨rfl, rfl, rfl⟩ (by decide +kernel) rfl dX2_goes_30 ?_
        refine z_if_ne (tgt := 40) X ⟨by omega, by omega⟩ (by decide) dX2_goes_33 (fun c_4 => ?_) (fun c_4 => ?_)
        · skip
          refine z_iconst X dX2_goes_40 ?_
          exact z_zret X hr hlk (by omega) (by have := m_goes_sp a b c9; omega) (congrArg (Mw ad cI cZ) (by have hg := m_goes_sp a b c9; unfold m_goesW; exact congrArg (gV w 6) (by omega))) dX2_goes_41
        · exact absurd c_4 (by omega)
      · skip
        refine z_iconst X dX2_goes_21 ?_
        refine z_goto (tgt := 26) X (by decide) dX2_goes_22 ?_
        refine z_put (v := .int (iZ 0)) (ty := .int) X tyX2 2 0 21 (Mw ad cI cZ (gV w 6 0)) tyX2_ok nmX2 hiX2 rfl rfl (by decide) ⟨rfl, rfl, rfl, rfl⟩ (by decide +kernel) rfl rfl rfl (Nat.le_of_ble_eq_true rfl) rfl dX2_goes_26 ?_
        refine z_aload_n X 0 rfl dX2_goes_29 ?_
        refine z_get (v := .int (iZ 0)) X 2 0 21 hiX2 rfl rfl (by decide) ⟨rfl, rfl, rfl⟩ (by decide +kernel) rfl dX2_goes_30 ?_
        refine z_if_ne (tgt := 40) X ⟨by omega, by omega⟩ (by decide) dX2_goes_33 (fun c_5 => ?_) (fun c_5 => ?_)
        · exact absurd c_5 (by omega)
        · skip
          refine z_iconst X dX2_goes_36 ?_
          refine z_goto (tgt := 41) X (by decide) dX2_goes_37 ?_
          exact z_zret X hr hlk (by omega) (by have := m_goes_sp a b c9; omega) (congrArg (Mw ad cI cZ) (by have hg := m_goes_sp a b c9; unfold m_goesW; exact congrArg (gV w 6) (by omega))) dX2_goes_41
    · skip
      refine z_iconst X dX2_goes_13 ?_
      refine z_goto (tgt := 26) X (by decide) dX2_goes_14 ?_
      refine z_put (v := .int (iZ 2)) (ty := .int) X tyX2 2 0 21 (Mw ad cI cZ (gV w 6 2)) tyX2_ok nmX2 hiX2 rfl rfl (by decide) ⟨rfl, rfl, rfl, rfl⟩ (by decide +kernel) rfl rfl rfl (Nat.le_of_ble_eq_true rfl) rfl dX2_goes_26 ?_
      refine z_aload_n X 0 rfl dX2_goes_29 ?_
      refine z_get (v := .int (iZ 2)) X 2 0 21 hiX2 rfl rfl (by decide) ⟨rfl, rfl, rfl⟩ (by decide +kernel) rfl dX2_goes_30 ?_
      refine z_if_ne (tgt := 40) X ⟨by omega, by omega⟩ (by decide) dX2_goes_33 (fun c_6 => ?_) (fun c_6 => ?_)
      · skip
        refine z_iconst X dX2_goes_40 ?_
        exact z_zret X hr hlk (by omega) (by have := m_goes_sp a b c9; omega) (congrArg (Mw ad cI cZ) (by have hg := m_goes_sp a b c9; unfold m_goesW; exact congrArg (gV w 6) (by omega))) dX2_goes_41
      · exact absurd c_6 (by omega)
  · skip
    refine z_iconst X dX2_goes_5 ?_
    refine z_goto (tgt := 26) X (by decide) dX2_goes_6 ?_
    refine z_put (v := .int (iZ 1)) (ty := .int) X tyX2 2 0 21 (Mw ad cI cZ (gV w 6 1)) tyX2_ok nmX2 hiX2 rfl rfl (by decide) ⟨rfl, rfl, rfl, rfl⟩ (by decide +kernel) rfl rfl rfl (Nat.le_of_ble_eq_true rfl) rfl dX2_goes_26 ?_
    refine z_aload_n X 0 rfl dX2_goes_29 ?_
    refine z_get (v := .int (iZ 1)) X 2 0 21 hiX2 rfl rfl (by decide) ⟨rfl, rfl, rfl⟩ (by decide +kernel) rfl dX2_goes_30 ?_
    refine z_if_ne (tgt := 40) X ⟨by omega, by omega⟩ (by decide) dX2_goes_33 (fun c_7 => ?_) (fun c_7 => ?_)
    · skip
      refine z_iconst X dX2_goes_40 ?_
      exact z_zret X hr hlk (by omega) (by have := m_goes_sp a b c9; omega) (congrArg (Mw ad cI cZ) (by have hg := m_goes_sp a b c9; unfold m_goesW; exact congrArg (gV w 6) (by omega))) dX2_goes_41
    · exact absurd c_7 (by omega)
set_option maxHeartbeats 4000000 in
set_option maxRecDepth 100000 in
theorem c_X2_isHouse (l : Launch) (D : va_G) (ad : Nat → Nat) (cI cZ cL : ClassId) (h : Int) (hz : zB h) : zMi l D (zT cI cZ cL) yX2_isHouse wsX2_isHouse ({ frames := 1, cells := 0, slots := 0, locals := 22 } : Room) ([]) [.int (iZ h)] (m_in h 0 5) ([]) 0 0 := by
  refine z_mi (cc := cX2_isHouse) (maxL := 1) (ret := (some .boolean)) (by decide) rfl (Nat.le_of_ble_eq_true rfl) ?_
  intro p e s m below meth c A X hr hlk hin
  refine z_sub (lv' := [(0, .int (iZ h))]) [0] rfl ?_
  refine z_iload_n X 0 rfl dX2_isHouse_0 ?_
  refine z_iconst X dX2_isHouse_1 ?_
  refine z_iconst X dX2_isHouse_2 ?_
  refine z_callis X (c_X2_in l D ad cI cZ cL h 0 5 ⟨by omega, by omega⟩ ⟨by omega, by omega⟩ ⟨by omega, by omega⟩) (va_cwS 3 X.2.2.2.2.1 gX2_isHouse_X2_in rfl rfl rfl (by decide +kernel) ⟨Nat.le_of_ble_eq_true rfl, Nat.le_of_ble_eq_true rfl⟩) rfl [] ([]) rfl [] rfl (Nat.le_of_ble_eq_true rfl) dX2_isHouse_3 ⟨Nat.le_of_ble_eq_true rfl, Nat.le_of_ble_eq_true rfl⟩ rfl ?_
  have r_1 := m_in_sp h 0 5
  exact z_zret X hr hlk (by omega) rfl rfl dX2_isHouse_6
set_option maxHeartbeats 4000000 in
set_option maxRecDepth 100000 in
theorem c_X2_belongs (l : Launch) (D : va_G) (ad : Nat → Nat) (cI cZ cL : ClassId) (w : GS) (h : Int) (hz : zB h) (hB : Bdm w) : zMi l D (zT cI cZ cL) yX2_belongs wsX2_belongs ({ frames := 2, cells := 0, slots := 0, locals := 42 } : Room) (Mw ad cI cZ w) [.ref (ad 0), .int (iZ h)] (m_belongs w h) (Mw ad cI cZ w) 0 0 := by
  refine z_mi (cc := cX2_belongs) (maxL := 2) (ret := (some .boolean)) (by decide) rfl (Nat.le_of_ble_eq_true rfl) ?_
  intro p e s m below meth c A X hr hlk hin
  have hiX2 : ∀ w ∈ wsX20, w ∈ wsX2_belongs := by decide +kernel
  refine z_sub (lv' := [(0, .ref (ad 0)), (1, .int (iZ h))]) [0, 1] rfl ?_
  refine z_iload_n X 1 rfl dX2_belongs_0 ?_
  refine z_callis X (c_X2_isHouse l D ad cI cZ cL h ⟨by omega, by omega⟩) (va_cwS 1 X.2.2.2.2.1 gX2_belongs_X2_isHouse rfl rfl rfl (by decide +kernel) ⟨Nat.le_of_ble_eq_true rfl, Nat.le_of_ble_eq_true rfl⟩) rfl [] (Mw ad cI cZ w) rfl [] rfl (Nat.le_of_ble_eq_true rfl) dX2_belongs_1 ⟨Nat.le_of_ble_eq_true rfl, Nat.le_of_ble_eq_true rfl⟩ rfl ?_
  have r_1 := m_in_sp h 0 5
  refine z_if_eq (tgt := 20) X ⟨by omega, by omega⟩ (by decide) dX2_belongs_4 (fun c_2 => ?_) (fun c_2 => ?_)
  · skip
    refine z_iconst X dX2_belongs_20 ?_
    exact z_zret X hr hlk (by omega) (by have := m_belongs_sp w h; omega) rfl dX2_belongs_21
  · skip
    refine z_aload_n X 0 rfl dX2_belongs_7 ?_
    refine z_get (v := .ref (ad 8)) X 2 0 7 hiX2 rfl rfl (by decide) ⟨rfl, rfl, rfl⟩ (by decide +kernel) rfl dX2_belongs_8 ?_
    refine z_iload_n X 1 rfl dX2_belongs_11 ?_
    refine z_zald (g := w.1 7) X 8 1 rfl rfl (by omega) (by omega) ⟨by omega, by omega⟩ dX2_belongs_12 ?_
    have b_3 := hB 7 rfl h
    refine z_if_ne (tgt := 20) X ⟨by omega, by omega⟩ (by decide) dX2_belongs_13 (fun c_4 => ?_) (fun c_4 => ?_)
    · skip
      refine z_iconst X dX2_belongs_20 ?_
      exact z_zret X hr hlk (by omega) (by have := m_belongs_sp w h; omega) rfl dX2_belongs_21
    · skip
      refine z_iconst X dX2_belongs_16 ?_
      refine z_goto (tgt := 21) X (by decide) dX2_belongs_17 ?_
      exact z_zret X hr hlk (by omega) (by have := m_belongs_sp w h; omega) rfl dX2_belongs_21
set_option maxHeartbeats 4000000 in
set_option maxRecDepth 100000 in
theorem c_X2_lesser (l : Launch) (D : va_G) (ad : Nat → Nat) (cI cZ cL : ClassId) (a b : Int) (ha : zB a) (hb : zB b) : zMi l D (zT cI cZ cL) yX2_lesser wsX2_lesser ({ frames := 0, cells := 0, slots := 0, locals := 0 } : Room) ([]) [.int (iZ a), .int (iZ b)] (m_lesser a b) ([]) 0 0 := by
  refine z_mi (cc := cX2_lesser) (maxL := 2) (ret := (some .int)) (by decide) rfl (Nat.le_of_ble_eq_true rfl) ?_
  intro p e s m below meth c A X hr hlk hin
  refine z_sub (lv' := [(0, .int (iZ a)), (1, .int (iZ b))]) [0, 1] rfl ?_
  refine z_iload_n X 0 rfl dX2_lesser_0 ?_
  refine z_iload_n X 1 rfl dX2_lesser_1 ?_
  refine z_icmp_ge (tgt := 9) X ⟨by omega, by omega⟩ ⟨by omega, by omega⟩ (by decide) dX2_lesser_2 (fun c_1 => ?_) (fun c_1 => ?_)
  · skip
    refine z_iload_n X 1 rfl dX2_lesser_9 ?_
    exact z_iret X hr hlk (by have := m_lesser_sp a b; omega) rfl dX2_lesser_10
  · skip
    refine z_iload_n X 0 rfl dX2_lesser_5 ?_
    refine z_goto (tgt := 10) X (by decide) dX2_lesser_6 ?_
    exact z_iret X hr hlk (by have := m_lesser_sp a b; omega) rfl dX2_lesser_10
set_option maxHeartbeats 4000000 in
set_option maxRecDepth 100000 in
theorem c_X2_size (l : Launch) (D : va_G) (ad : Nat → Nat) (cI cZ cL : ClassId) (a : Int) (ha : zB a) : zMi l D (zT cI cZ cL) yX2_size wsX2_size ({ frames := 0, cells := 0, slots := 0, locals := 0 } : Room) ([]) [.int (iZ a)] (m_size a) ([]) 0 0 := by
  refine z_mi (cc := cX2_size) (maxL := 1) (ret := (some .int)) (by decide) rfl (Nat.le_of_ble_eq_true rfl) ?_
  intro p e s m below meth c A X hr hlk hin
  refine z_sub (lv' := [(0, .int (iZ a))]) [0] rfl ?_
  refine z_iload_n X 0 rfl dX2_size_0 ?_
  refine z_if_ge (tgt := 9) X ⟨by omega, by omega⟩ (by decide) dX2_size_1 (fun c_1 => ?_) (fun c_1 => ?_)
  · skip
    refine z_iload_n X 0 rfl dX2_size_9 ?_
    exact z_iret X hr hlk (by have := m_size_sp a; omega) rfl dX2_size_10
  · skip
    refine z_iload_n X 0 rfl dX2_size_4 ?_
    refine z_ineg X dX2_size_5 ?_
    refine z_goto (tgt := 10) X (by decide) dX2_size_6 ?_
    exact z_iret X hr hlk (by have := m_size_sp a; omega) rfl dX2_size_10
set_option maxHeartbeats 4000000 in
set_option maxRecDepth 100000 in
theorem c_X2_thrown (l : Launch) (D : va_G) (ad : Nat → Nat) (cI cZ cL : ClassId) (w : GS) : zMi l D (zT cI cZ cL) yX2_thrown wsX2_thrown ({ frames := 0, cells := 0, slots := 0, locals := 0 } : Room) (Mw ad cI cZ w) [.ref (ad 0)] (w.2 6) (Mw ad cI cZ w) 0 0 := by
  refine z_mi (cc := cX2_thrown) (maxL := 1) (ret := (some .int)) (by decide) rfl (Nat.le_of_ble_eq_true rfl) ?_
  intro p e s m below meth c A X hr hlk hin
  have hiX2 : ∀ w ∈ wsX20, w ∈ wsX2_thrown := by decide +kernel
  refine z_sub (lv' := [(0, .ref (ad 0))]) [0] rfl ?_
  refine z_aload_n X 0 rfl dX2_thrown_0 ?_
  refine z_get (v := .int (iZ (w.2 6))) X 2 0 21 hiX2 rfl rfl (by decide) ⟨rfl, rfl, rfl⟩ (by decide +kernel) rfl dX2_thrown_1 ?_
  exact z_iret X hr hlk rfl rfl dX2_thrown_4
set_option maxHeartbeats 4000000 in
set_option maxRecDepth 100000 in
theorem c_X2_isBuyer (l : Launch) (D : va_G) (ad : Nat → Nat) (cI cZ cL : ClassId) (w : GS) (h : Int) (h0 : 0 ≤ h ∧ h ≤ 5) (hB : Bdm w) : zMi l D (zT cI cZ cL) yX2_isBuyer wsX2_isBuyer ({ frames := 0, cells := 0, slots := 0, locals := 0 } : Room) (Mw ad cI cZ w) [.ref (ad 0), .int (iZ h)] (m_buyer w h) (Mw ad cI cZ w) 0 0 := by
  refine z_mi (cc := cX2_isBuyer) (maxL := 2) (ret := (some .boolean)) (by decide) rfl (Nat.le_of_ble_eq_true rfl) ?_
  intro p e s m below meth c A X hr hlk hin
  have hiX2 : ∀ w ∈ wsX20, w ∈ wsX2_isBuyer := by decide +kernel
  refine z_sub (lv' := [(0, .ref (ad 0)), (1, .int (iZ h))]) [0, 1] rfl ?_
  refine z_aload_n X 0 rfl dX2_isBuyer_0 ?_
  refine z_get (v := .ref (ad 8)) X 2 0 7 hiX2 rfl rfl (by decide) ⟨rfl, rfl, rfl⟩ (by decide +kernel) rfl dX2_isBuyer_1 ?_
  refine z_iload_n X 1 rfl dX2_isBuyer_4 ?_
  refine z_zald (g := w.1 7) X 8 1 rfl rfl (by omega) (by omega) ⟨by omega, by omega⟩ dX2_isBuyer_5 ?_
  have b_1 := hB 7 rfl h
  refine z_if_ne (tgt := 22) X ⟨by omega, by omega⟩ (by decide) dX2_isBuyer_6 (fun c_2 => ?_) (fun c_2 => ?_)
  · skip
    refine z_iconst X dX2_isBuyer_22 ?_
    exact z_zret X hr hlk (by omega) (by have := m_buyer_sp w h; omega) rfl dX2_isBuyer_23
  · skip
    refine z_aload_n X 0 rfl dX2_isBuyer_9 ?_
    refine z_get (v := .ref (ad 2)) X 2 0 1 hiX2 rfl rfl (by decide) ⟨rfl, rfl, rfl⟩ (by decide +kernel) rfl dX2_isBuyer_10 ?_
    refine z_iload_n X 1 rfl dX2_isBuyer_13 ?_
    refine z_iald (g := w.1 1) X 2 0 rfl rfl (by omega) (by omega) ⟨by omega, by omega⟩ dX2_isBuyer_14 ?_
    have b_3 := hB 1 rfl h
    refine z_if_ge (tgt := 22) X ⟨by omega, by omega⟩ (by decide) dX2_isBuyer_15 (fun c_4 => ?_) (fun c_4 => ?_)
    · skip
      refine z_iconst X dX2_isBuyer_22 ?_
      exact z_zret X hr hlk (by omega) (by have := m_buyer_sp w h; omega) rfl dX2_isBuyer_23
    · skip
      refine z_iconst X dX2_isBuyer_18 ?_
      refine z_goto (tgt := 23) X (by decide) dX2_isBuyer_19 ?_
      exact z_zret X hr hlk (by omega) (by have := m_buyer_sp w h; omega) rfl dX2_isBuyer_23
set_option maxHeartbeats 4000000 in
set_option maxRecDepth 100000 in
theorem c_X2_isSeller (l : Launch) (D : va_G) (ad : Nat → Nat) (cI cZ cL : ClassId) (w : GS) (h : Int) (h0 : 0 ≤ h ∧ h ≤ 5) (hB : Bdm w) : zMi l D (zT cI cZ cL) yX2_isSeller wsX2_isSeller ({ frames := 0, cells := 0, slots := 0, locals := 0 } : Room) (Mw ad cI cZ w) [.ref (ad 0), .int (iZ h)] (m_isel w h) (Mw ad cI cZ w) 0 0 := by
  refine z_mi (cc := cX2_isSeller) (maxL := 2) (ret := (some .boolean)) (by decide) rfl (Nat.le_of_ble_eq_true rfl) ?_
  intro p e s m below meth c A X hr hlk hin
  have hiX2 : ∀ w ∈ wsX20, w ∈ wsX2_isSeller := by decide +kernel
  refine z_sub (lv' := [(0, .ref (ad 0)), (1, .int (iZ h))]) [0, 1] rfl ?_
  refine z_aload_n X 0 rfl dX2_isSeller_0 ?_
  refine z_get (v := .ref (ad 8)) X 2 0 7 hiX2 rfl rfl (by decide) ⟨rfl, rfl, rfl⟩ (by decide +kernel) rfl dX2_isSeller_1 ?_
  refine z_iload_n X 1 rfl dX2_isSeller_4 ?_
  refine z_zald (g := w.1 7) X 8 1 rfl rfl (by omega) (by omega) ⟨by omega, by omega⟩ dX2_isSeller_5 ?_
  have b_1 := hB 7 rfl h
  refine z_if_ne (tgt := 22) X ⟨by omega, by omega⟩ (by decide) dX2_isSeller_6 (fun c_2 => ?_) (fun c_2 => ?_)
  · skip
    refine z_iconst X dX2_isSeller_22 ?_
    exact z_zret X hr hlk (by omega) (by have := m_isel_sp w h; omega) rfl dX2_isSeller_23
  · skip
    refine z_aload_n X 0 rfl dX2_isSeller_9 ?_
    refine z_get (v := .ref (ad 2)) X 2 0 1 hiX2 rfl rfl (by decide) ⟨rfl, rfl, rfl⟩ (by decide +kernel) rfl dX2_isSeller_10 ?_
    refine z_iload_n X 1 rfl dX2_isSeller_13 ?_
    refine z_iald (g := w.1 1) X 2 0 rfl rfl (by omega) (by omega) ⟨by omega, by omega⟩ dX2_isSeller_14 ?_
    have b_3 := hB 1 rfl h
    refine z_if_le (tgt := 22) X ⟨by omega, by omega⟩ (by decide) dX2_isSeller_15 (fun c_4 => ?_) (fun c_4 => ?_)
    · skip
      refine z_iconst X dX2_isSeller_22 ?_
      exact z_zret X hr hlk (by omega) (by have := m_isel_sp w h; omega) rfl dX2_isSeller_23
    · skip
      refine z_iconst X dX2_isSeller_18 ?_
      refine z_goto (tgt := 23) X (by decide) dX2_isSeller_19 ?_
      exact z_zret X hr hlk (by omega) (by have := m_isel_sp w h; omega) rfl dX2_isSeller_23
set_option maxHeartbeats 4000000 in
set_option maxRecDepth 100000 in
theorem c_X2_turnOf (l : Launch) (D : va_G) (ad : Nat → Nat) (cI cZ cL : ClassId) (w : GS) (h : Int) (h0 : 0 ≤ h ∧ h ≤ 5) (hB : Bdm w) : zMi l D (zT cI cZ cL) yX2_turnOf wsX2_turnOf ({ frames := 1, cells := 0, slots := 0, locals := 21 } : Room) (Mw ad cI cZ w) [.ref (ad 0), .int (iZ h)] (m_turn w h) (Mw ad cI cZ w) 0 0 := by
  refine z_mi (cc := cX2_turnOf) (maxL := 4) (ret := (some .int)) (by decide) rfl (Nat.le_of_ble_eq_true rfl) ?_
  intro p e s m below meth c A X hr hlk hin
  have hiX2 : ∀ w ∈ wsX20, w ∈ wsX2_turnOf := by decide +kernel
  refine z_sub (lv' := [(0, .ref (ad 0)), (1, .int (iZ h))]) [0, 1] rfl ?_
  refine z_iconst X dX2_turnOf_0 ?_
  refine z_istore_n X [1, 2, 0] [(0, .ref (ad 0)), (1, .int (iZ h)), (2, .int (iZ 0))] rfl (Nat.le_of_ble_eq_true rfl) dX2_turnOf_1 ?_
  refine z_iconst X dX2_turnOf_2 ?_
  refine z_istore_n X [1, 2, 3, 0] [(0, .ref (ad 0)), (1, .int (iZ h)), (2, .int (iZ 0)), (3, .int (iZ 0))] rfl (Nat.le_of_ble_eq_true rfl) dX2_turnOf_3 ?_
  refine zfor_ind 6 6 (rfl) (m_turnS w h) 0 (fun (i_4 : Int) (a_4 : Int) => zW p l e ({ frames := 1, cells := 0, slots := 0, locals := 21 } : Room) s m ([.ref (ad 0), .int (iZ h)] : List Value).toArray below meth c 4 D A 0 0 (MQ below (zPi D (zT cI cZ cL) (Mw ad cI cZ w) (m_turn w h) A) ([.ref (ad 0), .int (iZ h)] : List Value).toArray s 0 0 A) (Mw ad cI cZ w) 4 [(0, .ref (ad 0)), (1, .int (iZ h)), (2, .int (iZ a_4)), (3, .int (iZ i_4))] []) ?_ ?_
  · intro a_4 ha_4
    refine z_iload_n X 3 rfl dX2_turnOf_4 ?_
    refine z_bipush X (by decide) dX2_turnOf_5 ?_
    refine z_icmp_ge (tgt := 67) X ⟨by omega, by omega⟩ ⟨by omega, by omega⟩ (by decide) dX2_turnOf_7 (fun c_1 => ?_) (fun c_1 => ?_)
    · skip
      refine z_iload_n X 2 rfl dX2_turnOf_67 ?_
      exact z_iret X hr hlk ha_4 rfl dX2_turnOf_68
    · exact absurd c_1 (by omega)
  · intro i_4 k_4 a_4 hi_4 h0i_4 h1i_4 ha_4 hk_4
    refine z_iload_n X 3 rfl dX2_turnOf_4 ?_
    refine z_bipush X (by decide) dX2_turnOf_5 ?_
    refine z_icmp_ge (tgt := 67) X ⟨by omega, by omega⟩ ⟨by omega, by omega⟩ (by decide) dX2_turnOf_7 (fun c_2 => ?_) (fun c_2 => ?_)
    · exact absurd c_2 (by omega)
    · skip
      refine z_iload_n X 2 rfl dX2_turnOf_10 ?_
      refine z_aload_n X 0 rfl dX2_turnOf_11 ?_
      refine z_iload_n X 3 rfl dX2_turnOf_12 ?_
      refine z_calli X (c_X2_isBuyer l D ad cI cZ cL w i_4 (by omega) hB) (cwV 1 X.2.2.2.2.1 gX2_turnOf_X2_isBuyer rfl rfl rfl (by decide +kernel) ⟨Nat.le_of_ble_eq_true rfl, Nat.le_of_ble_eq_true rfl⟩) rfl [] [] (List.append_nil _).symm 2 0 rfl rfl [.int (iZ a_4)] rfl (Nat.le_of_ble_eq_true rfl) dX2_turnOf_13 ⟨Nat.le_of_ble_eq_true rfl, Nat.le_of_ble_eq_true rfl⟩ (List.append_nil _) ?_
      have r_3 := m_buyer_sp w i_4
      refine z_if_eq (tgt := 58) X ⟨by omega, by omega⟩ (by decide) dX2_turnOf_16 (fun c_4 => ?_) (fun c_4 => ?_)
      · skip
        refine z_iconst X dX2_turnOf_58 ?_
        refine z_iadd X dX2_turnOf_59 ?_
        refine z_istore_n X [1, 2, 0, 3] [(0, .ref (ad 0)), (1, .int (iZ h)), (2, .int (iZ (a_4 + 0))), (3, .int (iZ i_4))] rfl (Nat.le_of_ble_eq_true rfl) dX2_turnOf_60 ?_
        refine z_iinc X 3 [1, 2, 3, 0] [(0, .ref (ad 0)), (1, .int (iZ h)), (2, .int (iZ (a_4 + 0))), (3, .int (iZ (i_4 + 1)))] rfl rfl (Nat.le_of_ble_eq_true rfl) dX2_turnOf_61 ?_
        refine z_goto (tgt := 4) X (by decide) dX2_turnOf_64 ?_
        exact z_eq rfl (congrArg (fun z : Int => ([(0, .ref (ad 0)), (1, .int (iZ h)), (2, .int (iZ z)), (3, .int (iZ (i_4 + 1)))] : List (Nat × Value))) (show (m_turnS w h) i_4 a_4 = a_4 + 0 from (by simp only [m_turnS] <;> repeat' (first | with_reducible rfl | omega | split)))) hk_4
      · skip
        refine z_aload_n X 0 rfl dX2_turnOf_19 ?_
        refine z_get (v := .ref (ad 3)) X 2 0 2 hiX2 rfl rfl (by decide) ⟨rfl, rfl, rfl⟩ (by decide +kernel) rfl dX2_turnOf_20 ?_
        refine z_iload_n X 3 rfl dX2_turnOf_23 ?_
        refine z_iald (g := w.1 2) X 3 0 rfl rfl (by omega) (by omega) ⟨by omega, by omega⟩ dX2_turnOf_24 ?_
        have b_5 := hB 2 rfl i_4
        refine z_aload_n X 0 rfl dX2_turnOf_25 ?_
        refine z_get (v := .ref (ad 3)) X 2 0 2 hiX2 rfl rfl (by decide) ⟨rfl, rfl, rfl⟩ (by decide +kernel) rfl dX2_turnOf_26 ?_
        refine z_iload_n X 1 rfl dX2_turnOf_29 ?_
        refine z_iald (g := w.1 2) X 3 0 rfl rfl (by omega) (by omega) ⟨by omega, by omega⟩ dX2_turnOf_30 ?_
        have b_6 := hB 2 rfl h
        refine z_icmp_gt (tgt := 54) X ⟨by omega, by omega⟩ ⟨by omega, by omega⟩ (by decide) dX2_turnOf_31 (fun c_7 => ?_) (fun c_7 => ?_)
        · skip
          refine z_iconst X dX2_turnOf_54 ?_
          refine z_goto (tgt := 59) X (by decide) dX2_turnOf_55 ?_
          refine z_iadd X dX2_turnOf_59 ?_
          refine z_istore_n X [1, 2, 0, 3] [(0, .ref (ad 0)), (1, .int (iZ h)), (2, .int (iZ (a_4 + 1))), (3, .int (iZ i_4))] rfl (Nat.le_of_ble_eq_true rfl) dX2_turnOf_60 ?_
          refine z_iinc X 3 [1, 2, 3, 0] [(0, .ref (ad 0)), (1, .int (iZ h)), (2, .int (iZ (a_4 + 1))), (3, .int (iZ (i_4 + 1)))] rfl rfl (Nat.le_of_ble_eq_true rfl) dX2_turnOf_61 ?_
          refine z_goto (tgt := 4) X (by decide) dX2_turnOf_64 ?_
          exact z_eq rfl (congrArg (fun z : Int => ([(0, .ref (ad 0)), (1, .int (iZ h)), (2, .int (iZ z)), (3, .int (iZ (i_4 + 1)))] : List (Nat × Value))) (show (m_turnS w h) i_4 a_4 = a_4 + 1 from (by simp only [m_turnS] <;> repeat' (first | with_reducible rfl | omega | split)))) hk_4
        · skip
          refine z_aload_n X 0 rfl dX2_turnOf_34 ?_
          refine z_get (v := .ref (ad 3)) X 2 0 2 hiX2 rfl rfl (by decide) ⟨rfl, rfl, rfl⟩ (by decide +kernel) rfl dX2_turnOf_35 ?_
          refine z_iload_n X 3 rfl dX2_turnOf_38 ?_
          refine z_iald (g := w.1 2) X 3 0 rfl rfl (by omega) (by omega) ⟨by omega, by omega⟩ dX2_turnOf_39 ?_
          refine z_aload_n X 0 rfl dX2_turnOf_40 ?_
          refine z_get (v := .ref (ad 3)) X 2 0 2 hiX2 rfl rfl (by decide) ⟨rfl, rfl, rfl⟩ (by decide +kernel) rfl dX2_turnOf_41 ?_
          refine z_iload_n X 1 rfl dX2_turnOf_44 ?_
          refine z_iald (g := w.1 2) X 3 0 rfl rfl (by omega) (by omega) ⟨by omega, by omega⟩ dX2_turnOf_45 ?_
          refine z_icmp_ne (tgt := 58) X ⟨by omega, by omega⟩ ⟨by omega, by omega⟩ (by decide) dX2_turnOf_46 (fun c_8 => ?_) (fun c_8 => ?_)
          · skip
            refine z_iconst X dX2_turnOf_58 ?_
            refine z_iadd X dX2_turnOf_59 ?_
            refine z_istore_n X [1, 2, 0, 3] [(0, .ref (ad 0)), (1, .int (iZ h)), (2, .int (iZ (a_4 + 0))), (3, .int (iZ i_4))] rfl (Nat.le_of_ble_eq_true rfl) dX2_turnOf_60 ?_
            refine z_iinc X 3 [1, 2, 3, 0] [(0, .ref (ad 0)), (1, .int (iZ h)), (2, .int (iZ (a_4 + 0))), (3, .int (iZ (i_4 + 1)))] rfl rfl (Nat.le_of_ble_eq_true rfl) dX2_turnOf_61 ?_
            refine z_goto (tgt := 4) X (by decide) dX2_turnOf_64 ?_
            exact z_eq rfl (congrArg (fun z : Int => ([(0, .ref (ad 0)), (1, .int (iZ h)), (2, .int (iZ z)), (3, .int (iZ (i_4 + 1)))] : List (Nat × Value))) (show (m_turnS w h) i_4 a_4 = a_4 + 0 from (by simp only [m_turnS] <;> repeat' (first | with_reducible rfl | omega | split)))) hk_4
          · skip
            refine z_iload_n X 3 rfl dX2_turnOf_49 ?_
            refine z_iload_n X 1 rfl dX2_turnOf_50 ?_
            refine z_icmp_ge (tgt := 58) X ⟨by omega, by omega⟩ ⟨by omega, by omega⟩ (by decide) dX2_turnOf_51 (fun c_9 => ?_) (fun c_9 => ?_)
            · skip
              refine z_iconst X dX2_turnOf_58 ?_
              refine z_iadd X dX2_turnOf_59 ?_
              refine z_istore_n X [1, 2, 0, 3] [(0, .ref (ad 0)), (1, .int (iZ h)), (2, .int (iZ (a_4 + 0))), (3, .int (iZ i_4))] rfl (Nat.le_of_ble_eq_true rfl) dX2_turnOf_60 ?_
              refine z_iinc X 3 [1, 2, 3, 0] [(0, .ref (ad 0)), (1, .int (iZ h)), (2, .int (iZ (a_4 + 0))), (3, .int (iZ (i_4 + 1)))] rfl rfl (Nat.le_of_ble_eq_true rfl) dX2_turnOf_61 ?_
              refine z_goto (tgt := 4) X (by decide) dX2_turnOf_64 ?_
              exact z_eq rfl (congrArg (fun z : Int => ([(0, .ref (ad 0)), (1, .int (iZ h)), (2, .int (iZ z)), (3, .int (iZ (i_4 + 1)))] : List (Nat × Value))) (show (m_turnS w h) i_4 a_4 = a_4 + 0 from (by simp only [m_turnS] <;> repeat' (first | with_reducible rfl | omega | split)))) hk_4
            · skip
              refine z_iconst X dX2_turnOf_54 ?_
              refine z_goto (tgt := 59) X (by decide) dX2_turnOf_55 ?_
              refine z_iadd X dX2_turnOf_59 ?_
              refine z_istore_n X [1, 2, 0, 3] [(0, .ref (ad 0)), (1, .int (iZ h)), (2, .int (iZ (a_4 + 1))), (3, .int (iZ i_4))] rfl (Nat.le_of_ble_eq_true rfl) dX2_turnOf_60 ?_
              refine z_iinc X 3 [1, 2, 3, 0] [(0, .ref (ad 0)), (1, .int (iZ h)), (2, .int (iZ (a_4 + 1))), (3, .int (iZ (i_4 + 1)))] rfl rfl (Nat.le_of_ble_eq_true rfl) dX2_turnOf_61 ?_
              refine z_goto (tgt := 4) X (by decide) dX2_turnOf_64 ?_
              exact z_eq rfl (congrArg (fun z : Int => ([(0, .ref (ad 0)), (1, .int (iZ h)), (2, .int (iZ z)), (3, .int (iZ (i_4 + 1)))] : List (Nat × Value))) (show (m_turnS w h) i_4 a_4 = a_4 + 1 from (by simp only [m_turnS] <;> repeat' (first | with_reducible rfl | omega | split)))) hk_4
set_option maxHeartbeats 4000000 in
set_option maxRecDepth 100000 in
theorem c_X2_sellerFor (l : Launch) (D : va_G) (ad : Nat → Nat) (cI cZ cL : ClassId) (w : GS) (b : Int) (h0 : 0 ≤ b ∧ b ≤ 5) (hB : Bdm w) : zMi l D (zT cI cZ cL) yX2_sellerFor wsX2_sellerFor ({ frames := 1, cells := 0, slots := 0, locals := 21 } : Room) (Mw ad cI cZ w) [.ref (ad 0), .int (iZ b)] (m_seller w b) (Mw ad cI cZ w) 0 0 := by
  refine z_mi (cc := cX2_sellerFor) (maxL := 6) (ret := (some .int)) (by decide) rfl (Nat.le_of_ble_eq_true rfl) ?_
  intro p e s m below meth c A X hr hlk hin
  have hiX2 : ∀ w ∈ wsX20, w ∈ wsX2_sellerFor := by decide +kernel
  refine z_sub (lv' := [(0, .ref (ad 0)), (1, .int (iZ b))]) [0, 1] rfl ?_
  refine z_iconst X dX2_sellerFor_0 ?_
  refine z_istore_n X [1, 2, 0] [(0, .ref (ad 0)), (1, .int (iZ b)), (2, .int (iZ (-1)))] rfl (Nat.le_of_ble_eq_true rfl) dX2_sellerFor_1 ?_
  refine z_iconst X dX2_sellerFor_2 ?_
  refine z_istore_n X [1, 2, 3, 0] [(0, .ref (ad 0)), (1, .int (iZ b)), (2, .int (iZ (-1))), (3, .int (iZ 0))] rfl (Nat.le_of_ble_eq_true rfl) dX2_sellerFor_3 ?_
  refine zfor_ind 6 6 (rfl) (m_sellerS w b) (-1) (fun (i_4 : Int) (a_4 : Int) => zW p l e ({ frames := 1, cells := 0, slots := 0, locals := 21 } : Room) s m ([.ref (ad 0), .int (iZ b)] : List Value).toArray below meth c 6 D A 0 0 (MQ below (zPi D (zT cI cZ cL) (Mw ad cI cZ w) (m_seller w b) A) ([.ref (ad 0), .int (iZ b)] : List Value).toArray s 0 0 A) (Mw ad cI cZ w) 4 [(0, .ref (ad 0)), (1, .int (iZ b)), (2, .int (iZ a_4)), (3, .int (iZ i_4))] []) ?_ ?_
  · intro a_4 ha_4
    have hv_4 := m_sellerk w b 6 (by omega)
    rw [← ha_4] at hv_4
    refine z_iload_n X 3 rfl dX2_sellerFor_4 ?_
    refine z_bipush X (by decide) dX2_sellerFor_5 ?_
    refine z_icmp_ge (tgt := 133) X ⟨by omega, by omega⟩ ⟨by omega, by omega⟩ (by decide) dX2_sellerFor_7 (fun c_1 => ?_) (fun c_1 => ?_)
    · skip
      refine z_iload_n X 2 rfl dX2_sellerFor_133 ?_
      exact z_iret X hr hlk ha_4 rfl dX2_sellerFor_134
    · exact absurd c_1 (by omega)
  · intro i_4 k_4 a_4 hi_4 h0i_4 h1i_4 ha_4 hk_4
    have hv_4 := m_sellerk w b k_4 (by omega)
    rw [← ha_4] at hv_4
    refine z_iload_n X 3 rfl dX2_sellerFor_4 ?_
    refine z_bipush X (by decide) dX2_sellerFor_5 ?_
    refine z_icmp_ge (tgt := 133) X ⟨by omega, by omega⟩ ⟨by omega, by omega⟩ (by decide) dX2_sellerFor_7 (fun c_2 => ?_) (fun c_2 => ?_)
    · exact absurd c_2 (by omega)
    · skip
      refine z_aload_n X 0 rfl dX2_sellerFor_10 ?_
      refine z_iload_n X 3 rfl dX2_sellerFor_11 ?_
      refine z_calli X (c_X2_isSeller l D ad cI cZ cL w i_4 (by omega) hB) (cwV 1 X.2.2.2.2.1 gX2_sellerFor_X2_isSeller rfl rfl rfl (by decide +kernel) ⟨Nat.le_of_ble_eq_true rfl, Nat.le_of_ble_eq_true rfl⟩) rfl [] [] (List.append_nil _).symm 2 0 rfl rfl [] rfl (Nat.le_of_ble_eq_true rfl) dX2_sellerFor_12 ⟨Nat.le_of_ble_eq_true rfl, Nat.le_of_ble_eq_true rfl⟩ (List.append_nil _) ?_
      have r_3 := m_isel_sp w i_4
      refine z_if_eq (tgt := 127) X ⟨by omega, by omega⟩ (by decide) dX2_sellerFor_15 (fun c_4 => ?_) (fun c_4 => ?_)
      · skip
        refine z_iinc X 3 [1, 2, 3, 0] [(0, .ref (ad 0)), (1, .int (iZ b)), (2, .int (iZ a_4)), (3, .int (iZ (i_4 + 1)))] rfl rfl (Nat.le_of_ble_eq_true rfl) dX2_sellerFor_127 ?_
        refine z_goto (tgt := 4) X (by decide) dX2_sellerFor_130 ?_
        exact z_eq rfl (congrArg (fun z : Int => ([(0, .ref (ad 0)), (1, .int (iZ b)), (2, .int (iZ z)), (3, .int (iZ (i_4 + 1)))] : List (Nat × Value))) (show (m_sellerS w b) i_4 a_4 = a_4 from (by simp only [m_sellerS] <;> repeat' (first | with_reducible rfl | omega | split)))) hk_4
      · skip
        refine z_aload_n X 0 rfl dX2_sellerFor_18 ?_
        refine z_get (v := .ref (ad 15)) X 2 0 20 hiX2 rfl rfl (by decide) ⟨rfl, rfl, rfl⟩ (by decide +kernel) rfl dX2_sellerFor_19 ?_
        refine z_iload_n X 3 rfl dX2_sellerFor_22 ?_
        refine z_iald (g := w.1 14) X 15 0 rfl rfl (by omega) (by omega) ⟨by omega, by omega⟩ dX2_sellerFor_23 ?_
        have b_5 := hB 14 rfl i_4
        refine z_if_le (tgt := 127) X ⟨by omega, by omega⟩ (by decide) dX2_sellerFor_24 (fun c_6 => ?_) (fun c_6 => ?_)
        · skip
          refine z_iinc X 3 [1, 2, 3, 0] [(0, .ref (ad 0)), (1, .int (iZ b)), (2, .int (iZ a_4)), (3, .int (iZ (i_4 + 1)))] rfl rfl (Nat.le_of_ble_eq_true rfl) dX2_sellerFor_127 ?_
          refine z_goto (tgt := 4) X (by decide) dX2_sellerFor_130 ?_
          exact z_eq rfl (congrArg (fun z : Int => ([(0, .ref (ad 0)), (1, .int (iZ b)), (2, .int (iZ z)), (3, .int (iZ (i_4 + 1)))] : List (Nat × Value))) (show (m_sellerS w b) i_4 a_4 = a_4 from (by simp only [m_sellerS] <;> repeat' (first | with_reducible rfl | omega | split)))) hk_4
        · skip
          refine z_aload_n X 0 rfl dX2_sellerFor_27 ?_
          refine z_get (v := .ref (ad 3)) X 2 0 2 hiX2 rfl rfl (by decide) ⟨rfl, rfl, rfl⟩ (by decide +kernel) rfl dX2_sellerFor_28 ?_
          refine z_iload_n X 3 rfl dX2_sellerFor_31 ?_
          refine z_iald (g := w.1 2) X 3 0 rfl rfl (by omega) (by omega) ⟨by omega, by omega⟩ dX2_sellerFor_32 ?_
          have b_7 := hB 2 rfl i_4
          refine z_aload_n X 0 rfl dX2_sellerFor_33 ?_
          refine z_get (v := .ref (ad 3)) X 2 0 2 hiX2 rfl rfl (by decide) ⟨rfl, rfl, rfl⟩ (by decide +kernel) rfl dX2_sellerFor_34 ?_
          refine z_iload_n X 1 rfl dX2_sellerFor_37 ?_
          refine z_iald (g := w.1 2) X 3 0 rfl rfl (by omega) (by omega) ⟨by omega, by omega⟩ dX2_sellerFor_38 ?_
          have b_8 := hB 2 rfl b
          refine z_icmp_gt (tgt := 127) X ⟨by omega, by omega⟩ ⟨by omega, by omega⟩ (by decide) dX2_sellerFor_39 (fun c_9 => ?_) (fun c_9 => ?_)
          · skip
            refine z_iinc X 3 [1, 2, 3, 0] [(0, .ref (ad 0)), (1, .int (iZ b)), (2, .int (iZ a_4)), (3, .int (iZ (i_4 + 1)))] rfl rfl (Nat.le_of_ble_eq_true rfl) dX2_sellerFor_127 ?_
            refine z_goto (tgt := 4) X (by decide) dX2_sellerFor_130 ?_
            exact z_eq rfl (congrArg (fun z : Int => ([(0, .ref (ad 0)), (1, .int (iZ b)), (2, .int (iZ z)), (3, .int (iZ (i_4 + 1)))] : List (Nat × Value))) (show (m_sellerS w b) i_4 a_4 = a_4 from (by simp only [m_sellerS] <;> repeat' (first | with_reducible rfl | omega | split)))) hk_4
          · skip
            refine z_iload_n X 2 rfl dX2_sellerFor_42 ?_
            refine z_iconst X dX2_sellerFor_43 ?_
            refine z_icmp_eq (tgt := 62) X ⟨by omega, by omega⟩ ⟨by omega, by omega⟩ (by decide) dX2_sellerFor_44 (fun c_10 => ?_) (fun c_10 => ?_)
            · skip
              refine z_iconst X dX2_sellerFor_62 ?_
              refine z_goto (tgt := 67) X (by decide) dX2_sellerFor_63 ?_
              refine z_istore X [1, 2, 3, 4, 0] [(0, .ref (ad 0)), (1, .int (iZ b)), (2, .int (iZ a_4)), (3, .int (iZ i_4)), (4, .int (iZ 1))] rfl (Nat.le_of_ble_eq_true rfl) dX2_sellerFor_67 ?_
              refine z_iload_n X 2 rfl dX2_sellerFor_69 ?_
              refine z_iconst X dX2_sellerFor_70 ?_
              refine z_icmp_eq (tgt := 108) X ⟨by omega, by omega⟩ ⟨by omega, by omega⟩ (by decide) dX2_sellerFor_71 (fun c_11 => ?_) (fun c_11 => ?_)
              · skip
                refine z_iconst X dX2_sellerFor_108 ?_
                refine z_istore X [1, 2, 3, 4, 5, 0] [(0, .ref (ad 0)), (1, .int (iZ b)), (2, .int (iZ a_4)), (3, .int (iZ i_4)), (4, .int (iZ 1)), (5, .int (iZ 0))] rfl (Nat.le_of_ble_eq_true rfl) dX2_sellerFor_109 ?_
                refine z_iload X 4 rfl dX2_sellerFor_111 ?_
                refine z_if_ne (tgt := 121) X ⟨by omega, by omega⟩ (by decide) dX2_sellerFor_113 (fun c_12 => ?_) (fun c_12 => ?_)
                · skip
                  refine z_iload_n X 3 rfl dX2_sellerFor_121 ?_
                  refine z_goto (tgt := 126) X (by decide) dX2_sellerFor_122 ?_
                  refine z_istore_n X [1, 2, 0, 3, 4, 5] [(0, .ref (ad 0)), (1, .int (iZ b)), (2, .int (iZ i_4)), (3, .int (iZ i_4)), (4, .int (iZ 1)), (5, .int (iZ 0))] rfl (Nat.le_of_ble_eq_true rfl) dX2_sellerFor_126 ?_
                  refine z_iinc X 3 [1, 2, 3, 0, 4, 5] [(0, .ref (ad 0)), (1, .int (iZ b)), (2, .int (iZ i_4)), (3, .int (iZ (i_4 + 1))), (4, .int (iZ 1)), (5, .int (iZ 0))] rfl rfl (Nat.le_of_ble_eq_true rfl) dX2_sellerFor_127 ?_
                  refine z_goto (tgt := 4) X (by decide) dX2_sellerFor_130 ?_
                  refine z_sub (lv' := [(0, .ref (ad 0)), (1, .int (iZ b)), (2, .int (iZ i_4)), (3, .int (iZ (i_4 + 1)))]) [0, 1, 2, 3] rfl ?_
                  exact z_eq rfl (congrArg (fun z : Int => ([(0, .ref (ad 0)), (1, .int (iZ b)), (2, .int (iZ z)), (3, .int (iZ (i_4 + 1)))] : List (Nat × Value))) (show (m_sellerS w b) i_4 a_4 = i_4 from (by simp only [m_sellerS] <;> repeat' (first | with_reducible rfl | omega | split)))) hk_4
                · exact absurd c_12 (by omega)
              · skip
                refine z_aload_n X 0 rfl dX2_sellerFor_74 ?_
                refine z_get (v := .ref (ad 3)) X 2 0 2 hiX2 rfl rfl (by decide) ⟨rfl, rfl, rfl⟩ (by decide +kernel) rfl dX2_sellerFor_75 ?_
                refine z_iload_n X 3 rfl dX2_sellerFor_78 ?_
                refine z_iald (g := w.1 2) X 3 0 rfl rfl (by omega) (by omega) ⟨by omega, by omega⟩ dX2_sellerFor_79 ?_
                refine z_aload_n X 0 rfl dX2_sellerFor_80 ?_
                refine z_get (v := .ref (ad 3)) X 2 0 2 hiX2 rfl rfl (by decide) ⟨rfl, rfl, rfl⟩ (by decide +kernel) rfl dX2_sellerFor_81 ?_
                refine z_iload_n X 2 rfl dX2_sellerFor_84 ?_
                refine z_iald (g := w.1 2) X 3 0 rfl rfl (by omega) (by omega) ⟨by omega, by omega⟩ dX2_sellerFor_85 ?_
                have b_13 := hB 2 rfl a_4
                refine z_icmp_ne (tgt := 108) X ⟨by omega, by omega⟩ ⟨by omega, by omega⟩ (by decide) dX2_sellerFor_86 (fun c_14 => ?_) (fun c_14 => ?_)
                · skip
                  refine z_iconst X dX2_sellerFor_108 ?_
                  refine z_istore X [1, 2, 3, 4, 5, 0] [(0, .ref (ad 0)), (1, .int (iZ b)), (2, .int (iZ a_4)), (3, .int (iZ i_4)), (4, .int (iZ 1)), (5, .int (iZ 0))] rfl (Nat.le_of_ble_eq_true rfl) dX2_sellerFor_109 ?_
                  refine z_iload X 4 rfl dX2_sellerFor_111 ?_
                  refine z_if_ne (tgt := 121) X ⟨by omega, by omega⟩ (by decide) dX2_sellerFor_113 (fun c_15 => ?_) (fun c_15 => ?_)
                  · skip
                    refine z_iload_n X 3 rfl dX2_sellerFor_121 ?_
                    refine z_goto (tgt := 126) X (by decide) dX2_sellerFor_122 ?_
                    refine z_istore_n X [1, 2, 0, 3, 4, 5] [(0, .ref (ad 0)), (1, .int (iZ b)), (2, .int (iZ i_4)), (3, .int (iZ i_4)), (4, .int (iZ 1)), (5, .int (iZ 0))] rfl (Nat.le_of_ble_eq_true rfl) dX2_sellerFor_126 ?_
                    refine z_iinc X 3 [1, 2, 3, 0, 4, 5] [(0, .ref (ad 0)), (1, .int (iZ b)), (2, .int (iZ i_4)), (3, .int (iZ (i_4 + 1))), (4, .int (iZ 1)), (5, .int (iZ 0))] rfl rfl (Nat.le_of_ble_eq_true rfl) dX2_sellerFor_127 ?_
                    refine z_goto (tgt := 4) X (by decide) dX2_sellerFor_130 ?_
                    refine z_sub (lv' := [(0, .ref (ad 0)), (1, .int (iZ b)), (2, .int (iZ i_4)), (3, .int (iZ (i_4 + 1)))]) [0, 1, 2, 3] rfl ?_
                    exact z_eq rfl (congrArg (fun z : Int => ([(0, .ref (ad 0)), (1, .int (iZ b)), (2, .int (iZ z)), (3, .int (iZ (i_4 + 1)))] : List (Nat × Value))) (show (m_sellerS w b) i_4 a_4 = i_4 from (by simp only [m_sellerS] <;> repeat' (first | with_reducible rfl | omega | split)))) hk_4
                  · exact absurd c_15 (by omega)
                · skip
                  refine z_iload_n X 3 rfl dX2_sellerFor_89 ?_
                  refine z_iload_n X 1 rfl dX2_sellerFor_90 ?_
                  refine z_isub X dX2_sellerFor_91 ?_
                  refine z_callis X (c_X2_size l D ad cI cZ cL (i_4 - b) ⟨by omega, by omega⟩) (va_cwS 1 X.2.2.2.2.1 gX2_sellerFor_X2_size rfl rfl rfl (by decide +kernel) ⟨Nat.le_of_ble_eq_true rfl, Nat.le_of_ble_eq_true rfl⟩) rfl [] (Mw ad cI cZ w) rfl [] rfl (Nat.le_of_ble_eq_true rfl) dX2_sellerFor_92 ⟨Nat.le_of_ble_eq_true rfl, Nat.le_of_ble_eq_true rfl⟩ rfl ?_
                  have r_16 := m_size_sp (i_4 - b)
                  refine z_iload_n X 2 rfl dX2_sellerFor_95 ?_
                  refine z_iload_n X 1 rfl dX2_sellerFor_96 ?_
                  refine z_isub X dX2_sellerFor_97 ?_
                  refine z_callis X (c_X2_size l D ad cI cZ cL (a_4 - b) ⟨by omega, by omega⟩) (va_cwS 1 X.2.2.2.2.1 gX2_sellerFor_X2_size rfl rfl rfl (by decide +kernel) ⟨Nat.le_of_ble_eq_true rfl, Nat.le_of_ble_eq_true rfl⟩) rfl [] (Mw ad cI cZ w) rfl [.int (iZ (m_size (i_4 - b)))] rfl (Nat.le_of_ble_eq_true rfl) dX2_sellerFor_98 ⟨Nat.le_of_ble_eq_true rfl, Nat.le_of_ble_eq_true rfl⟩ rfl ?_
                  have r_17 := m_size_sp (a_4 - b)
                  refine z_icmp_ge (tgt := 108) X ⟨by omega, by omega⟩ ⟨by omega, by omega⟩ (by decide) dX2_sellerFor_101 (fun c_18 => ?_) (fun c_18 => ?_)
                  · skip
                    refine z_iconst X dX2_sellerFor_108 ?_
                    refine z_istore X [1, 2, 3, 4, 5, 0] [(0, .ref (ad 0)), (1, .int (iZ b)), (2, .int (iZ a_4)), (3, .int (iZ i_4)), (4, .int (iZ 1)), (5, .int (iZ 0))] rfl (Nat.le_of_ble_eq_true rfl) dX2_sellerFor_109 ?_
                    refine z_iload X 4 rfl dX2_sellerFor_111 ?_
                    refine z_if_ne (tgt := 121) X ⟨by omega, by omega⟩ (by decide) dX2_sellerFor_113 (fun c_19 => ?_) (fun c_19 => ?_)
                    · skip
                      refine z_iload_n X 3 rfl dX2_sellerFor_121 ?_
                      refine z_goto (tgt := 126) X (by decide) dX2_sellerFor_122 ?_
                      refine z_istore_n X [1, 2, 0, 3, 4, 5] [(0, .ref (ad 0)), (1, .int (iZ b)), (2, .int (iZ i_4)), (3, .int (iZ i_4)), (4, .int (iZ 1)), (5, .int (iZ 0))] rfl (Nat.le_of_ble_eq_true rfl) dX2_sellerFor_126 ?_
                      refine z_iinc X 3 [1, 2, 3, 0, 4, 5] [(0, .ref (ad 0)), (1, .int (iZ b)), (2, .int (iZ i_4)), (3, .int (iZ (i_4 + 1))), (4, .int (iZ 1)), (5, .int (iZ 0))] rfl rfl (Nat.le_of_ble_eq_true rfl) dX2_sellerFor_127 ?_
                      refine z_goto (tgt := 4) X (by decide) dX2_sellerFor_130 ?_
                      refine z_sub (lv' := [(0, .ref (ad 0)), (1, .int (iZ b)), (2, .int (iZ i_4)), (3, .int (iZ (i_4 + 1)))]) [0, 1, 2, 3] rfl ?_
                      exact z_eq rfl (congrArg (fun z : Int => ([(0, .ref (ad 0)), (1, .int (iZ b)), (2, .int (iZ z)), (3, .int (iZ (i_4 + 1)))] : List (Nat × Value))) (show (m_sellerS w b) i_4 a_4 = i_4 from (by simp only [m_sellerS] <;> repeat' (first | with_reducible rfl | omega | split)))) hk_4
                    · exact absurd c_19 (by omega)
                  · skip
                    refine z_iconst X dX2_sellerFor_104 ?_
                    refine z_goto (tgt := 109) X (by decide) dX2_sellerFor_105 ?_
                    refine z_istore X [1, 2, 3, 4, 5, 0] [(0, .ref (ad 0)), (1, .int (iZ b)), (2, .int (iZ a_4)), (3, .int (iZ i_4)), (4, .int (iZ 1)), (5, .int (iZ 1))] rfl (Nat.le_of_ble_eq_true rfl) dX2_sellerFor_109 ?_
                    refine z_iload X 4 rfl dX2_sellerFor_111 ?_
                    refine z_if_ne (tgt := 121) X ⟨by omega, by omega⟩ (by decide) dX2_sellerFor_113 (fun c_20 => ?_) (fun c_20 => ?_)
                    · skip
                      refine z_iload_n X 3 rfl dX2_sellerFor_121 ?_
                      refine z_goto (tgt := 126) X (by decide) dX2_sellerFor_122 ?_
                      refine z_istore_n X [1, 2, 0, 3, 4, 5] [(0, .ref (ad 0)), (1, .int (iZ b)), (2, .int (iZ i_4)), (3, .int (iZ i_4)), (4, .int (iZ 1)), (5, .int (iZ 1))] rfl (Nat.le_of_ble_eq_true rfl) dX2_sellerFor_126 ?_
                      refine z_iinc X 3 [1, 2, 3, 0, 4, 5] [(0, .ref (ad 0)), (1, .int (iZ b)), (2, .int (iZ i_4)), (3, .int (iZ (i_4 + 1))), (4, .int (iZ 1)), (5, .int (iZ 1))] rfl rfl (Nat.le_of_ble_eq_true rfl) dX2_sellerFor_127 ?_
                      refine z_goto (tgt := 4) X (by decide) dX2_sellerFor_130 ?_
                      refine z_sub (lv' := [(0, .ref (ad 0)), (1, .int (iZ b)), (2, .int (iZ i_4)), (3, .int (iZ (i_4 + 1)))]) [0, 1, 2, 3] rfl ?_
                      exact z_eq rfl (congrArg (fun z : Int => ([(0, .ref (ad 0)), (1, .int (iZ b)), (2, .int (iZ z)), (3, .int (iZ (i_4 + 1)))] : List (Nat × Value))) (show (m_sellerS w b) i_4 a_4 = i_4 from (by simp only [m_sellerS] <;> repeat' (first | with_reducible rfl | omega | split)))) hk_4
                    · exact absurd c_20 (by omega)
            · skip
              refine z_aload_n X 0 rfl dX2_sellerFor_47 ?_
              refine z_get (v := .ref (ad 3)) X 2 0 2 hiX2 rfl rfl (by decide) ⟨rfl, rfl, rfl⟩ (by decide +kernel) rfl dX2_sellerFor_48 ?_
              refine z_iload_n X 3 rfl dX2_sellerFor_51 ?_
              refine z_iald (g := w.1 2) X 3 0 rfl rfl (by omega) (by omega) ⟨by omega, by omega⟩ dX2_sellerFor_52 ?_
              refine z_aload_n X 0 rfl dX2_sellerFor_53 ?_
              refine z_get (v := .ref (ad 3)) X 2 0 2 hiX2 rfl rfl (by decide) ⟨rfl, rfl, rfl⟩ (by decide +kernel) rfl dX2_sellerFor_54 ?_
              refine z_iload_n X 2 rfl dX2_sellerFor_57 ?_
              refine z_iald (g := w.1 2) X 3 0 rfl rfl (by omega) (by omega) ⟨by omega, by omega⟩ dX2_sellerFor_58 ?_
              have b_21 := hB 2 rfl a_4
              refine z_icmp_ge (tgt := 66) X ⟨by omega, by omega⟩ ⟨by omega, by omega⟩ (by decide) dX2_sellerFor_59 (fun c_22 => ?_) (fun c_22 => ?_)
              · skip
                refine z_iconst X dX2_sellerFor_66 ?_
                refine z_istore X [1, 2, 3, 4, 0] [(0, .ref (ad 0)), (1, .int (iZ b)), (2, .int (iZ a_4)), (3, .int (iZ i_4)), (4, .int (iZ 0))] rfl (Nat.le_of_ble_eq_true rfl) dX2_sellerFor_67 ?_
                refine z_iload_n X 2 rfl dX2_sellerFor_69 ?_
                refine z_iconst X dX2_sellerFor_70 ?_
                refine z_icmp_eq (tgt := 108) X ⟨by omega, by omega⟩ ⟨by omega, by omega⟩ (by decide) dX2_sellerFor_71 (fun c_23 => ?_) (fun c_23 => ?_)
                · skip
                  refine z_iconst X dX2_sellerFor_108 ?_
                  refine z_istore X [1, 2, 3, 4, 5, 0] [(0, .ref (ad 0)), (1, .int (iZ b)), (2, .int (iZ a_4)), (3, .int (iZ i_4)), (4, .int (iZ 0)), (5, .int (iZ 0))] rfl (Nat.le_of_ble_eq_true rfl) dX2_sellerFor_109 ?_
                  refine z_iload X 4 rfl dX2_sellerFor_111 ?_
                  refine z_if_ne (tgt := 121) X ⟨by omega, by omega⟩ (by decide) dX2_sellerFor_113 (fun c_24 => ?_) (fun c_24 => ?_)
                  · exact absurd c_24 (by omega)
                  · skip
                    refine z_iload X 5 rfl dX2_sellerFor_116 ?_
                    refine z_if_eq (tgt := 125) X ⟨by omega, by omega⟩ (by decide) dX2_sellerFor_118 (fun c_25 => ?_) (fun c_25 => ?_)
                    · skip
                      refine z_iload_n X 2 rfl dX2_sellerFor_125 ?_
                      refine z_istore_n X [1, 2, 0, 3, 4, 5] [(0, .ref (ad 0)), (1, .int (iZ b)), (2, .int (iZ a_4)), (3, .int (iZ i_4)), (4, .int (iZ 0)), (5, .int (iZ 0))] rfl (Nat.le_of_ble_eq_true rfl) dX2_sellerFor_126 ?_
                      refine z_iinc X 3 [1, 2, 3, 0, 4, 5] [(0, .ref (ad 0)), (1, .int (iZ b)), (2, .int (iZ a_4)), (3, .int (iZ (i_4 + 1))), (4, .int (iZ 0)), (5, .int (iZ 0))] rfl rfl (Nat.le_of_ble_eq_true rfl) dX2_sellerFor_127 ?_
                      refine z_goto (tgt := 4) X (by decide) dX2_sellerFor_130 ?_
                      refine z_sub (lv' := [(0, .ref (ad 0)), (1, .int (iZ b)), (2, .int (iZ a_4)), (3, .int (iZ (i_4 + 1)))]) [0, 1, 2, 3] rfl ?_
                      exact z_eq rfl (congrArg (fun z : Int => ([(0, .ref (ad 0)), (1, .int (iZ b)), (2, .int (iZ z)), (3, .int (iZ (i_4 + 1)))] : List (Nat × Value))) (show (m_sellerS w b) i_4 a_4 = a_4 from (by simp only [m_sellerS] <;> repeat' (first | with_reducible rfl | omega | split)))) hk_4
                    · exact absurd c_25 (by omega)
                · skip
                  refine z_aload_n X 0 rfl dX2_sellerFor_74 ?_
                  refine z_get (v := .ref (ad 3)) X 2 0 2 hiX2 rfl rfl (by decide) ⟨rfl, rfl, rfl⟩ (by decide +kernel) rfl dX2_sellerFor_75 ?_
                  refine z_iload_n X 3 rfl dX2_sellerFor_78 ?_
                  refine z_iald (g := w.1 2) X 3 0 rfl rfl (by omega) (by omega) ⟨by omega, by omega⟩ dX2_sellerFor_79 ?_
                  refine z_aload_n X 0 rfl dX2_sellerFor_80 ?_
                  refine z_get (v := .ref (ad 3)) X 2 0 2 hiX2 rfl rfl (by decide) ⟨rfl, rfl, rfl⟩ (by decide +kernel) rfl dX2_sellerFor_81 ?_
                  refine z_iload_n X 2 rfl dX2_sellerFor_84 ?_
                  refine z_iald (g := w.1 2) X 3 0 rfl rfl (by omega) (by omega) ⟨by omega, by omega⟩ dX2_sellerFor_85 ?_
                  refine z_icmp_ne (tgt := 108) X ⟨by omega, by omega⟩ ⟨by omega, by omega⟩ (by decide) dX2_sellerFor_86 (fun c_26 => ?_) (fun c_26 => ?_)
                  · skip
                    refine z_iconst X dX2_sellerFor_108 ?_
                    refine z_istore X [1, 2, 3, 4, 5, 0] [(0, .ref (ad 0)), (1, .int (iZ b)), (2, .int (iZ a_4)), (3, .int (iZ i_4)), (4, .int (iZ 0)), (5, .int (iZ 0))] rfl (Nat.le_of_ble_eq_true rfl) dX2_sellerFor_109 ?_
                    refine z_iload X 4 rfl dX2_sellerFor_111 ?_
                    refine z_if_ne (tgt := 121) X ⟨by omega, by omega⟩ (by decide) dX2_sellerFor_113 (fun c_27 => ?_) (fun c_27 => ?_)
                    · exact absurd c_27 (by omega)
                    · skip
                      refine z_iload X 5 rfl dX2_sellerFor_116 ?_
                      refine z_if_eq (tgt := 125) X ⟨by omega, by omega⟩ (by decide) dX2_sellerFor_118 (fun c_28 => ?_) (fun c_28 => ?_)
                      · skip
                        refine z_iload_n X 2 rfl dX2_sellerFor_125 ?_
                        refine z_istore_n X [1, 2, 0, 3, 4, 5] [(0, .ref (ad 0)), (1, .int (iZ b)), (2, .int (iZ a_4)), (3, .int (iZ i_4)), (4, .int (iZ 0)), (5, .int (iZ 0))] rfl (Nat.le_of_ble_eq_true rfl) dX2_sellerFor_126 ?_
                        refine z_iinc X 3 [1, 2, 3, 0, 4, 5] [(0, .ref (ad 0)), (1, .int (iZ b)), (2, .int (iZ a_4)), (3, .int (iZ (i_4 + 1))), (4, .int (iZ 0)), (5, .int (iZ 0))] rfl rfl (Nat.le_of_ble_eq_true rfl) dX2_sellerFor_127 ?_
                        refine z_goto (tgt := 4) X (by decide) dX2_sellerFor_130 ?_
                        refine z_sub (lv' := [(0, .ref (ad 0)), (1, .int (iZ b)), (2, .int (iZ a_4)), (3, .int (iZ (i_4 + 1)))]) [0, 1, 2, 3] rfl ?_
                        exact z_eq rfl (congrArg (fun z : Int => ([(0, .ref (ad 0)), (1, .int (iZ b)), (2, .int (iZ z)), (3, .int (iZ (i_4 + 1)))] : List (Nat × Value))) (show (m_sellerS w b) i_4 a_4 = a_4 from (by simp only [m_sellerS] <;> repeat' (first | with_reducible rfl | omega | split)))) hk_4
                      · exact absurd c_28 (by omega)
                  · skip
                    refine z_iload_n X 3 rfl dX2_sellerFor_89 ?_
                    refine z_iload_n X 1 rfl dX2_sellerFor_90 ?_
                    refine z_isub X dX2_sellerFor_91 ?_
                    refine z_callis X (c_X2_size l D ad cI cZ cL (i_4 - b) ⟨by omega, by omega⟩) (va_cwS 1 X.2.2.2.2.1 gX2_sellerFor_X2_size rfl rfl rfl (by decide +kernel) ⟨Nat.le_of_ble_eq_true rfl, Nat.le_of_ble_eq_true rfl⟩) rfl [] (Mw ad cI cZ w) rfl [] rfl (Nat.le_of_ble_eq_true rfl) dX2_sellerFor_92 ⟨Nat.le_of_ble_eq_true rfl, Nat.le_of_ble_eq_true rfl⟩ rfl ?_
                    have r_29 := m_size_sp (i_4 - b)
                    refine z_iload_n X 2 rfl dX2_sellerFor_95 ?_
                    refine z_iload_n X 1 rfl dX2_sellerFor_96 ?_
                    refine z_isub X dX2_sellerFor_97 ?_
                    refine z_callis X (c_X2_size l D ad cI cZ cL (a_4 - b) ⟨by omega, by omega⟩) (va_cwS 1 X.2.2.2.2.1 gX2_sellerFor_X2_size rfl rfl rfl (by decide +kernel) ⟨Nat.le_of_ble_eq_true rfl, Nat.le_of_ble_eq_true rfl⟩) rfl [] (Mw ad cI cZ w) rfl [.int (iZ (m_size (i_4 - b)))] rfl (Nat.le_of_ble_eq_true rfl) dX2_sellerFor_98 ⟨Nat.le_of_ble_eq_true rfl, Nat.le_of_ble_eq_true rfl⟩ rfl ?_
                    have r_30 := m_size_sp (a_4 - b)
                    refine z_icmp_ge (tgt := 108) X ⟨by omega, by omega⟩ ⟨by omega, by omega⟩ (by decide) dX2_sellerFor_101 (fun c_31 => ?_) (fun c_31 => ?_)
                    · skip
                      refine z_iconst X dX2_sellerFor_108 ?_
                      refine z_istore X [1, 2, 3, 4, 5, 0] [(0, .ref (ad 0)), (1, .int (iZ b)), (2, .int (iZ a_4)), (3, .int (iZ i_4)), (4, .int (iZ 0)), (5, .int (iZ 0))] rfl (Nat.le_of_ble_eq_true rfl) dX2_sellerFor_109 ?_
                      refine z_iload X 4 rfl dX2_sellerFor_111 ?_
                      refine z_if_ne (tgt := 121) X ⟨by omega, by omega⟩ (by decide) dX2_sellerFor_113 (fun c_32 => ?_) (fun c_32 => ?_)
                      · exact absurd c_32 (by omega)
                      · skip
                        refine z_iload X 5 rfl dX2_sellerFor_116 ?_
                        refine z_if_eq (tgt := 125) X ⟨by omega, by omega⟩ (by decide) dX2_sellerFor_118 (fun c_33 => ?_) (fun c_33 => ?_)
                        · skip
                          refine z_iload_n X 2 rfl dX2_sellerFor_125 ?_
                          refine z_istore_n X [1, 2, 0, 3, 4, 5] [(0, .ref (ad 0)), (1, .int (iZ b)), (2, .int (iZ a_4)), (3, .int (iZ i_4)), (4, .int (iZ 0)), (5, .int (iZ 0))] rfl (Nat.le_of_ble_eq_true rfl) dX2_sellerFor_126 ?_
                          refine z_iinc X 3 [1, 2, 3, 0, 4, 5] [(0, .ref (ad 0)), (1, .int (iZ b)), (2, .int (iZ a_4)), (3, .int (iZ (i_4 + 1))), (4, .int (iZ 0)), (5, .int (iZ 0))] rfl rfl (Nat.le_of_ble_eq_true rfl) dX2_sellerFor_127 ?_
                          refine z_goto (tgt := 4) X (by decide) dX2_sellerFor_130 ?_
                          refine z_sub (lv' := [(0, .ref (ad 0)), (1, .int (iZ b)), (2, .int (iZ a_4)), (3, .int (iZ (i_4 + 1)))]) [0, 1, 2, 3] rfl ?_
                          exact z_eq rfl (congrArg (fun z : Int => ([(0, .ref (ad 0)), (1, .int (iZ b)), (2, .int (iZ z)), (3, .int (iZ (i_4 + 1)))] : List (Nat × Value))) (show (m_sellerS w b) i_4 a_4 = a_4 from (by simp only [m_sellerS] <;> repeat' (first | with_reducible rfl | omega | split)))) hk_4
                        · exact absurd c_33 (by omega)
                    · skip
                      refine z_iconst X dX2_sellerFor_104 ?_
                      refine z_goto (tgt := 109) X (by decide) dX2_sellerFor_105 ?_
                      refine z_istore X [1, 2, 3, 4, 5, 0] [(0, .ref (ad 0)), (1, .int (iZ b)), (2, .int (iZ a_4)), (3, .int (iZ i_4)), (4, .int (iZ 0)), (5, .int (iZ 1))] rfl (Nat.le_of_ble_eq_true rfl) dX2_sellerFor_109 ?_
                      refine z_iload X 4 rfl dX2_sellerFor_111 ?_
                      refine z_if_ne (tgt := 121) X ⟨by omega, by omega⟩ (by decide) dX2_sellerFor_113 (fun c_34 => ?_) (fun c_34 => ?_)
                      · exact absurd c_34 (by omega)
                      · skip
                        refine z_iload X 5 rfl dX2_sellerFor_116 ?_
                        refine z_if_eq (tgt := 125) X ⟨by omega, by omega⟩ (by decide) dX2_sellerFor_118 (fun c_35 => ?_) (fun c_35 => ?_)
                        · exact absurd c_35 (by omega)
                        · skip
                          refine z_iload_n X 3 rfl dX2_sellerFor_121 ?_
                          refine z_goto (tgt := 126) X (by decide) dX2_sellerFor_122 ?_
                          refine z_istore_n X [1, 2, 0, 3, 4, 5] [(0, .ref (ad 0)), (1, .int (iZ b)), (2, .int (iZ i_4)), (3, .int (iZ i_4)), (4, .int (iZ 0)), (5, .int (iZ 1))] rfl (Nat.le_of_ble_eq_true rfl) dX2_sellerFor_126 ?_
                          refine z_iinc X 3 [1, 2, 3, 0, 4, 5] [(0, .ref (ad 0)), (1, .int (iZ b)), (2, .int (iZ i_4)), (3, .int (iZ (i_4 + 1))), (4, .int (iZ 0)), (5, .int (iZ 1))] rfl rfl (Nat.le_of_ble_eq_true rfl) dX2_sellerFor_127 ?_
                          refine z_goto (tgt := 4) X (by decide) dX2_sellerFor_130 ?_
                          refine z_sub (lv' := [(0, .ref (ad 0)), (1, .int (iZ b)), (2, .int (iZ i_4)), (3, .int (iZ (i_4 + 1)))]) [0, 1, 2, 3] rfl ?_
                          exact z_eq rfl (congrArg (fun z : Int => ([(0, .ref (ad 0)), (1, .int (iZ b)), (2, .int (iZ z)), (3, .int (iZ (i_4 + 1)))] : List (Nat × Value))) (show (m_sellerS w b) i_4 a_4 = i_4 from (by simp only [m_sellerS] <;> repeat' (first | with_reducible rfl | omega | split)))) hk_4
              · skip
                refine z_iconst X dX2_sellerFor_62 ?_
                refine z_goto (tgt := 67) X (by decide) dX2_sellerFor_63 ?_
                refine z_istore X [1, 2, 3, 4, 0] [(0, .ref (ad 0)), (1, .int (iZ b)), (2, .int (iZ a_4)), (3, .int (iZ i_4)), (4, .int (iZ 1))] rfl (Nat.le_of_ble_eq_true rfl) dX2_sellerFor_67 ?_
                refine z_iload_n X 2 rfl dX2_sellerFor_69 ?_
                refine z_iconst X dX2_sellerFor_70 ?_
                refine z_icmp_eq (tgt := 108) X ⟨by omega, by omega⟩ ⟨by omega, by omega⟩ (by decide) dX2_sellerFor_71 (fun c_36 => ?_) (fun c_36 => ?_)
                · skip
                  refine z_iconst X dX2_sellerFor_108 ?_
                  refine z_istore X [1, 2, 3, 4, 5, 0] [(0, .ref (ad 0)), (1, .int (iZ b)), (2, .int (iZ a_4)), (3, .int (iZ i_4)), (4, .int (iZ 1)), (5, .int (iZ 0))] rfl (Nat.le_of_ble_eq_true rfl) dX2_sellerFor_109 ?_
                  refine z_iload X 4 rfl dX2_sellerFor_111 ?_
                  refine z_if_ne (tgt := 121) X ⟨by omega, by omega⟩ (by decide) dX2_sellerFor_113 (fun c_37 => ?_) (fun c_37 => ?_)
                  · skip
                    refine z_iload_n X 3 rfl dX2_sellerFor_121 ?_
                    refine z_goto (tgt := 126) X (by decide) dX2_sellerFor_122 ?_
                    refine z_istore_n X [1, 2, 0, 3, 4, 5] [(0, .ref (ad 0)), (1, .int (iZ b)), (2, .int (iZ i_4)), (3, .int (iZ i_4)), (4, .int (iZ 1)), (5, .int (iZ 0))] rfl (Nat.le_of_ble_eq_true rfl) dX2_sellerFor_126 ?_
                    refine z_iinc X 3 [1, 2, 3, 0, 4, 5] [(0, .ref (ad 0)), (1, .int (iZ b)), (2, .int (iZ i_4)), (3, .int (iZ (i_4 + 1))), (4, .int (iZ 1)), (5, .int (iZ 0))] rfl rfl (Nat.le_of_ble_eq_true rfl) dX2_sellerFor_127 ?_
                    refine z_goto (tgt := 4) X (by decide) dX2_sellerFor_130 ?_
                    refine z_sub (lv' := [(0, .ref (ad 0)), (1, .int (iZ b)), (2, .int (iZ i_4)), (3, .int (iZ (i_4 + 1)))]) [0, 1, 2, 3] rfl ?_
                    exact z_eq rfl (congrArg (fun z : Int => ([(0, .ref (ad 0)), (1, .int (iZ b)), (2, .int (iZ z)), (3, .int (iZ (i_4 + 1)))] : List (Nat × Value))) (show (m_sellerS w b) i_4 a_4 = i_4 from (by simp only [m_sellerS] <;> repeat' (first | with_reducible rfl | omega | split)))) hk_4
                  · exact absurd c_37 (by omega)
                · skip
                  refine z_aload_n X 0 rfl dX2_sellerFor_74 ?_
                  refine z_get (v := .ref (ad 3)) X 2 0 2 hiX2 rfl rfl (by decide) ⟨rfl, rfl, rfl⟩ (by decide +kernel) rfl dX2_sellerFor_75 ?_
                  refine z_iload_n X 3 rfl dX2_sellerFor_78 ?_
                  refine z_iald (g := w.1 2) X 3 0 rfl rfl (by omega) (by omega) ⟨by omega, by omega⟩ dX2_sellerFor_79 ?_
                  refine z_aload_n X 0 rfl dX2_sellerFor_80 ?_
                  refine z_get (v := .ref (ad 3)) X 2 0 2 hiX2 rfl rfl (by decide) ⟨rfl, rfl, rfl⟩ (by decide +kernel) rfl dX2_sellerFor_81 ?_
                  refine z_iload_n X 2 rfl dX2_sellerFor_84 ?_
                  refine z_iald (g := w.1 2) X 3 0 rfl rfl (by omega) (by omega) ⟨by omega, by omega⟩ dX2_sellerFor_85 ?_
                  refine z_icmp_ne (tgt := 108) X ⟨by omega, by omega⟩ ⟨by omega, by omega⟩ (by decide) dX2_sellerFor_86 (fun c_38 => ?_) (fun c_38 => ?_)
                  · skip
                    refine z_iconst X dX2_sellerFor_108 ?_
                    refine z_istore X [1, 2, 3, 4, 5, 0] [(0, .ref (ad 0)), (1, .int (iZ b)), (2, .int (iZ a_4)), (3, .int (iZ i_4)), (4, .int (iZ 1)), (5, .int (iZ 0))] rfl (Nat.le_of_ble_eq_true rfl) dX2_sellerFor_109 ?_
                    refine z_iload X 4 rfl dX2_sellerFor_111 ?_
                    refine z_if_ne (tgt := 121) X ⟨by omega, by omega⟩ (by decide) dX2_sellerFor_113 (fun c_39 => ?_) (fun c_39 => ?_)
                    · skip
                      refine z_iload_n X 3 rfl dX2_sellerFor_121 ?_
                      refine z_goto (tgt := 126) X (by decide) dX2_sellerFor_122 ?_
                      refine z_istore_n X [1, 2, 0, 3, 4, 5] [(0, .ref (ad 0)), (1, .int (iZ b)), (2, .int (iZ i_4)), (3, .int (iZ i_4)), (4, .int (iZ 1)), (5, .int (iZ 0))] rfl (Nat.le_of_ble_eq_true rfl) dX2_sellerFor_126 ?_
                      refine z_iinc X 3 [1, 2, 3, 0, 4, 5] [(0, .ref (ad 0)), (1, .int (iZ b)), (2, .int (iZ i_4)), (3, .int (iZ (i_4 + 1))), (4, .int (iZ 1)), (5, .int (iZ 0))] rfl rfl (Nat.le_of_ble_eq_true rfl) dX2_sellerFor_127 ?_
                      refine z_goto (tgt := 4) X (by decide) dX2_sellerFor_130 ?_
                      refine z_sub (lv' := [(0, .ref (ad 0)), (1, .int (iZ b)), (2, .int (iZ i_4)), (3, .int (iZ (i_4 + 1)))]) [0, 1, 2, 3] rfl ?_
                      exact z_eq rfl (congrArg (fun z : Int => ([(0, .ref (ad 0)), (1, .int (iZ b)), (2, .int (iZ z)), (3, .int (iZ (i_4 + 1)))] : List (Nat × Value))) (show (m_sellerS w b) i_4 a_4 = i_4 from (by simp only [m_sellerS] <;> repeat' (first | with_reducible rfl | omega | split)))) hk_4
                    · exact absurd c_39 (by omega)
                  · skip
                    refine z_iload_n X 3 rfl dX2_sellerFor_89 ?_
                    refine z_iload_n X 1 rfl dX2_sellerFor_90 ?_
                    refine z_isub X dX2_sellerFor_91 ?_
                    refine z_callis X (c_X2_size l D ad cI cZ cL (i_4 - b) ⟨by omega, by omega⟩) (va_cwS 1 X.2.2.2.2.1 gX2_sellerFor_X2_size rfl rfl rfl (by decide +kernel) ⟨Nat.le_of_ble_eq_true rfl, Nat.le_of_ble_eq_true rfl⟩) rfl [] (Mw ad cI cZ w) rfl [] rfl (Nat.le_of_ble_eq_true rfl) dX2_sellerFor_92 ⟨Nat.le_of_ble_eq_true rfl, Nat.le_of_ble_eq_true rfl⟩ rfl ?_
                    have r_40 := m_size_sp (i_4 - b)
                    refine z_iload_n X 2 rfl dX2_sellerFor_95 ?_
                    refine z_iload_n X 1 rfl dX2_sellerFor_96 ?_
                    refine z_isub X dX2_sellerFor_97 ?_
                    refine z_callis X (c_X2_size l D ad cI cZ cL (a_4 - b) ⟨by omega, by omega⟩) (va_cwS 1 X.2.2.2.2.1 gX2_sellerFor_X2_size rfl rfl rfl (by decide +kernel) ⟨Nat.le_of_ble_eq_true rfl, Nat.le_of_ble_eq_true rfl⟩) rfl [] (Mw ad cI cZ w) rfl [.int (iZ (m_size (i_4 - b)))] rfl (Nat.le_of_ble_eq_true rfl) dX2_sellerFor_98 ⟨Nat.le_of_ble_eq_true rfl, Nat.le_of_ble_eq_true rfl⟩ rfl ?_
                    have r_41 := m_size_sp (a_4 - b)
                    refine z_icmp_ge (tgt := 108) X ⟨by omega, by omega⟩ ⟨by omega, by omega⟩ (by decide) dX2_sellerFor_101 (fun c_42 => ?_) (fun c_42 => ?_)
                    · skip
                      refine z_iconst X dX2_sellerFor_108 ?_
                      refine z_istore X [1, 2, 3, 4, 5, 0] [(0, .ref (ad 0)), (1, .int (iZ b)), (2, .int (iZ a_4)), (3, .int (iZ i_4)), (4, .int (iZ 1)), (5, .int (iZ 0))] rfl (Nat.le_of_ble_eq_true rfl) dX2_sellerFor_109 ?_
                      refine z_iload X 4 rfl dX2_sellerFor_111 ?_
                      refine z_if_ne (tgt := 121) X ⟨by omega, by omega⟩ (by decide) dX2_sellerFor_113 (fun c_43 => ?_) (fun c_43 => ?_)
                      · skip
                        refine z_iload_n X 3 rfl dX2_sellerFor_121 ?_
                        refine z_goto (tgt := 126) X (by decide) dX2_sellerFor_122 ?_
                        refine z_istore_n X [1, 2, 0, 3, 4, 5] [(0, .ref (ad 0)), (1, .int (iZ b)), (2, .int (iZ i_4)), (3, .int (iZ i_4)), (4, .int (iZ 1)), (5, .int (iZ 0))] rfl (Nat.le_of_ble_eq_true rfl) dX2_sellerFor_126 ?_
                        refine z_iinc X 3 [1, 2, 3, 0, 4, 5] [(0, .ref (ad 0)), (1, .int (iZ b)), (2, .int (iZ i_4)), (3, .int (iZ (i_4 + 1))), (4, .int (iZ 1)), (5, .int (iZ 0))] rfl rfl (Nat.le_of_ble_eq_true rfl) dX2_sellerFor_127 ?_
                        refine z_goto (tgt := 4) X (by decide) dX2_sellerFor_130 ?_
                        refine z_sub (lv' := [(0, .ref (ad 0)), (1, .int (iZ b)), (2, .int (iZ i_4)), (3, .int (iZ (i_4 + 1)))]) [0, 1, 2, 3] rfl ?_
                        exact z_eq rfl (congrArg (fun z : Int => ([(0, .ref (ad 0)), (1, .int (iZ b)), (2, .int (iZ z)), (3, .int (iZ (i_4 + 1)))] : List (Nat × Value))) (show (m_sellerS w b) i_4 a_4 = i_4 from (by simp only [m_sellerS] <;> repeat' (first | with_reducible rfl | omega | split)))) hk_4
                      · exact absurd c_43 (by omega)
                    · skip
                      refine z_iconst X dX2_sellerFor_104 ?_
                      refine z_goto (tgt := 109) X (by decide) dX2_sellerFor_105 ?_
                      refine z_istore X [1, 2, 3, 4, 5, 0] [(0, .ref (ad 0)), (1, .int (iZ b)), (2, .int (iZ a_4)), (3, .int (iZ i_4)), (4, .int (iZ 1)), (5, .int (iZ 1))] rfl (Nat.le_of_ble_eq_true rfl) dX2_sellerFor_109 ?_
                      refine z_iload X 4 rfl dX2_sellerFor_111 ?_
                      refine z_if_ne (tgt := 121) X ⟨by omega, by omega⟩ (by decide) dX2_sellerFor_113 (fun c_44 => ?_) (fun c_44 => ?_)
                      · skip
                        refine z_iload_n X 3 rfl dX2_sellerFor_121 ?_
                        refine z_goto (tgt := 126) X (by decide) dX2_sellerFor_122 ?_
                        refine z_istore_n X [1, 2, 0, 3, 4, 5] [(0, .ref (ad 0)), (1, .int (iZ b)), (2, .int (iZ i_4)), (3, .int (iZ i_4)), (4, .int (iZ 1)), (5, .int (iZ 1))] rfl (Nat.le_of_ble_eq_true rfl) dX2_sellerFor_126 ?_
                        refine z_iinc X 3 [1, 2, 3, 0, 4, 5] [(0, .ref (ad 0)), (1, .int (iZ b)), (2, .int (iZ i_4)), (3, .int (iZ (i_4 + 1))), (4, .int (iZ 1)), (5, .int (iZ 1))] rfl rfl (Nat.le_of_ble_eq_true rfl) dX2_sellerFor_127 ?_
                        refine z_goto (tgt := 4) X (by decide) dX2_sellerFor_130 ?_
                        refine z_sub (lv' := [(0, .ref (ad 0)), (1, .int (iZ b)), (2, .int (iZ i_4)), (3, .int (iZ (i_4 + 1)))]) [0, 1, 2, 3] rfl ?_
                        exact z_eq rfl (congrArg (fun z : Int => ([(0, .ref (ad 0)), (1, .int (iZ b)), (2, .int (iZ z)), (3, .int (iZ (i_4 + 1)))] : List (Nat × Value))) (show (m_sellerS w b) i_4 a_4 = i_4 from (by simp only [m_sellerS] <;> repeat' (first | with_reducible rfl | omega | split)))) hk_4
                      · exact absurd c_44 (by omega)
set_option maxHeartbeats 4000000 in
set_option maxRecDepth 100000 in
theorem c_X2_takes (l : Launch) (D : va_G) (ad : Nat → Nat) (cI cZ cL : ClassId) (w : GS) (b : Int) (h0 : 0 ≤ b ∧ b ≤ 5) (hI : MI1 w) (hbu : ¬ m_buyer w b = 0) : zMv l D (zT cI cZ cL) yX2_takes wsX2_takes ({ frames := 2, cells := 0, slots := 0, locals := 46 } : Room) (Mw ad cI cZ w) [.ref (ad 0), .int (iZ b)] (Mw ad cI cZ (m_takes w b)) 0 0 := by
  have hB := hI.bd
  refine z_mv (cc := cX2_takes) (maxL := 4) (ret := none) (by decide) rfl (Nat.le_of_ble_eq_true rfl) ?_
  intro p e s m below meth c A X hr hlk hin
  have hiX2 : ∀ w ∈ wsX20, w ∈ wsX2_takes := by decide +kernel
  refine z_sub (lv' := [(0, .ref (ad 0)), (1, .int (iZ b))]) [0, 1] rfl ?_
  refine z_aload_n X 0 rfl dX2_takes_0 ?_
  refine z_iload_n X 1 rfl dX2_takes_1 ?_
  refine z_calli X (c_X2_sellerFor l D ad cI cZ cL w b (by omega) hB) (cwV 1 X.2.2.2.2.1 gX2_takes_X2_sellerFor rfl rfl rfl (by decide +kernel) ⟨Nat.le_of_ble_eq_true rfl, Nat.le_of_ble_eq_true rfl⟩) rfl [] [] (List.append_nil _).symm 2 0 rfl rfl [] rfl (Nat.le_of_ble_eq_true rfl) dX2_takes_2 ⟨Nat.le_of_ble_eq_true rfl, Nat.le_of_ble_eq_true rfl⟩ (List.append_nil _) ?_
  have r_1 := m_seller_spec w b
  refine z_istore_n X [1, 2, 0] [(0, .ref (ad 0)), (1, .int (iZ b)), (2, .int (iZ (m_seller w b)))] rfl (Nat.le_of_ble_eq_true rfl) dX2_takes_5 ?_
  suffices H_6 : ∀ (n_6 : Nat) (v_6 : GS) (x_6 : Int), (MI1 v_6 ∧ x_6 = m_seller v_6 b ∧ NZ (v_6.1 14) ≤ ((n_6 : Nat) : Int) ∧ ¬ m_buyer v_6 b = 0) → (m_takesL b n_6 v_6 = m_takes w b) → zW p l e ({ frames := 2, cells := 0, slots := 0, locals := 46 } : Room) s m ([.ref (ad 0), .int (iZ b)] : List Value).toArray below meth c 4 D A 0 0 (MQ below (zPv D (zT cI cZ cL) (Mw ad cI cZ (m_takes w b)) A) ([.ref (ad 0), .int (iZ b)] : List Value).toArray s 0 0 A) (Mw ad cI cZ v_6) 6 [(0, .ref (ad 0)), (1, .int (iZ b)), (2, .int (iZ x_6))] [] from H_6 8 w (m_seller w b) ⟨hI, rfl, by have := NZ_rg (w.1 14); omega, hbu⟩ rfl
  intro n_6
  induction n_6 with
  | zero =>
    intro v_6 x_6 hI_6 hF_6
    have hB_6 := hI_6.1.bd
    have hP_6 := hI_6.1.1.2.2.2.1
    have hx_6 := hI_6.2.1
    have hn_6 := hI_6.2.2.1
    have hbu_6 := hI_6.2.2.2
    have hs_6 := m_seller_spec v_6 b
    have hb_6 := m_buyer_sp v_6 b
    have hc0_6 := hI_6.1.2.1.1
    have hc6_6 := hI_6.1.2.1.2.1
    have hN_6 := NZ_rg (v_6.1 14)
    have hL_6 := hI_6.1.2.2.1 b
    have hz_6 : v_6.1 14 b = 0 ∨ 1 ≤ NZ (v_6.1 14) := NZ_ge h0
    rw [← hx_6] at hs_6
    have hk_6 := hI_6.1.2.2.2
    refine z_aload_n X 0 rfl dX2_takes_6 ?_
    refine z_get (v := .ref (ad 15)) X 2 0 20 hiX2 rfl rfl (by decide) ⟨rfl, rfl, rfl⟩ (by decide +kernel) rfl dX2_takes_7 ?_
    refine z_iload_n X 1 rfl dX2_takes_10 ?_
    refine z_iald (g := v_6.1 14) X 15 0 rfl rfl (by omega) (by omega) ⟨by omega, by omega⟩ dX2_takes_11 ?_
    have b_2 := hB_6 14 rfl b
    refine z_if_le (tgt := 129) X ⟨by omega, by omega⟩ (by decide) dX2_takes_12 (fun c_3 => ?_) (fun c_3 => ?_)
    · skip
      exact z_vret X hr hlk (congrArg (Mw ad cI cZ) (show v_6 = m_takes w b from by subst hx_6; rw [← hF_6]; simp only [m_takesL] <;> repeat' (first | with_reducible rfl | omega | split))) dX2_takes_129
    · exact absurd c_3 (by omega)
  | succ n_6 ih_6 =>
    intro v_6 x_6 hI_6 hF_6
    have hB_6 := hI_6.1.bd
    have hP_6 := hI_6.1.1.2.2.2.1
    have hx_6 := hI_6.2.1
    have hn_6 := hI_6.2.2.1
    have hbu_6 := hI_6.2.2.2
    have hs_6 := m_seller_spec v_6 b
    have hb_6 := m_buyer_sp v_6 b
    have hc0_6 := hI_6.1.2.1.1
    have hc6_6 := hI_6.1.2.1.2.1
    have hN_6 := NZ_rg (v_6.1 14)
    have hL_6 := hI_6.1.2.2.1 b
    have hz_6 : v_6.1 14 b = 0 ∨ 1 ≤ NZ (v_6.1 14) := NZ_ge h0
    rw [← hx_6] at hs_6
    have hk_6 := hI_6.1.2.2.2
    refine z_aload_n X 0 rfl dX2_takes_6 ?_
    refine z_get (v := .ref (ad 15)) X 2 0 20 hiX2 rfl rfl (by decide) ⟨rfl, rfl, rfl⟩ (by decide +kernel) rfl dX2_takes_7 ?_
    refine z_iload_n X 1 rfl dX2_takes_10 ?_
    refine z_iald (g := v_6.1 14) X 15 0 rfl rfl (by omega) (by omega) ⟨by omega, by omega⟩ dX2_takes_11 ?_
    have b_4 := hB_6 14 rfl b
    refine z_if_le (tgt := 129) X ⟨by omega, by omega⟩ (by decide) dX2_takes_12 (fun c_5 => ?_) (fun c_5 => ?_)
    · skip
      exact z_vret X hr hlk (congrArg (Mw ad cI cZ) (show v_6 = m_takes w b from by subst hx_6; rw [← hF_6]; simp only [m_takesL] <;> repeat' (first | with_reducible rfl | omega | split))) dX2_takes_129
    · skip
      refine z_iload_n X 2 rfl dX2_takes_15 ?_
      refine z_iconst X dX2_takes_16 ?_
      refine z_icmp_eq (tgt := 129) X ⟨by omega, by omega⟩ ⟨by omega, by omega⟩ (by decide) dX2_takes_17 (fun c_6 => ?_) (fun c_6 => ?_)
      · skip
        exact z_vret X hr hlk (congrArg (Mw ad cI cZ) (show v_6 = m_takes w b from by subst hx_6; rw [← hF_6]; simp only [m_takesL] <;> repeat' (first | with_reducible rfl | omega | split))) dX2_takes_129
      · skip
        have ht9 : MI1 (m_trade v_6 x_6 b) ∧ NZ ((m_trade v_6 x_6 b).1 14) + 1 ≤ NZ (v_6.1 14) := MI1_trade hI_6.1 (by omega) h0 (fun q => by rw [q] at hs_6; omega) (by omega) (by omega)
        refine z_aload_n X 0 rfl dX2_takes_20 ?_
        refine z_get (v := .ref (ad 15)) X 2 0 20 hiX2 rfl rfl (by decide) ⟨rfl, rfl, rfl⟩ (by decide +kernel) rfl dX2_takes_21 ?_
        refine z_iload_n X 1 rfl dX2_takes_24 ?_
        refine z_iald (g := v_6.1 14) X 15 0 rfl rfl (by omega) (by omega) ⟨by omega, by omega⟩ dX2_takes_25 ?_
        refine z_aload_n X 0 rfl dX2_takes_26 ?_
        refine z_get (v := .ref (ad 15)) X 2 0 20 hiX2 rfl rfl (by decide) ⟨rfl, rfl, rfl⟩ (by decide +kernel) rfl dX2_takes_27 ?_
        refine z_iload_n X 2 rfl dX2_takes_30 ?_
        refine z_iald (g := v_6.1 14) X 15 0 rfl rfl (by omega) (by omega) ⟨by omega, by omega⟩ dX2_takes_31 ?_
        have b_7 := hB_6 14 rfl x_6
        refine z_callis X (c_X2_lesser l D ad cI cZ cL (v_6.1 14 b) (v_6.1 14 x_6) ⟨by omega, by omega⟩ ⟨by omega, by omega⟩) (va_cwS 2 X.2.2.2.2.1 gX2_takes_X2_lesser rfl rfl rfl (by decide +kernel) ⟨Nat.le_of_ble_eq_true rfl, Nat.le_of_ble_eq_true rfl⟩) rfl [] (Mw ad cI cZ v_6) rfl [] rfl (Nat.le_of_ble_eq_true rfl) dX2_takes_32 ⟨Nat.le_of_ble_eq_true rfl, Nat.le_of_ble_eq_true rfl⟩ rfl ?_
        have r_8 := m_lesser_sp (v_6.1 14 b) (v_6.1 14 x_6)
        refine z_istore_n X [1, 2, 3, 0] [(0, .ref (ad 0)), (1, .int (iZ b)), (2, .int (iZ x_6)), (3, .int (iZ (m_lesser (v_6.1 14 b) (v_6.1 14 x_6))))] rfl (Nat.le_of_ble_eq_true rfl) dX2_takes_35 ?_
        refine z_aload_n X 0 rfl dX2_takes_36 ?_
        refine z_get (v := .ref (ad 9)) X 2 0 13 hiX2 rfl rfl (by decide) ⟨rfl, rfl, rfl⟩ (by decide +kernel) rfl dX2_takes_37 ?_
        refine z_aload_n X 0 rfl dX2_takes_40 ?_
        refine z_get (v := .int (iZ (v_6.2 5))) X 2 0 17 hiX2 rfl rfl (by decide) ⟨rfl, rfl, rfl⟩ (by decide +kernel) rfl dX2_takes_41 ?_
        refine z_iload_n X 2 rfl dX2_takes_44 ?_
        refine z_iast (g := v_6.1 8) X 9 0 (Mw ad cI cZ (gA v_6 8 (v_6.2 5) x_6)) rfl rfl (by omega) (by omega) ⟨by omega, by omega⟩ rfl dX2_takes_45 ?_
        refine z_aload_n X 0 rfl dX2_takes_46 ?_
        refine z_get (v := .ref (ad 10)) X 2 0 14 hiX2 rfl rfl (by decide) ⟨rfl, rfl, rfl⟩ (by decide +kernel) rfl dX2_takes_47 ?_
        refine z_aload_n X 0 rfl dX2_takes_50 ?_
        refine z_get (v := .int (iZ (v_6.2 5))) X 2 0 17 hiX2 rfl rfl (by decide) ⟨rfl, rfl, rfl⟩ (by decide +kernel) rfl dX2_takes_51 ?_
        refine z_iload_n X 1 rfl dX2_takes_54 ?_
        refine z_iast (g := v_6.1 9) X 10 0 (Mw ad cI cZ (gA (gA v_6 8 (v_6.2 5) x_6) 9 (v_6.2 5) b)) rfl rfl (by omega) (by omega) ⟨by omega, by omega⟩ rfl dX2_takes_55 ?_
        refine z_aload_n X 0 rfl dX2_takes_56 ?_
        refine z_get (v := .ref (ad 11)) X 2 0 15 hiX2 rfl rfl (by decide) ⟨rfl, rfl, rfl⟩ (by decide +kernel) rfl dX2_takes_57 ?_
        refine z_aload_n X 0 rfl dX2_takes_60 ?_
        refine z_get (v := .int (iZ (v_6.2 5))) X 2 0 17 hiX2 rfl rfl (by decide) ⟨rfl, rfl, rfl⟩ (by decide +kernel) rfl dX2_takes_61 ?_
        refine z_iload_n X 3 rfl dX2_takes_64 ?_
        refine z_iast (g := v_6.1 10) X 11 0 (Mw ad cI cZ (gA (gA (gA v_6 8 (v_6.2 5) x_6) 9 (v_6.2 5) b) 10 (v_6.2 5) (m_lesser (v_6.1 14 b) (v_6.1 14 x_6)))) rfl rfl (by omega) (by omega) ⟨by omega, by omega⟩ rfl dX2_takes_65 ?_
        refine z_aload_n X 0 rfl dX2_takes_66 ?_
        refine z_get (v := .ref (ad 12)) X 2 0 16 hiX2 rfl rfl (by decide) ⟨rfl, rfl, rfl⟩ (by decide +kernel) rfl dX2_takes_67 ?_
        refine z_aload_n X 0 rfl dX2_takes_70 ?_
        refine z_get (v := .int (iZ (v_6.2 5))) X 2 0 17 hiX2 rfl rfl (by decide) ⟨rfl, rfl, rfl⟩ (by decide +kernel) rfl dX2_takes_71 ?_
        refine z_aload_n X 0 rfl dX2_takes_74 ?_
        refine z_get (v := .ref (ad 3)) X 2 0 2 hiX2 rfl rfl (by decide) ⟨rfl, rfl, rfl⟩ (by decide +kernel) rfl dX2_takes_75 ?_
        refine z_iload_n X 2 rfl dX2_takes_78 ?_
        refine z_iald (g := v_6.1 2) X 3 0 rfl rfl (by omega) (by omega) ⟨by omega, by omega⟩ dX2_takes_79 ?_
        have b_9 := hB_6 2 rfl x_6
        have b_10 := hP_6 x_6
        refine z_aload_n X 0 rfl dX2_takes_80 ?_
        refine z_get (v := .ref (ad 3)) X 2 0 2 hiX2 rfl rfl (by decide) ⟨rfl, rfl, rfl⟩ (by decide +kernel) rfl dX2_takes_81 ?_
        refine z_iload_n X 1 rfl dX2_takes_84 ?_
        refine z_iald (g := v_6.1 2) X 3 0 rfl rfl (by omega) (by omega) ⟨by omega, by omega⟩ dX2_takes_85 ?_
        have b_11 := hB_6 2 rfl b
        have b_12 := hP_6 b
        refine z_iadd X dX2_takes_86 ?_
        refine z_iconst X dX2_takes_87 ?_
        refine z_idiv X (by omega) ⟨by omega, by omega⟩ (by decide) ⟨by decide, by decide⟩ dX2_takes_88 ?_
        refine z_iast (g := v_6.1 11) X 12 0 (Mw ad cI cZ (gA (gA (gA (gA v_6 8 (v_6.2 5) x_6) 9 (v_6.2 5) b) 10 (v_6.2 5) (m_lesser (v_6.1 14 b) (v_6.1 14 x_6))) 11 (v_6.2 5) (((v_6.1 2 x_6) + (v_6.1 2 b)) / 2))) rfl rfl (by omega) (by omega) ⟨by omega, by omega⟩ rfl dX2_takes_89 ?_
        refine z_aload_n X 0 rfl dX2_takes_90 ?_
        refine z_dup X rfl dX2_takes_91 ?_
        refine z_get (v := .int (iZ (v_6.2 5))) X 2 0 17 hiX2 rfl rfl (by decide) ⟨rfl, rfl, rfl⟩ (by decide +kernel) rfl dX2_takes_92 ?_
        refine z_iconst X dX2_takes_95 ?_
        refine z_iadd X dX2_takes_96 ?_
        refine z_put (v := .int (iZ ((v_6.2 5) + 1))) (ty := .int) X tyX2 2 0 17 (Mw ad cI cZ (gV (gA (gA (gA (gA v_6 8 (v_6.2 5) x_6) 9 (v_6.2 5) b) 10 (v_6.2 5) (m_lesser (v_6.1 14 b) (v_6.1 14 x_6))) 11 (v_6.2 5) (((v_6.1 2 x_6) + (v_6.1 2 b)) / 2)) 5 ((v_6.2 5) + 1))) tyX2_ok nmX2 hiX2 rfl rfl (by decide) ⟨rfl, rfl, rfl, rfl⟩ (by decide +kernel) rfl rfl rfl (Nat.le_of_ble_eq_true rfl) rfl dX2_takes_97 ?_
        refine z_aload_n X 0 rfl dX2_takes_100 ?_
        refine z_get (v := .ref (ad 15)) X 2 0 20 hiX2 rfl rfl (by decide) ⟨rfl, rfl, rfl⟩ (by decide +kernel) rfl dX2_takes_101 ?_
        refine z_iload_n X 1 rfl dX2_takes_104 ?_
        refine z_dup2 X rfl rfl dX2_takes_105 ?_
        refine z_iald (g := v_6.1 14) X 15 0 rfl rfl (by omega) (by omega) ⟨by omega, by omega⟩ dX2_takes_106 ?_
        refine z_iload_n X 3 rfl dX2_takes_107 ?_
        refine z_isub X dX2_takes_108 ?_
        refine z_iast (g := v_6.1 14) X 15 0 (Mw ad cI cZ (gA (gV (gA (gA (gA (gA v_6 8 (v_6.2 5) x_6) 9 (v_6.2 5) b) 10 (v_6.2 5) (m_lesser (v_6.1 14 b) (v_6.1 14 x_6))) 11 (v_6.2 5) (((v_6.1 2 x_6) + (v_6.1 2 b)) / 2)) 5 ((v_6.2 5) + 1)) 14 b ((v_6.1 14 b) - (m_lesser (v_6.1 14 b) (v_6.1 14 x_6))))) rfl rfl (by omega) (by omega) ⟨by omega, by omega⟩ rfl dX2_takes_109 ?_
        refine z_aload_n X 0 rfl dX2_takes_110 ?_
        refine z_get (v := .ref (ad 15)) X 2 0 20 hiX2 rfl rfl (by decide) ⟨rfl, rfl, rfl⟩ (by decide +kernel) rfl dX2_takes_111 ?_
        refine z_iload_n X 2 rfl dX2_takes_114 ?_
        refine z_dup2 X rfl rfl dX2_takes_115 ?_
        refine z_iald (g := updZ (v_6.1 14) (b) ((v_6.1 14 b) - (m_lesser (v_6.1 14 b) (v_6.1 14 x_6)))) X 15 0 rfl rfl (by omega) (by omega) ⟨by omega, by omega⟩ dX2_takes_116 ?_
        refine z_iload_n X 3 rfl dX2_takes_117 ?_
        refine z_isub X dX2_takes_118 ?_
        refine z_iast (g := updZ (v_6.1 14) (b) ((v_6.1 14 b) - (m_lesser (v_6.1 14 b) (v_6.1 14 x_6)))) X 15 0 (Mw ad cI cZ (gA (gA (gV (gA (gA (gA (gA v_6 8 (v_6.2 5) x_6) 9 (v_6.2 5) b) 10 (v_6.2 5) (m_lesser (v_6.1 14 b) (v_6.1 14 x_6))) 11 (v_6.2 5) (((v_6.1 2 x_6) + (v_6.1 2 b)) / 2)) 5 ((v_6.2 5) + 1)) 14 b ((v_6.1 14 b) - (m_lesser (v_6.1 14 b) (v_6.1 14 x_6)))) 14 x_6 (((updZ (v_6.1 14) (b) ((v_6.1 14 b) - (m_lesser (v_6.1 14 b) (v_6.1 14 x_6)))) x_6) - (m_lesser (v_6.1 14 b) (v_6.1 14 x_6))))) rfl rfl (by omega) (by omega) ⟨by omega, by omega⟩ rfl dX2_takes_119 ?_
        refine z_aload_n X 0 rfl dX2_takes_120 ?_
        refine z_iload_n X 1 rfl dX2_takes_121 ?_
        refine z_calli X (c_X2_sellerFor l D ad cI cZ cL (gA (gA (gV (gA (gA (gA (gA v_6 8 (v_6.2 5) x_6) 9 (v_6.2 5) b) 10 (v_6.2 5) (m_lesser (v_6.1 14 b) (v_6.1 14 x_6))) 11 (v_6.2 5) (((v_6.1 2 x_6) + (v_6.1 2 b)) / 2)) 5 ((v_6.2 5) + 1)) 14 b ((v_6.1 14 b) - (m_lesser (v_6.1 14 b) (v_6.1 14 x_6)))) 14 x_6 (((updZ (v_6.1 14) (b) ((v_6.1 14 b) - (m_lesser (v_6.1 14 b) (v_6.1 14 x_6)))) x_6) - (m_lesser (v_6.1 14 b) (v_6.1 14 x_6)))) b (by omega) ht9.1.bd) (cwV 1 X.2.2.2.2.1 gX2_takes_X2_sellerFor rfl rfl rfl (by decide +kernel) ⟨Nat.le_of_ble_eq_true rfl, Nat.le_of_ble_eq_true rfl⟩) rfl [] [] (List.append_nil _).symm 2 0 rfl rfl [] rfl (Nat.le_of_ble_eq_true rfl) dX2_takes_122 ⟨Nat.le_of_ble_eq_true rfl, Nat.le_of_ble_eq_true rfl⟩ (List.append_nil _) ?_
        have r_13 := m_seller_spec (gA (gA (gV (gA (gA (gA (gA v_6 8 (v_6.2 5) x_6) 9 (v_6.2 5) b) 10 (v_6.2 5) (m_lesser (v_6.1 14 b) (v_6.1 14 x_6))) 11 (v_6.2 5) (((v_6.1 2 x_6) + (v_6.1 2 b)) / 2)) 5 ((v_6.2 5) + 1)) 14 b ((v_6.1 14 b) - (m_lesser (v_6.1 14 b) (v_6.1 14 x_6)))) 14 x_6 (((updZ (v_6.1 14) (b) ((v_6.1 14 b) - (m_lesser (v_6.1 14 b) (v_6.1 14 x_6)))) x_6) - (m_lesser (v_6.1 14 b) (v_6.1 14 x_6)))) b
        refine z_istore_n X [1, 2, 0, 3] [(0, .ref (ad 0)), (1, .int (iZ b)), (2, .int (iZ (m_seller (gA (gA (gV (gA (gA (gA (gA v_6 8 (v_6.2 5) x_6) 9 (v_6.2 5) b) 10 (v_6.2 5) (m_lesser (v_6.1 14 b) (v_6.1 14 x_6))) 11 (v_6.2 5) (((v_6.1 2 x_6) + (v_6.1 2 b)) / 2)) 5 ((v_6.2 5) + 1)) 14 b ((v_6.1 14 b) - (m_lesser (v_6.1 14 b) (v_6.1 14 x_6)))) 14 x_6 (((updZ (v_6.1 14) (b) ((v_6.1 14 b) - (m_lesser (v_6.1 14 b) (v_6.1 14 x_6)))) x_6) - (m_lesser (v_6.1 14 b) (v_6.1 14 x_6)))) b))), (3, .int (iZ (m_lesser (v_6.1 14 b) (v_6.1 14 x_6))))] rfl (Nat.le_of_ble_eq_true rfl) dX2_takes_125 ?_
        refine z_goto (tgt := 6) X (by decide) dX2_takes_126 ?_
        refine z_sub (lv' := [(0, .ref (ad 0)), (1, .int (iZ b)), (2, .int (iZ (m_seller (gA (gA (gV (gA (gA (gA (gA v_6 8 (v_6.2 5) x_6) 9 (v_6.2 5) b) 10 (v_6.2 5) (m_lesser (v_6.1 14 b) (v_6.1 14 x_6))) 11 (v_6.2 5) (((v_6.1 2 x_6) + (v_6.1 2 b)) / 2)) 5 ((v_6.2 5) + 1)) 14 b ((v_6.1 14 b) - (m_lesser (v_6.1 14 b) (v_6.1 14 x_6)))) 14 x_6 (((updZ (v_6.1 14) (b) ((v_6.1 14 b) - (m_lesser (v_6.1 14 b) (v_6.1 14 x_6)))) x_6) - (m_lesser (v_6.1 14 b) (v_6.1 14 x_6)))) b)))]) [0, 1, 2] rfl ?_
        exact ih_6 (m_trade v_6 x_6 b) (m_seller (gA (gA (gV (gA (gA (gA (gA v_6 8 (v_6.2 5) x_6) 9 (v_6.2 5) b) 10 (v_6.2 5) (m_lesser (v_6.1 14 b) (v_6.1 14 x_6))) 11 (v_6.2 5) (((v_6.1 2 x_6) + (v_6.1 2 b)) / 2)) 5 ((v_6.2 5) + 1)) 14 b ((v_6.1 14 b) - (m_lesser (v_6.1 14 b) (v_6.1 14 x_6)))) 14 x_6 (((updZ (v_6.1 14) (b) ((v_6.1 14 b) - (m_lesser (v_6.1 14 b) (v_6.1 14 x_6)))) x_6) - (m_lesser (v_6.1 14 b) (v_6.1 14 x_6)))) b) ⟨ht9.1, rfl, by omega, by unfold m_buyer; rw [m_trade_1 _ _ _ 7 (by decide), m_trade_1 _ _ _ 1 (by decide)]; exact hbu_6⟩ (by subst hx_6; rw [← hF_6]; simp only [m_takesL] <;> repeat' (first | with_reducible rfl | omega | split))
end
