section
-- ===== PART A: goes FIRST, ahead of the names: the tables' words, and 'selects' of the private methods out of them =====
/-- a private method of a class that the tables say can be made, by its rows of tables_1 -/
def lw_okq (q : MethodName × Nat) : Prop := (q.1.cls ≠ "java/lang/invoke/MethodHandle" ∧ q.1.cls ≠ "java/lang/invoke/VarHandle") ∧ Cond.instantiable q.1.cls q.2 ∈ tables_1 ∧ Cond.privateMethod q.1 ∈ tables_1 ∧ Cond.instanceMethod q.1 ∈ tables_1
theorem lw_p0 : lw_okq (⟨"DesignTrees", "sortIntoKinds", "()I"⟩, 7) := ⟨⟨by decide +kernel, by decide +kernel⟩, List.mem_of_getElem? (i := 19) (by decide +kernel), List.mem_of_getElem? (i := 125) (by decide +kernel), List.mem_of_getElem? (i := 126) (by decide +kernel)⟩
theorem lw_p1 : lw_okq (⟨"DesignTrees", "firstAlike", "(I)LDesignTrees$Shell;"⟩, 7) := ⟨⟨by decide +kernel, by decide +kernel⟩, List.mem_of_getElem? (i := 19) (by decide +kernel), List.mem_of_getElem? (i := 129) (by decide +kernel), List.mem_of_getElem? (i := 130) (by decide +kernel)⟩
theorem lw_p2 : lw_okq (⟨"DesignTrees", "isSame", "(LDesignTrees$Shell;LDesignTrees$Shell;)Z"⟩, 7) := ⟨⟨by decide +kernel, by decide +kernel⟩, List.mem_of_getElem? (i := 19) (by decide +kernel), List.mem_of_getElem? (i := 133) (by decide +kernel), List.mem_of_getElem? (i := 134) (by decide +kernel)⟩
theorem lw_p3 : lw_okq (⟨"DesignTrees", "isSameInside", "(LDesignTrees$Inside;LDesignTrees$Inside;)Z"⟩, 7) := ⟨⟨by decide +kernel, by decide +kernel⟩, List.mem_of_getElem? (i := 19) (by decide +kernel), List.mem_of_getElem? (i := 144) (by decide +kernel), List.mem_of_getElem? (i := 145) (by decide +kernel)⟩
theorem lw_p4 : lw_okq (⟨"DesignTrees", "requireRoomForModule", "()V"⟩, 7) := ⟨⟨by decide +kernel, by decide +kernel⟩, List.mem_of_getElem? (i := 19) (by decide +kernel), List.mem_of_getElem? (i := 161) (by decide +kernel), List.mem_of_getElem? (i := 162) (by decide +kernel)⟩
theorem lw_p5 : lw_okq (⟨"java/lang/Throwable", "fillInStackTrace", "(I)Ljava/lang/Throwable;"⟩, 6) := ⟨⟨by decide +kernel, by decide +kernel⟩, List.mem_of_getElem? (i := 204) (by decide +kernel), List.mem_of_getElem? (i := 202) (by decide +kernel), List.mem_of_getElem? (i := 203) (by decide +kernel)⟩
theorem lw_p6 : lw_okq (⟨"DesignTrees", "addShell", "(LDesignTrees$Inside;)LDesignTrees$Shell;"⟩, 7) := ⟨⟨by decide +kernel, by decide +kernel⟩, List.mem_of_getElem? (i := 19) (by decide +kernel), List.mem_of_getElem? (i := 262) (by decide +kernel), List.mem_of_getElem? (i := 263) (by decide +kernel)⟩
theorem lw_p7 : lw_okq (⟨"DesignTrees", "shellAt", "(I)LDesignTrees$Shell;"⟩, 7) := ⟨⟨by decide +kernel, by decide +kernel⟩, List.mem_of_getElem? (i := 19) (by decide +kernel), List.mem_of_getElem? (i := 309) (by decide +kernel), List.mem_of_getElem? (i := 310) (by decide +kernel)⟩
theorem lw_p8 : lw_okq (⟨"DesignTrees", "isWithin", "(LDesignTrees$Shell;LDesignTrees$Shell;)Z"⟩, 7) := ⟨⟨by decide +kernel, by decide +kernel⟩, List.mem_of_getElem? (i := 19) (by decide +kernel), List.mem_of_getElem? (i := 357) (by decide +kernel), List.mem_of_getElem? (i := 358) (by decide +kernel)⟩
theorem lw_p9 : lw_okq (⟨"DesignTrees", "orderFrom", "(LDesignTrees$Shell;)V"⟩, 7) := ⟨⟨by decide +kernel, by decide +kernel⟩, List.mem_of_getElem? (i := 19) (by decide +kernel), List.mem_of_getElem? (i := 361) (by decide +kernel), List.mem_of_getElem? (i := 362) (by decide +kernel)⟩
theorem lw_p10 : lw_okq (⟨"DesignTrees", "leavesIn", "(LDesignTrees$Shell;)I"⟩, 7) := ⟨⟨by decide +kernel, by decide +kernel⟩, List.mem_of_getElem? (i := 19) (by decide +kernel), List.mem_of_getElem? (i := 510) (by decide +kernel), List.mem_of_getElem? (i := 511) (by decide +kernel)⟩
theorem lw_p11 : lw_okq (⟨"DesignTrees", "netsOfOccurrences", "(LDesignTrees$Shell;)I"⟩, 7) := ⟨⟨by decide +kernel, by decide +kernel⟩, List.mem_of_getElem? (i := 19) (by decide +kernel), List.mem_of_getElem? (i := 522) (by decide +kernel), List.mem_of_getElem? (i := 523) (by decide +kernel)⟩
theorem lw_p12 : lw_okq (⟨"DesignTrees$Layout", "unite", "(II)V"⟩, 7) := ⟨⟨by decide +kernel, by decide +kernel⟩, List.mem_of_getElem? (i := 50) (by decide +kernel), List.mem_of_getElem? (i := 567) (by decide +kernel), List.mem_of_getElem? (i := 568) (by decide +kernel)⟩
theorem lw_p13 : lw_okq (⟨"DesignTrees$Layout", "firstOf", "(I)I"⟩, 7) := ⟨⟨by decide +kernel, by decide +kernel⟩, List.mem_of_getElem? (i := 50) (by decide +kernel), List.mem_of_getElem? (i := 571) (by decide +kernel), List.mem_of_getElem? (i := 572) (by decide +kernel)⟩
theorem lw_p14 : lw_okq (⟨"DesignTrees$Layout", "renumber", "([II[I)V"⟩, 7) := ⟨⟨by decide +kernel, by decide +kernel⟩, List.mem_of_getElem? (i := 50) (by decide +kernel), List.mem_of_getElem? (i := 589) (by decide +kernel), List.mem_of_getElem? (i := 590) (by decide +kernel)⟩
theorem lw_p15 : lw_okq (⟨"DesignTrees", "tallied", "(LDesignTrees$Shell;IZ)I"⟩, 7) := ⟨⟨by decide +kernel, by decide +kernel⟩, List.mem_of_getElem? (i := 19) (by decide +kernel), List.mem_of_getElem? (i := 609) (by decide +kernel), List.mem_of_getElem? (i := 610) (by decide +kernel)⟩
def lw_privs_1 : List (MethodName × Nat) := [(⟨"DesignTrees", "sortIntoKinds", "()I"⟩, 7), (⟨"DesignTrees", "firstAlike", "(I)LDesignTrees$Shell;"⟩, 7), (⟨"DesignTrees", "isSame", "(LDesignTrees$Shell;LDesignTrees$Shell;)Z"⟩, 7), (⟨"DesignTrees", "isSameInside", "(LDesignTrees$Inside;LDesignTrees$Inside;)Z"⟩, 7), (⟨"DesignTrees", "requireRoomForModule", "()V"⟩, 7), (⟨"java/lang/Throwable", "fillInStackTrace", "(I)Ljava/lang/Throwable;"⟩, 6), (⟨"DesignTrees", "addShell", "(LDesignTrees$Inside;)LDesignTrees$Shell;"⟩, 7), (⟨"DesignTrees", "shellAt", "(I)LDesignTrees$Shell;"⟩, 7), (⟨"DesignTrees", "isWithin", "(LDesignTrees$Shell;LDesignTrees$Shell;)Z"⟩, 7), (⟨"DesignTrees", "orderFrom", "(LDesignTrees$Shell;)V"⟩, 7), (⟨"DesignTrees", "leavesIn", "(LDesignTrees$Shell;)I"⟩, 7), (⟨"DesignTrees", "netsOfOccurrences", "(LDesignTrees$Shell;)I"⟩, 7), (⟨"DesignTrees$Layout", "unite", "(II)V"⟩, 7), (⟨"DesignTrees$Layout", "firstOf", "(I)I"⟩, 7), (⟨"DesignTrees$Layout", "renumber", "([II[I)V"⟩, 7), (⟨"DesignTrees", "tallied", "(LDesignTrees$Shell;IZ)I"⟩, 7)]
theorem lw_r1 : ∀ q ∈ lw_privs_1, lw_okq q := List.forall_mem_cons.mpr ⟨lw_p0, List.forall_mem_cons.mpr ⟨lw_p1, List.forall_mem_cons.mpr ⟨lw_p2, List.forall_mem_cons.mpr ⟨lw_p3, List.forall_mem_cons.mpr ⟨lw_p4, List.forall_mem_cons.mpr ⟨lw_p5, List.forall_mem_cons.mpr ⟨lw_p6, List.forall_mem_cons.mpr ⟨lw_p7, List.forall_mem_cons.mpr ⟨lw_p8, List.forall_mem_cons.mpr ⟨lw_p9, List.forall_mem_cons.mpr ⟨lw_p10, List.forall_mem_cons.mpr ⟨lw_p11, List.forall_mem_cons.mpr ⟨lw_p12, List.forall_mem_cons.mpr ⟨lw_p13, List.forall_mem_cons.mpr ⟨lw_p14, List.forall_mem_cons.mpr ⟨lw_p15, fun _ h => absurd h List.not_mem_nil⟩⟩⟩⟩⟩⟩⟩⟩⟩⟩⟩⟩⟩⟩⟩⟩
theorem lw_p16 : lw_okq (⟨"DesignTrees", "tally", "(LDesignTrees$Shell;)V"⟩, 7) := ⟨⟨by decide +kernel, by decide +kernel⟩, List.mem_of_getElem? (i := 19) (by decide +kernel), List.mem_of_getElem? (i := 613) (by decide +kernel), List.mem_of_getElem? (i := 614) (by decide +kernel)⟩
theorem lw_p17 : lw_okq (⟨"DesignTrees", "layersBelow", "(LDesignTrees$Shell;)I"⟩, 7) := ⟨⟨by decide +kernel, by decide +kernel⟩, List.mem_of_getElem? (i := 19) (by decide +kernel), List.mem_of_getElem? (i := 638) (by decide +kernel), List.mem_of_getElem? (i := 639) (by decide +kernel)⟩
theorem lw_p18 : lw_okq (⟨"DesignTreesModel", "begin", "(I)V"⟩, 28) := ⟨⟨by decide +kernel, by decide +kernel⟩, List.mem_of_getElem? (i := 650) (by decide +kernel), List.mem_of_getElem? (i := 755) (by decide +kernel), List.mem_of_getElem? (i := 756) (by decide +kernel)⟩
theorem lw_p19 : lw_okq (⟨"DesignTreesModel", "isUsed", "(I)Z"⟩, 28) := ⟨⟨by decide +kernel, by decide +kernel⟩, List.mem_of_getElem? (i := 650) (by decide +kernel), List.mem_of_getElem? (i := 766) (by decide +kernel), List.mem_of_getElem? (i := 767) (by decide +kernel)⟩
theorem lw_p20 : lw_okq (⟨"DesignTreesModel", "refused", "(ZZ)Z"⟩, 28) := ⟨⟨by decide +kernel, by decide +kernel⟩, List.mem_of_getElem? (i := 650) (by decide +kernel), List.mem_of_getElem? (i := 774) (by decide +kernel), List.mem_of_getElem? (i := 775) (by decide +kernel)⟩
theorem lw_p21 : lw_okq (⟨"DesignTreesModel", "isWithin", "(II)Z"⟩, 28) := ⟨⟨by decide +kernel, by decide +kernel⟩, List.mem_of_getElem? (i := 650) (by decide +kernel), List.mem_of_getElem? (i := 778) (by decide +kernel), List.mem_of_getElem? (i := 779) (by decide +kernel)⟩
theorem lw_p22 : lw_okq (⟨"DesignTreesModel", "change", "(I)V"⟩, 28) := ⟨⟨by decide +kernel, by decide +kernel⟩, List.mem_of_getElem? (i := 650) (by decide +kernel), List.mem_of_getElem? (i := 782) (by decide +kernel), List.mem_of_getElem? (i := 783) (by decide +kernel)⟩
theorem lw_p23 : lw_okq (⟨"DesignTreesModel", "isPin", "(III)Z"⟩, 28) := ⟨⟨by decide +kernel, by decide +kernel⟩, List.mem_of_getElem? (i := 650) (by decide +kernel), List.mem_of_getElem? (i := 794) (by decide +kernel), List.mem_of_getElem? (i := 795) (by decide +kernel)⟩
theorem lw_p24 : lw_okq (⟨"DesignTreesModel", "ownPins", "(I)I"⟩, 28) := ⟨⟨by decide +kernel, by decide +kernel⟩, List.mem_of_getElem? (i := 650) (by decide +kernel), List.mem_of_getElem? (i := 798) (by decide +kernel), List.mem_of_getElem? (i := 799) (by decide +kernel)⟩
theorem lw_p25 : lw_okq (⟨"DesignTreesModel", "countPins", "(IIZ)I"⟩, 28) := ⟨⟨by decide +kernel, by decide +kernel⟩, List.mem_of_getElem? (i := 650) (by decide +kernel), List.mem_of_getElem? (i := 817) (by decide +kernel), List.mem_of_getElem? (i := 818) (by decide +kernel)⟩
theorem lw_p26 : lw_okq (⟨"DesignTreesModel", "drives", "(III)Z"⟩, 28) := ⟨⟨by decide +kernel, by decide +kernel⟩, List.mem_of_getElem? (i := 650) (by decide +kernel), List.mem_of_getElem? (i := 821) (by decide +kernel), List.mem_of_getElem? (i := 822) (by decide +kernel)⟩
theorem lw_p27 : lw_okq (⟨"DesignTreesModel", "isOut", "(II)Z"⟩, 28) := ⟨⟨by decide +kernel, by decide +kernel⟩, List.mem_of_getElem? (i := 650) (by decide +kernel), List.mem_of_getElem? (i := 825) (by decide +kernel), List.mem_of_getElem? (i := 826) (by decide +kernel)⟩
theorem lw_p28 : lw_okq (⟨"DesignTreesModel", "walk", "(I)Z"⟩, 28) := ⟨⟨by decide +kernel, by decide +kernel⟩, List.mem_of_getElem? (i := 650) (by decide +kernel), List.mem_of_getElem? (i := 845) (by decide +kernel), List.mem_of_getElem? (i := 846) (by decide +kernel)⟩
theorem lw_p29 : lw_okq (⟨"DesignTreesModel", "enter", "(III)V"⟩, 28) := ⟨⟨by decide +kernel, by decide +kernel⟩, List.mem_of_getElem? (i := 650) (by decide +kernel), List.mem_of_getElem? (i := 849) (by decide +kernel), List.mem_of_getElem? (i := 850) (by decide +kernel)⟩
theorem lw_p30 : lw_okq (⟨"DesignTreesModel", "unite", "()Z"⟩, 28) := ⟨⟨by decide +kernel, by decide +kernel⟩, List.mem_of_getElem? (i := 650) (by decide +kernel), List.mem_of_getElem? (i := 853) (by decide +kernel), List.mem_of_getElem? (i := 854) (by decide +kernel)⟩
theorem lw_p31 : lw_okq (⟨"DesignTreesModel", "lower", "(II)Z"⟩, 28) := ⟨⟨by decide +kernel, by decide +kernel⟩, List.mem_of_getElem? (i := 650) (by decide +kernel), List.mem_of_getElem? (i := 857) (by decide +kernel), List.mem_of_getElem? (i := 858) (by decide +kernel)⟩
def lw_privs_2 : List (MethodName × Nat) := [(⟨"DesignTrees", "tally", "(LDesignTrees$Shell;)V"⟩, 7), (⟨"DesignTrees", "layersBelow", "(LDesignTrees$Shell;)I"⟩, 7), (⟨"DesignTreesModel", "begin", "(I)V"⟩, 28), (⟨"DesignTreesModel", "isUsed", "(I)Z"⟩, 28), (⟨"DesignTreesModel", "refused", "(ZZ)Z"⟩, 28), (⟨"DesignTreesModel", "isWithin", "(II)Z"⟩, 28), (⟨"DesignTreesModel", "change", "(I)V"⟩, 28), (⟨"DesignTreesModel", "isPin", "(III)Z"⟩, 28), (⟨"DesignTreesModel", "ownPins", "(I)I"⟩, 28), (⟨"DesignTreesModel", "countPins", "(IIZ)I"⟩, 28), (⟨"DesignTreesModel", "drives", "(III)Z"⟩, 28), (⟨"DesignTreesModel", "isOut", "(II)Z"⟩, 28), (⟨"DesignTreesModel", "walk", "(I)Z"⟩, 28), (⟨"DesignTreesModel", "enter", "(III)V"⟩, 28), (⟨"DesignTreesModel", "unite", "()Z"⟩, 28), (⟨"DesignTreesModel", "lower", "(II)Z"⟩, 28)]
theorem lw_r2 : ∀ q ∈ lw_privs_2, lw_okq q := List.forall_mem_cons.mpr ⟨lw_p16, List.forall_mem_cons.mpr ⟨lw_p17, List.forall_mem_cons.mpr ⟨lw_p18, List.forall_mem_cons.mpr ⟨lw_p19, List.forall_mem_cons.mpr ⟨lw_p20, List.forall_mem_cons.mpr ⟨lw_p21, List.forall_mem_cons.mpr ⟨lw_p22, List.forall_mem_cons.mpr ⟨lw_p23, List.forall_mem_cons.mpr ⟨lw_p24, List.forall_mem_cons.mpr ⟨lw_p25, List.forall_mem_cons.mpr ⟨lw_p26, List.forall_mem_cons.mpr ⟨lw_p27, List.forall_mem_cons.mpr ⟨lw_p28, List.forall_mem_cons.mpr ⟨lw_p29, List.forall_mem_cons.mpr ⟨lw_p30, List.forall_mem_cons.mpr ⟨lw_p31, fun _ h => absurd h List.not_mem_nil⟩⟩⟩⟩⟩⟩⟩⟩⟩⟩⟩⟩⟩⟩⟩⟩
theorem lw_p32 : lw_okq (⟨"DesignTreesModel", "number", "()I"⟩, 28) := ⟨⟨by decide +kernel, by decide +kernel⟩, List.mem_of_getElem? (i := 650) (by decide +kernel), List.mem_of_getElem? (i := 861) (by decide +kernel), List.mem_of_getElem? (i := 862) (by decide +kernel)⟩
theorem lw_p33 : lw_okq (⟨"DesignTreesModel", "setWay", "(II)V"⟩, 28) := ⟨⟨by decide +kernel, by decide +kernel⟩, List.mem_of_getElem? (i := 650) (by decide +kernel), List.mem_of_getElem? (i := 865) (by decide +kernel), List.mem_of_getElem? (i := 866) (by decide +kernel)⟩
theorem lw_p34 : lw_okq (⟨"DesignTreesModel", "findAlike", "()V"⟩, 28) := ⟨⟨by decide +kernel, by decide +kernel⟩, List.mem_of_getElem? (i := 650) (by decide +kernel), List.mem_of_getElem? (i := 885) (by decide +kernel), List.mem_of_getElem? (i := 886) (by decide +kernel)⟩
theorem lw_p35 : lw_okq (⟨"DesignTreesModel", "looksAlike", "(II)Z"⟩, 28) := ⟨⟨by decide +kernel, by decide +kernel⟩, List.mem_of_getElem? (i := 650) (by decide +kernel), List.mem_of_getElem? (i := 889) (by decide +kernel), List.mem_of_getElem? (i := 890) (by decide +kernel)⟩
theorem lw_p36 : lw_okq (⟨"DesignTreesModel", "measure", "()V"⟩, 28) := ⟨⟨by decide +kernel, by decide +kernel⟩, List.mem_of_getElem? (i := 650) (by decide +kernel), List.mem_of_getElem? (i := 901) (by decide +kernel), List.mem_of_getElem? (i := 902) (by decide +kernel)⟩
def lw_privs_3 : List (MethodName × Nat) := [(⟨"DesignTreesModel", "number", "()I"⟩, 28), (⟨"DesignTreesModel", "setWay", "(II)V"⟩, 28), (⟨"DesignTreesModel", "findAlike", "()V"⟩, 28), (⟨"DesignTreesModel", "looksAlike", "(II)Z"⟩, 28), (⟨"DesignTreesModel", "measure", "()V"⟩, 28)]
theorem lw_r3 : ∀ q ∈ lw_privs_3, lw_okq q := List.forall_mem_cons.mpr ⟨lw_p32, List.forall_mem_cons.mpr ⟨lw_p33, List.forall_mem_cons.mpr ⟨lw_p34, List.forall_mem_cons.mpr ⟨lw_p35, List.forall_mem_cons.mpr ⟨lw_p36, fun _ h => absurd h List.not_mem_nil⟩⟩⟩⟩⟩
def lw_privs : List (MethodName × Nat) := lw_privs_1 ++ (lw_privs_2 ++ (lw_privs_3))
def lw_tbl : List Cond := k2_sels lw_privs ++ tables_1
theorem lw_privs_ok : ∀ q ∈ lw_privs, lw_okq q := by
  show ∀ q ∈ lw_privs_1 ++ (lw_privs_2 ++ (lw_privs_3)), lw_okq q
  exact List.forall_mem_append.mpr ⟨lw_r1, List.forall_mem_append.mpr ⟨lw_r2, lw_r3⟩⟩
end
section
/-! ===== BEGIN words of one list among another's, by their places ===== -/
theorem goodIn_r {big : List Cond} (ws : List Cond) (ps : List Nat) (hp : ws = ps.filterMap (fun i => big[i]?)) (h : ws.all goodWord = true) : GoodIn big ws := by
  intro w hw
  have h1 := List.all_eq_true.mp h w hw
  rw [hp] at hw
  obtain ⟨i, -, hi⟩ := List.mem_filterMap.mp hw
  have hm : w ∈ big := by first | exact List.mem_of_getElem? hi | exact List.getElem?_mem hi
  exact ⟨hm, good_of_word h1⟩
theorem goodIn_app {big a b : List Cond} (ha : GoodIn big a) (hb : GoodIn big b) : GoodIn big (a ++ b) := fun w h => (List.mem_append.mp h).elim (ha w) (hb w)
theorem goodIn_ca {big a b : List Cond} {c : Cond} (ha : GoodIn big (c :: a)) (hb : GoodIn big b) : GoodIn big (c :: (a ++ b)) := fun w h => (List.mem_cons.mp h).elim (fun e => ha w (List.mem_cons.mpr (Or.inl e))) (fun h => (List.mem_append.mp h).elim (fun h => ha w (List.mem_cons.mpr (Or.inr h))) (hb w))
theorem goodIn_sub {big ws : List Cond} (hm : ∀ w ∈ ws, w ∈ big) (h : ws.all goodWord = true) : GoodIn big ws := fun w hw => ⟨hm w hw, good_of_word (List.all_eq_true.mp h w hw)⟩
/-! ===== END ===== -/

/-! ===== BEGIN exceptions that leave a method, and their catching by the caller (launches without stack traces) ===== -/
section VXA
/-! The laws vx_back, vx_callV, vx_callS, vx_callSW, vx_throw0, vx_throwS follow proofs of the library, with one case more: JvmDerived/Free/Laws.lean (Back.of_free), Shelf42/LK1.lean (callV, callS), Shelf/KitTraced.lean (throwNew0V, throwNewS). -/
/-- where a method has thrown q: the class by its name, the cell, what was written, the world -/
def vx_T (XC : String → State → State → Prop) (st : State) (q : Addr) (t : State) (mc ms : Nat) (free : Addr → Prop) : Prop :=
  ∃ (E : String) (ce : Cell) (L : List Loc), XC E st t ∧ t.heap[q]? = some ce ∧ ce.vm = .none ∧ st.vm.findClass E = some ce.cls ∧ st.WarmedH t.vm ∧ st.sameButNew ({ t with vm := st.vm } : State) L mc ms ∧ ∀ z ∈ L, free z.base
def vx_Q (Qc : Array Value → State → Outcome → State → Prop) (XC : String → State → State → Prop) (mc ms : Nat) (free : Addr → Prop) : Array Value → State → Outcome → State → Prop := fun a st o t =>
  (Qc a st o t ∧ ∃ L, FrameEnd st o t L mc ms ∧ ∀ q ∈ L, free q.base) ∨ ∃ q, o = .threw q ∧ vx_T XC st q t mc ms free
/-- a callee that returns or throws -/
def vx_Met (l : Launch) (y : MethodName) (ws : List Cond) (rm : Room) (Pc : Array Value → State → Prop) (Qc : Array Value → State → Outcome → State → Prop) (XC : String → State → State → Prop) (mc ms : Nat) (free : Addr → Prop) : Prop :=
  MetFree l y (headSpec ws rm) Pc (fun _ _ _ _ _ => True) (vx_Q Qc XC mc ms free)
def vx_Post (XC : String → State → State → Prop) (mc ms : Nat) (free : Addr → Prop) : Pt → Array Value → Addr → Pt → Prop := fun A a q B =>
  ∃ (g : JFrame) (mk : MethodId) (t : State) (L : List Loc) (E : String) (ce : Cell), B.U.heap = t.heap ∧ B.U.vm = t.vm ∧ XC E (A.U.calling g mk a) t ∧ t.heap[q]? = some ce ∧ ce.vm = .none ∧ A.U.vm.findClass E = some ce.cls ∧ B.locs = A.locs ++ L ∧ (∀ z ∈ L, free z.base) ∧ B.cells = A.cells + mc ∧ B.slots = A.slots + ms
def vx_Back (l : Launch) (R : Room) (p : Program) (e : Env) (below : List Frame) (s : State) (sargs : Array Value) (y : MethodName) (len W9 : Nat)
    (Pre : Pt → Array Value → Prop) (Post : Pt → Array Value → Option Value → Pt → Prop) (PostX : Pt → Array Value → Addr → Pt → Prop) : Prop :=
  ∀ (m : MethodId) (meth : Method) (c : Code) (A : Pt) (g : JFrame) (ig : Instr) (mk : MethodId) (a : Array Value),
    Stand p l e R s m sargs below meth c A.U A.locs A.cells A.slots → g.method = m → g.locals.size = c.maxLocals → decode c.code g.pc = .ok (ig, len) →
    2 * g.monitorRoom + (g.stack.map fun v => v.category).sum ≤ W9 → A.U.methodNamed? y = some mk → Pre A a →
    (∃ (v : Option Value) (B : Pt), Stand p l e R s m sargs below meth c B.U B.locs B.cells B.slots ∧ Post A a v B ∧
      Steps p.tables e below (doInvoke e (A.U.setTop g) [] mk a).1 (B.U.setTop { g with pc := g.pc + len, stack := v.toList ++ g.stack })) ∨
    (∃ (q : Addr) (B : Pt), Stand p l e R s m sargs below meth c B.U B.locs B.cells B.slots ∧ PostX A a q B ∧
      Steps p.tables e below (doInvoke e (A.U.setTop g) [] mk a).1 ((B.U.setTop g).pushFrame (.throwing q)))
section Payer
variable {l : Launch} {R : Room} {p : Program} {e : Env} {below : List Frame} {s : State} {sargs : Array Value} {y : MethodName} {len W9 : Nat}
theorem vx_back {ws : List Cond} {rm : Room} {Pc : Array Value → State → Prop} {Qc : Array Value → State → Outcome → State → Prop} {XC : String → State → State → Prop} {mc ms : Nat} {free : Addr → Prop} {bytes : ByteArray} {maxL : Nat} {ret : Option FieldType}
    (hM : vx_Met l y ws rm Pc Qc XC mc ms free) (hblind : FrameBlind Pc) (hrc : rm.cells = mc) (hrs : rm.slots = ms)
    (hframes : rm.frames + 1 ≤ R.frames) (hlocals : W9 + (maxL + 11) + rm.locals ≤ R.locals)
    (hws : ∀ w ∈ ws, ∀ a' U, s.WarmedH U.vm → w.before a' U = true) (hcode : Cond.code y bytes maxL ret ∈ ws) (hinit : ∀ a' U, s.WarmedH U.vm → (Cond.initialized y.cls).before a' U = true) :
    vx_Back l R p e below s sargs y len W9 (PreOf R mc ms Pc) (PostOf Qc mc ms free) (vx_Post XC mc ms free) := by
  intro m meth c A g ig mk a X hg hsize hdg hW hn hp
  have h1 : (headSpec ws rm).pre.before a A.U = true := atoms_intro fun w hw => hws w hw _ _ X.warmed
  have h2 : (Cond.code y bytes maxL ret).before a A.U = true := hws _ hcode _ _ X.warmed
  have h3 : (Cond.initialized y.cls).before a A.U = true := hinit _ _ X.warmed
  have h4 : A.cells + (headSpec ws rm).room.cells ≤ R.cells := by rw [show (headSpec ws rm).room.cells = mc from hrc]; exact hp.1
  have h5 : A.slots + (headSpec ws rm).room.slots ≤ R.slots := by rw [show (headSpec ws rm).room.slots = ms from hrs]; exact hp.2.1
  have hPc : Pc a (A.U.calling g mk a) := hblind _ _ _ _ hp.2.2
  obtain ⟨U, Ls, c0, s0⟩ := A
  dsimp only [Pt.U, Pt.locs, Pt.cells, Pt.slots] at h1 h2 h3 h4 h5 X hn hPc ⊢
  obtain ⟨methY, cY, hmY, hcY, -, hlY, -, -, -, -⟩ := Cond.code_spec hn h2
  obtain ⟨kY, hkY, -⟩ := className_of_methodNamed hn
  have hinitY : kY.init = .initialized := Cond.initialized_spec (findClass_of_methodNamed hn) hkY h3
  have h : At U g.method c below := by rw [hg]; exact X.here
  have hlocals9 : W9 + (maxL + 11) + (headSpec ws rm).room.locals ≤ R.locals := hlocals
  have happ : (headSpec ws rm).appliesLoose y e.platform (U.calling g mk a) = true :=
    Spec.appliesLoose_calling (g := g) h hdg hn hkY hinitY
      (X.room_calling (g := g) (R' := (headSpec ws rm).room) hsize hmY hcY hframes (by rw [hlY]; omega) h4 h5) h1
  obtain ⟨mid, hmid⟩ := h.above
  have hfr : (U.setTop g).frames = (.java g :: mid) ++ below := by rw [State.frames_setTop' g h.top, hmid]; rfl
  obtain ⟨o, s₂, hsteps, -, hend, hq⟩ := Steps.callFree hM p X.admits X.cas X.clock (acts := []) hfr happ hPc trivial
  have hq' : vx_Q Qc XC mc ms free a (U.calling g mk a) o s₂ := hq
  rw [State.frames_setTop' g h.top] at hend
  obtain ⟨g₀, hg0⟩ := Option.isSome_iff_exists.mp h.top
  obtain ⟨r, hr⟩ := State.topJava?_eq_some.mp hg0
  have hr' : (({ U with heap := s₂.heap, slotsUsed := s₂.slotsUsed } : State).setVm s₂.vm).frames = .java g₀ :: r := hr
  rcases hq' with ⟨hqc, L, hfe, hL⟩ | ⟨q, rfl, E, ce, L, hx, hce, hcv, hcl, hW₂, hsm, hL⟩
  · obtain ⟨⟨v, rfl⟩, hW₂, e2, q2, q3, q4, q5, q6⟩ := id hfe
    have e3 : s₂ = ({ (U.calling g mk a).setFrames s₂.frames with heap := s₂.heap, slotsUsed := s₂.slotsUsed } : State).setVm s₂.vm := by
      have : s₂ = ({ s₂ with vm := (U.calling g mk a).vm } : State).setVm s₂.vm := rfl
      rw [e2] at this
      exact this
    obtain ⟨c₂, i₂, len₂, hc₂, hd₂, hf₂⟩ := hend
    have hW' : U.WarmedH s₂.vm := hW₂
    have hcc : c₂ = c := by
      have h1 : s₂.code? g.method = U.code? g.method := by
        rw [State.code?_eq, State.code?_eq, hW'.alike.method?]
      exact Option.some.inj (hc₂.symm.trans (h1.trans h.code))
    subst hcc
    have hlen : len₂ = len := by rw [hdg] at hd₂; cases hd₂; rfl
    subst hlen
    have hs₂ : s₂ = (({ U with heap := s₂.heap, slotsUsed := s₂.slotsUsed } : State).setVm s₂.vm).setTop { g with pc := g.pc + len₂, stack := v.toList ++ g.stack } := by
      refine e3.trans ?_
      rw [hf₂, State.calling_eq h.top, State.setFrames_setFrames, State.setTop_of_frames _ hr', hr]
      rfl
    have hsame : U.sameButNew ({ U with heap := s₂.heap, slotsUsed := s₂.slotsUsed } : State) L mc ms := by
      refine ⟨?_, q2, q3, q4, q5, q6⟩
      obtain ⟨t, ht, -⟩ := State.frames_cons hr
      show ({ U with heap := s₂.heap, slotsUsed := s₂.slotsUsed } : State) = { U.setFrames U.frames with heap := s₂.heap, slotsUsed := s₂.slotsUsed }
      rw [State.setFrames_self ht]
    subst hg
    refine Or.inl ⟨v, ⟨(({ U with heap := s₂.heap, slotsUsed := s₂.slotsUsed } : State).setVm s₂.vm), Ls ++ L, c0 + mc, s0 + ms⟩,
      ⟨X.admits, X.cas, X.clock, X.frames, X.room, X.hears, X.method, X.code, (X.here.setHeapUsed s₂.heap s₂.slotsUsed).setVm hW'.alike, X.tail, State.WarmedH.trans X.warmed hW', X.limits, X.bytes, X.same.trans (hsame.setVm s.vm)⟩,
      ⟨g, mk, s₂, L, rfl, rfl, hqc, rfl, hL, rfl, rfl⟩, ?_⟩
    show Steps p.tables e below _ ((({ U with heap := s₂.heap, slotsUsed := s₂.slotsUsed } : State).setVm s₂.vm).setTop { g with pc := g.pc + len₂, stack := v.toList ++ g.stack })
    rw [← hs₂]
    exact hsteps
  · obtain ⟨e2, q2, q3, q4, q5, q6⟩ := id hsm
    have e3 : s₂ = ({ (U.calling g mk a).setFrames s₂.frames with heap := s₂.heap, slotsUsed := s₂.slotsUsed } : State).setVm s₂.vm := by
      have : s₂ = ({ s₂ with vm := (U.calling g mk a).vm } : State).setVm s₂.vm := rfl
      rw [e2] at this
      exact this
    have hf₂ : s₂.frames = .throwing q :: .java g :: U.frames.tail := hend
    have hW' : U.WarmedH s₂.vm := hW₂
    have hs₂ : s₂ = ((({ U with heap := s₂.heap, slotsUsed := s₂.slotsUsed } : State).setVm s₂.vm).setTop g).pushFrame (.throwing q) := by
      refine e3.trans ?_
      rw [hf₂, State.calling_eq h.top, State.setFrames_setFrames, State.pushFrame, State.frames_setTop _ hr', State.setTop_of_frames _ hr', State.setFrames_setFrames, hr]
      rfl
    have hsame : U.sameButNew ({ U with heap := s₂.heap, slotsUsed := s₂.slotsUsed } : State) L mc ms := by
      refine ⟨?_, q2, q3, q4, q5, q6⟩
      obtain ⟨t, ht, -⟩ := State.frames_cons hr
      show ({ U with heap := s₂.heap, slotsUsed := s₂.slotsUsed } : State) = { U.setFrames U.frames with heap := s₂.heap, slotsUsed := s₂.slotsUsed }
      rw [State.setFrames_self ht]
    subst hg
    refine Or.inr ⟨q, ⟨(({ U with heap := s₂.heap, slotsUsed := s₂.slotsUsed } : State).setVm s₂.vm), Ls ++ L, c0 + mc, s0 + ms⟩,
      ⟨X.admits, X.cas, X.clock, X.frames, X.room, X.hears, X.method, X.code, (X.here.setHeapUsed s₂.heap s₂.slotsUsed).setVm hW'.alike, X.tail, State.WarmedH.trans X.warmed hW', X.limits, X.bytes, X.same.trans (hsame.setVm s.vm)⟩,
      ⟨g, mk, s₂, L, E, ce, rfl, rfl, hx, hce, hcv, hcl, rfl, hL, rfl, rfl⟩, ?_⟩
    show Steps p.tables e below _ (((({ U with heap := s₂.heap, slotsUsed := s₂.slotsUsed } : State).setVm s₂.vm).setTop g).pushFrame (.throwing q))
    rw [← hs₂]
    exact hsteps
end Payer
section Calls
variable {p : Program} {l : Launch} {e : Env} {R : Room} {s : State} {m : MethodId} {args : Array Value} {below : List Frame} {meth : Method} {c : Code} {T : State} {locs : List Loc} {cells slots : Nat}
theorem vx_callV (X : Stand p l e R s m args below meth c T locs cells slots) (hexec : p.tables.exec = Jvm.exec) {own C : String} {index : Nat} {y : MethodName} {bytes : ByteArray} {maxL : Nat} {ret : Option FieldType}
    (hown : s.vm.findClass own = some m.cls) (hlink : (Cond.methodLink own index y).before args s = true) (hinst : (Cond.instanceMethod y).before args s = true) (hsel : (Cond.selects C y y).before args s = true)
    (hcode : (Cond.code y bytes maxL ret).before args s = true) (hy : y.cls ≠ "java/lang/invoke/MethodHandle" ∧ y.cls ≠ "java/lang/invoke/VarHandle")
    {W9 : Nat} {Pre : Pt → Array Value → Prop} {Post : Pt → Array Value → Option Value → Pt → Prop} {PostX : Pt → Array Value → Addr → Pt → Prop} (hK : vx_Back l R p e below s args y 3 W9 Pre Post PostX)
    {b : Addr} {cellB : Cell} (hcell : T.heap[b]? = some cellB) (hobj : cellB.vm.isStatics = false) (hcls : s.vm.findClass C = some cellB.cls)
    {g : JFrame} (hg : g.method = m) (hsize : g.locals.size = c.maxLocals) {argsL rest : List Value} (hlen : ∀ sig, parseMethodDescriptor y.desc = some sig → argsL.length = sig.parameters.length)
    (hstack : g.stack = argsL.reverse ++ .ref b :: rest) (hW : 2 * g.monitorRoom + (rest.map fun v => v.category).sum ≤ W9) (hdg : decode c.code g.pc = .ok (.invokevirtual index, 3))
    (hpre : ∀ vm₁, s.WarmedH vm₁ → Pre ⟨T.setVm vm₁, locs, cells, slots⟩ (Value.ref b :: argsL).toArray) :
    (∃ (v : Option Value) (vm₁ : Vm) (B : Pt), s.WarmedH vm₁ ∧ Stand p l e R s m args below meth c B.U B.locs B.cells B.slots ∧ Post ⟨T.setVm vm₁, locs, cells, slots⟩ (Value.ref b :: argsL).toArray v B ∧
      ∀ target, Steps p.tables e below (B.U.setTop { g with pc := g.pc + 3, stack := v.toList ++ rest }) target → Steps p.tables e below (T.setTop g) target) ∨
    (∃ (q : Addr) (vm₁ : Vm) (B : Pt), s.WarmedH vm₁ ∧ Stand p l e R s m args below meth c B.U B.locs B.cells B.slots ∧ PostX ⟨T.setVm vm₁, locs, cells, slots⟩ (Value.ref b :: argsL).toArray q B ∧
      Steps p.tables e below (T.setTop g) ((B.U.setTop { g with stack := rest }).pushFrame (.throwing q))) := by
  obtain ⟨mk, methM, hnamed, hmethM, hstM, habM⟩ := Cond.instanceMethod_spec hinst
  obtain ⟨methM', cM, hmethM', -, -, -, -, -, -, hsigM⟩ := Cond.code_spec hnamed hcode
  cases hmethM.symm.trans hmethM'
  obtain ⟨c2, r2, m2, q1, q2, q3, q4, kP, hkP, hkPi⟩ := Cond.selects_spec hsel
  cases hcls.symm.trans q1
  cases (State.methodFound?_of_named hnamed hy).symm.trans q2
  cases hnamed.symm.trans q3
  have hselP : selectMethod e.platform s.vm cellB.cls mk = .method mk := by rw [Launch.admits_selectMethod X.admits]; exact q4
  obtain ⟨vm₁, X₁, hstep₁⟩ := X.invokevirtual hexec hown hlink hnamed hmethM hstM hkP hkPi hy (a := b) (cell := cellB) hcell
    (fun z h => by rw [h] at hobj; cases hobj) hselP hmethM habM hkP hkPi (g := g) hg (argsL := argsL) (rest := rest) (hlen _ hsigM) hstack hdg
  rcases hK m meth c ⟨T.setVm vm₁, locs, cells, slots⟩ { g with stack := rest } (.invokevirtual index) mk (Value.ref b :: argsL).toArray X₁ hg hsize hdg hW (X₁.named hnamed) (hpre vm₁ X₁.warmed) with ⟨v, B, X', hpost, hsteps⟩ | ⟨q, B, X', hpost, hsteps⟩
  · exact Or.inl ⟨v, vm₁, B, X₁.warmed, X', hpost, fun target h => hstep₁ _ fun acts => by rw [doInvoke_state]; exact hsteps.trans h⟩
  · exact Or.inr ⟨q, vm₁, B, X₁.warmed, X', hpost, hstep₁ _ fun acts => by rw [doInvoke_state]; exact hsteps⟩
theorem vx_callS (X : Stand p l e R s m args below meth c T locs cells slots) (hexec : p.tables.exec = Jvm.exec) {own : String} {index : Nat} {y : MethodName} {bytes : ByteArray} {maxL : Nat} {ret : Option FieldType}
    (hown : s.vm.findClass own = some m.cls) (hlink : (Cond.methodLink own index y).before args s = true) (hstat : (Cond.static y).before args s = true) (hinit : (Cond.initialized y.cls).before args s = true)
    (hcode : (Cond.code y bytes maxL ret).before args s = true) (hy : y.cls ≠ "java/lang/invoke/MethodHandle" ∧ y.cls ≠ "java/lang/invoke/VarHandle")
    {W9 : Nat} {Pre : Pt → Array Value → Prop} {Post : Pt → Array Value → Option Value → Pt → Prop} {PostX : Pt → Array Value → Addr → Pt → Prop} (hK : vx_Back l R p e below s args y 3 W9 Pre Post PostX)
    {g : JFrame} (hg : g.method = m) (hsize : g.locals.size = c.maxLocals) {argsL rest : List Value} (hlen : ∀ sig, parseMethodDescriptor y.desc = some sig → argsL.length = sig.parameters.length)
    (hstack : g.stack = argsL.reverse ++ rest) (hW : 2 * g.monitorRoom + (rest.map fun v => v.category).sum ≤ W9) (hdg : decode c.code g.pc = .ok (.invokestatic index, 3))
    (hpre : ∀ vm₁, s.WarmedH vm₁ → Pre ⟨T.setVm vm₁, locs, cells, slots⟩ argsL.toArray) :
    (∃ (v : Option Value) (vm₁ : Vm) (B : Pt), s.WarmedH vm₁ ∧ Stand p l e R s m args below meth c B.U B.locs B.cells B.slots ∧ Post ⟨T.setVm vm₁, locs, cells, slots⟩ argsL.toArray v B ∧
      ∀ target, Steps p.tables e below (B.U.setTop { g with pc := g.pc + 3, stack := v.toList ++ rest }) target → Steps p.tables e below (T.setTop g) target) ∨
    (∃ (q : Addr) (vm₁ : Vm) (B : Pt), s.WarmedH vm₁ ∧ Stand p l e R s m args below meth c B.U B.locs B.cells B.slots ∧ PostX ⟨T.setVm vm₁, locs, cells, slots⟩ argsL.toArray q B ∧
      Steps p.tables e below (T.setTop g) ((B.U.setTop { g with stack := rest }).pushFrame (.throwing q))) := by
  obtain ⟨mk, hnamed⟩ := Cond.code_named hcode
  obtain ⟨methM, cM, hmethM, -, -, -, -, -, -, hsigM⟩ := Cond.code_spec hnamed hcode
  have hstatic : methM.isStatic = true := Cond.static_spec hnamed hmethM hstat
  obtain ⟨kP, hkP, -⟩ := className_of_methodNamed hnamed
  have hinitP : kP.init = .initialized := Cond.initialized_spec (findClass_of_methodNamed hnamed) hkP hinit
  obtain ⟨vm₁, X₁, hstep₁⟩ := X.invokestatic hexec hown hlink hnamed hmethM hstatic hkP hinitP hy (g := g) hg (argsL := argsL) (rest := rest) (hlen _ hsigM) hstack hdg
  rcases hK m meth c ⟨T.setVm vm₁, locs, cells, slots⟩ { g with stack := rest } (.invokestatic index) mk argsL.toArray X₁ hg hsize hdg hW (X₁.named hnamed) (hpre vm₁ X₁.warmed) with ⟨v, B, X', hpost, hsteps⟩ | ⟨q, B, X', hpost, hsteps⟩
  · exact Or.inl ⟨v, vm₁, B, X₁.warmed, X', hpost, fun target h => hstep₁ _ fun acts => by rw [doInvoke_state]; exact hsteps.trans h⟩
  · exact Or.inr ⟨q, vm₁, B, X₁.warmed, X', hpost, hstep₁ _ fun acts => by rw [doInvoke_state]; exact hsteps⟩
end Calls
theorem vx_cls {s : State} {T : State} {vm₁ : Vm} {E : String} {k : ClassId} (hW : s.WarmedH vm₁) (h : (T.setVm vm₁).vm.findClass E = some k) : s.vm.findClass E = some k := by
  have h1 : vm₁.findClass E = some k := h
  rw [hW.alike.findClass] at h1
  exact h1
/-- the method's frame g, with q thrown over it -/
def vx_W (p : Program) (l : Launch) (e : Env) (R : Room) (s : State) (m : MethodId) (args : Array Value) (below : List Frame) (meth : Method) (c : Code) (H : Heap) (locs : List Loc) (cells slots : Nat) (Q : State → Prop) (g : JFrame) (q : Addr) : Prop :=
  ∀ T : State, T.heap = H → Stand p l e R s m args below meth c T locs cells slots → ∃ t, Steps p.tables e below ((T.setTop g).pushFrame (.throwing q)) t ∧ Q t
def vx_Run (p : Program) (l : Launch) (e : Env) (R : Room) (s : State) (m : MethodId) (args : Array Value) (below : List Frame) (meth : Method) (c : Code) (H : Heap) (locs : List Loc) (cells slots mc ms : Nat) (g : JFrame) (rest : List Value) (Qa : State → Outcome → State → Prop) (XC : String → State → State → Prop) (free : Addr → Prop) : Prop :=
  ∀ T : State, T.heap = H → Stand p l e R s m args below meth c T locs cells slots →
    (∃ (v : Option Value) (st₀ t T' : State) (L : List Loc), st₀.heap = H ∧ Stand p l e R s m args below meth c T' (locs ++ L) (cells + mc) (slots + ms) ∧ (∀ q ∈ L, free q.base) ∧ T'.heap = t.heap ∧ T'.vm = t.vm ∧ Qa st₀ (.returned v) t ∧
      Goes p e below T g T' { g with pc := g.pc + 3, stack := v.toList ++ rest }) ∨
    (∃ (q : Addr) (st₀ t T' : State) (L : List Loc) (E : String) (ce : Cell), st₀.heap = H ∧ Stand p l e R s m args below meth c T' (locs ++ L) (cells + mc) (slots + ms) ∧ (∀ z ∈ L, free z.base) ∧ T'.heap = t.heap ∧ T'.vm = t.vm ∧ XC E st₀ t ∧ t.heap[q]? = some ce ∧ ce.vm = .none ∧ s.vm.findClass E = some ce.cls ∧
      Steps p.tables e below (T.setTop g) ((T'.setTop { g with stack := rest }).pushFrame (.throwing q)))
def vx_X {S : Type} (px : S → Prop) (B : String → S → State → Prop) (A : Nat → Prop) : String → State → State → Prop := fun E st t => ∃ u : S, px u ∧ B E u t ∧ va_F A st t
section Runs
variable {p : Program} {l : Launch} {e : Env} {R : Room} {s : State} {m : MethodId} {args : Array Value} {below : List Frame} {meth : Method} {c : Code} {H : Heap} {locs : List Loc} {cells slots : Nat}
variable {y : MethodName} {bytes cc : ByteArray} {maxL nL mc ms n index : Nat} {ret : Option FieldType} {ws : List Cond} {rm : Room} {Pc : Array Value → State → Prop} {Qc : Array Value → State → Outcome → State → Prop} {XC : String → State → State → Prop} {free : Addr → Prop} {Ts : List Cond} {own C : String} {b : Addr} {As rest : List Value} {g : JFrame}
theorem vx_callBack (cb : CallB R s args own index y bytes maxL ret ws rm mc ms n) (hM : vx_Met l y ws rm Pc Qc XC mc ms free) (hbl : FrameBlind Pc) : vx_Back l R p e below s args y 3 8 (PreOf R mc ms Pc) (PostOf Qc mc ms free) (vx_Post XC mc ms free) := by
  obtain ⟨hrc, hrs, hfr, hlo, hws, hcw, -, hini, -⟩ := cb
  exact vx_back (bytes := bytes) (maxL := maxL) (ret := ret) hM hbl hrc hrs hfr hlo hws hcw (fun a' U hW => word_at hW (Or.inl (by first | rfl | simp [Cond.onTables, Cond.keeps, Cond.steady])) hini)
theorem vx_runV (S : CallFix p m c cc nL s args Ts own) (hM : vx_Met l y ws rm Pc Qc XC mc ms free) (cw : CallW R s args own C index y bytes maxL ret ws rm mc ms n) (hp : PreV s H C b Pc As)
    (hg : g.method = m) (hn : As.length = n) (hsize : g.locals.size = nL) (hstack : g.stack = As.reverse ++ .ref b :: rest) (hW : 2 * g.monitorRoom + (rest.map fun v => v.category).sum ≤ 8) (hdg : decode cc g.pc = .ok (.invokevirtual index, 3)) (hf : cells + mc ≤ R.cells ∧ slots + ms ≤ R.slots) :
    vx_Run p l e R s m args below meth c H locs cells slots mc ms g rest (Qc (Value.ref b :: As).toArray) XC free := by
  have hK : vx_Back l R p e below s args y 3 8 (PreOf R mc ms Pc) (PostOf Qc mc ms free) (vx_Post XC mc ms free) := vx_callBack cw.1 hM hp.1
  obtain ⟨⟨-, -, -, -, -, -, hcode, -, hy, hlen, hl⟩, hin, hse⟩ := cw
  obtain ⟨hx, hb, hml, ho, -⟩ := S
  obtain ⟨-, ⟨cellB, hcB, hoB, hclB⟩, hPc⟩ := hp
  intro T hT X
  rcases vx_callV X hx (C := C) (bytes := bytes) (maxL := maxL) (ret := ret) ho hl hin hse hcode hy hK (by rw [hT]; exact hcB) hoB hclB hg (hsize.trans hml.symm) (argsL := As) (rest := rest) (fun sig h => hn.trans (hlen sig h)) hstack hW (by rw [hb]; exact hdg)
    (fun vm₁ hW₁ => ⟨hf.1, hf.2, hPc (T.setVm vm₁) hT hW₁⟩) with ⟨v, vm₁, ⟨U', l2, c2, s2⟩, hW₁, X', ⟨g', mk, t, L, e1, e2, hq, h1, hL, h2, h3⟩, st⟩ | ⟨q, vm₁, ⟨U', l2, c2, s2⟩, hW₁, X', ⟨g', mk, t, L, E, ce, e1, e2, hq, hce, hcv, hcl, h1, hL, h2, h3⟩, st⟩
  · dsimp only [Pt.U, Pt.locs, Pt.cells, Pt.slots] at X' e1 e2 h1 h2 h3 st
    subst h1; subst h2; subst h3
    exact Or.inl ⟨v, (T.setVm vm₁).calling g' mk (Value.ref b :: As).toArray, t, U', L, hT, X', hL, e1, e2, hq, st⟩
  · dsimp only [Pt.U, Pt.locs, Pt.cells, Pt.slots] at X' e1 e2 h1 h2 h3 st hcl
    subst h1; subst h2; subst h3
    exact Or.inr ⟨q, (T.setVm vm₁).calling g' mk (Value.ref b :: As).toArray, t, U', L, E, ce, hT, X', hL, e1, e2, hq, hce, hcv, vx_cls hW₁ hcl, st⟩
theorem vx_runS (S : CallFix p m c cc nL s args Ts own) (hM : vx_Met l y ws rm Pc Qc XC mc ms free) (cw : CallB R s args own index y bytes maxL ret ws rm mc ms n ∧ (Cond.static y).before args s = true) (hp : PreS s H Pc As)
    (hg : g.method = m) (hn : As.length = n) (hsize : g.locals.size = nL) (hstack : g.stack = As.reverse ++ rest) (hW : 2 * g.monitorRoom + (rest.map fun v => v.category).sum ≤ 8) (hdg : decode cc g.pc = .ok (.invokestatic index, 3)) (hf : cells + mc ≤ R.cells ∧ slots + ms ≤ R.slots) :
    vx_Run p l e R s m args below meth c H locs cells slots mc ms g rest (Qc As.toArray) XC free := by
  have hK : vx_Back l R p e below s args y 3 8 (PreOf R mc ms Pc) (PostOf Qc mc ms free) (vx_Post XC mc ms free) := vx_callBack cw.1 hM hp.1
  obtain ⟨⟨-, -, -, -, -, -, hcode, hini, hy, hlen, hl⟩, hstt⟩ := cw
  obtain ⟨hx, hb, hml, ho, -⟩ := S
  intro T hT X
  rcases vx_callS X hx (bytes := bytes) (maxL := maxL) (ret := ret) ho hl hstt hini hcode hy hK hg (hsize.trans hml.symm) (argsL := As) (rest := rest) (fun sig h => hn.trans (hlen sig h)) hstack hW (by rw [hb]; exact hdg)
    (fun vm₁ hW₁ => ⟨hf.1, hf.2, hp.2 (T.setVm vm₁) hT hW₁⟩) with ⟨v, vm₁, ⟨U', l2, c2, s2⟩, hW₁, X', ⟨g', mk, t, L, e1, e2, hq, h1, hL, h2, h3⟩, st⟩ | ⟨q, vm₁, ⟨U', l2, c2, s2⟩, hW₁, X', ⟨g', mk, t, L, E, ce, e1, e2, hq, hce, hcv, hcl, h1, hL, h2, h3⟩, st⟩
  · dsimp only [Pt.U, Pt.locs, Pt.cells, Pt.slots] at X' e1 e2 h1 h2 h3 st
    subst h1; subst h2; subst h3
    exact Or.inl ⟨v, (T.setVm vm₁).calling g' mk As.toArray, t, U', L, hT, X', hL, e1, e2, hq, st⟩
  · dsimp only [Pt.U, Pt.locs, Pt.cells, Pt.slots] at X' e1 e2 h1 h2 h3 st hcl
    subst h1; subst h2; subst h3
    exact Or.inr ⟨q, (T.setVm vm₁).calling g' mk As.toArray, t, U', L, E, ce, hT, X', hL, e1, e2, hq, hce, hcv, vx_cls hW₁ hcl, st⟩
end Runs
section Rows
variable {p : Program} {l : Launch} {e : Env} {R : Room} {s : State} {m : MethodId} {args : Array Value} {below : List Frame} {meth : Method} {c : Code} {H : Heap} {locs : List Loc} {cells slots : Nat} {Q : State → Prop}
variable {mc ms : Nat} {free : Addr → Prop} {A0 A1 : Nat → Prop} {H0 : Heap} {a : Array Value} {pc : Nat} {ls : Array Slot} {st0 rest : List Value}
theorem vx_keep {st₀ t T' : State} {L : List Loc} (h0 : st₀.heap = H) (e1 : T'.heap = t.heap) (hS : va_S A0 H0 H locs) (hA : ∀ q, q < H.size → A1 q → A0 q) (hf : ∀ q, free q → A0 q) (hL : ∀ q ∈ L, free q.base) (hF : va_F A1 st₀ t) :
    H.size ≤ T'.heap.size ∧ (∀ q : Nat, q < H.size → ¬ A1 q → T'.heap[q]? = H[q]?) ∧ va_S A0 H0 T'.heap (locs ++ L) := by
  obtain ⟨hz, hk⟩ := hF
  rw [h0] at hz hk
  exact ⟨by rw [e1]; exact hz, fun q h1 h2 => by rw [e1]; exact hk q h1 h2,
    ⟨Nat.le_trans hS.1 (by rw [e1]; exact hz), fun q h1 h2 => by rw [e1, hk q (Nat.lt_of_lt_of_le h1 hS.1) (fun z => h2 (hA q (Nat.lt_of_lt_of_le h1 hS.1) z))]; exact hS.2.1 q h1 h2, fun q hq => by
      rcases List.mem_append.mp hq with h | h
      · exact hS.2.2 q h
      · exact hf _ (hL q h)⟩⟩
theorem vx_calli {S SX : Type} {post : Int32 → S → Prop} {px : SX → Prop} {B : S → State → Prop} {BX : String → SX → State → Prop} {AX : Nat → Prop} (hr : vx_Run p l e R s m args below meth c H locs cells slots mc ms (F0 m pc ls st0) rest (va_Qi post B A1 a) (vx_X px BX AX) free) (hS : va_S A0 H0 H locs) (hA : ∀ q, q < H.size → A1 q → A0 q) (hf : ∀ q, free q → A0 q) (hAX : ∀ q, q < H.size → AX q → A0 q)
    (kx : ∀ (E : String) (ce : Cell) (q9 : Addr) (u : SX) (t : State) (H1 : Heap) (locs1 : List Loc), t.heap = H1 → s.vm.Alike t.vm → px u → BX E u t → H.size ≤ H1.size → (∀ q : Nat, q < H.size → ¬ AX q → H1[q]? = H[q]?) → va_S A0 H0 H1 locs1 → H1[q9]? = some ce → ce.vm = .none → s.vm.findClass E = some ce.cls → vx_W p l e R s m args below meth c H1 locs1 (cells + mc) (slots + ms) Q (F0 m pc ls rest) q9)
    (kk : ∀ (r : Int32) (u : S) (t : State) (H1 : Heap) (locs1 : List Loc), t.heap = H1 → s.vm.Alike t.vm → post r u → B u t → H.size ≤ H1.size → (∀ q : Nat, q < H.size → ¬ A1 q → H1[q]? = H[q]?) → va_S A0 H0 H1 locs1 → W p l e R s m args below meth c H1 locs1 (cells + mc) (slots + ms) Q (F0 m (pc + 3) ls (.int r :: rest))) : W p l e R s m args below meth c H locs cells slots Q (F0 m pc ls st0) := by
  intro T hT X
  rcases hr T hT X with ⟨v, st₀, t, T', L, h0, X', hL, e1, e2, ⟨⟨r, u, hv, hp, hb⟩, hF⟩, st⟩ | ⟨q, st₀, t, T', L, E, ce, h0, X', hL, e1, e2, ⟨u, hp, hb, hF⟩, hce, hcv, hcl, st⟩
  · cases hv
    obtain ⟨k1, k2, k3⟩ := vx_keep h0 e1 hS hA hf hL hF
    obtain ⟨t2, a1, b1⟩ := kk r u t T'.heap (locs ++ L) e1.symm (by rw [← e2]; exact X'.warmed.alike) hp hb k1 k2 k3 T' rfl X'
    exact ⟨t2, st t2 a1, b1⟩
  · obtain ⟨k1, k2, k3⟩ := vx_keep h0 e1 hS hAX hf hL hF
    obtain ⟨t2, a1, b1⟩ := kx E ce q u t T'.heap (locs ++ L) e1.symm (by rw [← e2]; exact X'.warmed.alike) hp hb k1 k2 k3 (by rw [e1]; exact hce) hcv hcl T' rfl X'
    exact ⟨t2, st.trans a1, b1⟩
theorem vx_calll {S SX : Type} {post : Int64 → S → Prop} {px : SX → Prop} {B : S → State → Prop} {BX : String → SX → State → Prop} {AX : Nat → Prop} (hr : vx_Run p l e R s m args below meth c H locs cells slots mc ms (F0 m pc ls st0) rest (va_Ql post B A1 a) (vx_X px BX AX) free) (hS : va_S A0 H0 H locs) (hA : ∀ q, q < H.size → A1 q → A0 q) (hf : ∀ q, free q → A0 q) (hAX : ∀ q, q < H.size → AX q → A0 q)
    (kx : ∀ (E : String) (ce : Cell) (q9 : Addr) (u : SX) (t : State) (H1 : Heap) (locs1 : List Loc), t.heap = H1 → s.vm.Alike t.vm → px u → BX E u t → H.size ≤ H1.size → (∀ q : Nat, q < H.size → ¬ AX q → H1[q]? = H[q]?) → va_S A0 H0 H1 locs1 → H1[q9]? = some ce → ce.vm = .none → s.vm.findClass E = some ce.cls → vx_W p l e R s m args below meth c H1 locs1 (cells + mc) (slots + ms) Q (F0 m pc ls rest) q9)
    (kk : ∀ (r : Int64) (u : S) (t : State) (H1 : Heap) (locs1 : List Loc), t.heap = H1 → s.vm.Alike t.vm → post r u → B u t → H.size ≤ H1.size → (∀ q : Nat, q < H.size → ¬ A1 q → H1[q]? = H[q]?) → va_S A0 H0 H1 locs1 → W p l e R s m args below meth c H1 locs1 (cells + mc) (slots + ms) Q (F0 m (pc + 3) ls (.long r :: rest))) : W p l e R s m args below meth c H locs cells slots Q (F0 m pc ls st0) := by
  intro T hT X
  rcases hr T hT X with ⟨v, st₀, t, T', L, h0, X', hL, e1, e2, ⟨⟨r, u, hv, hp, hb⟩, hF⟩, st⟩ | ⟨q, st₀, t, T', L, E, ce, h0, X', hL, e1, e2, ⟨u, hp, hb, hF⟩, hce, hcv, hcl, st⟩
  · cases hv
    obtain ⟨k1, k2, k3⟩ := vx_keep h0 e1 hS hA hf hL hF
    obtain ⟨t2, a1, b1⟩ := kk r u t T'.heap (locs ++ L) e1.symm (by rw [← e2]; exact X'.warmed.alike) hp hb k1 k2 k3 T' rfl X'
    exact ⟨t2, st t2 a1, b1⟩
  · obtain ⟨k1, k2, k3⟩ := vx_keep h0 e1 hS hAX hf hL hF
    obtain ⟨t2, a1, b1⟩ := kx E ce q u t T'.heap (locs ++ L) e1.symm (by rw [← e2]; exact X'.warmed.alike) hp hb k1 k2 k3 (by rw [e1]; exact hce) hcv hcl T' rfl X'
    exact ⟨t2, st.trans a1, b1⟩
theorem vx_callf {S SX : Type} {post : UInt32 → S → Prop} {px : SX → Prop} {B : S → State → Prop} {BX : String → SX → State → Prop} {AX : Nat → Prop} (hr : vx_Run p l e R s m args below meth c H locs cells slots mc ms (F0 m pc ls st0) rest (va_Qf post B A1 a) (vx_X px BX AX) free) (hS : va_S A0 H0 H locs) (hA : ∀ q, q < H.size → A1 q → A0 q) (hf : ∀ q, free q → A0 q) (hAX : ∀ q, q < H.size → AX q → A0 q)
    (kx : ∀ (E : String) (ce : Cell) (q9 : Addr) (u : SX) (t : State) (H1 : Heap) (locs1 : List Loc), t.heap = H1 → s.vm.Alike t.vm → px u → BX E u t → H.size ≤ H1.size → (∀ q : Nat, q < H.size → ¬ AX q → H1[q]? = H[q]?) → va_S A0 H0 H1 locs1 → H1[q9]? = some ce → ce.vm = .none → s.vm.findClass E = some ce.cls → vx_W p l e R s m args below meth c H1 locs1 (cells + mc) (slots + ms) Q (F0 m pc ls rest) q9)
    (kk : ∀ (r : UInt32) (u : S) (t : State) (H1 : Heap) (locs1 : List Loc), t.heap = H1 → s.vm.Alike t.vm → post r u → B u t → H.size ≤ H1.size → (∀ q : Nat, q < H.size → ¬ A1 q → H1[q]? = H[q]?) → va_S A0 H0 H1 locs1 → W p l e R s m args below meth c H1 locs1 (cells + mc) (slots + ms) Q (F0 m (pc + 3) ls (.float r :: rest))) : W p l e R s m args below meth c H locs cells slots Q (F0 m pc ls st0) := by
  intro T hT X
  rcases hr T hT X with ⟨v, st₀, t, T', L, h0, X', hL, e1, e2, ⟨⟨r, u, hv, hp, hb⟩, hF⟩, st⟩ | ⟨q, st₀, t, T', L, E, ce, h0, X', hL, e1, e2, ⟨u, hp, hb, hF⟩, hce, hcv, hcl, st⟩
  · cases hv
    obtain ⟨k1, k2, k3⟩ := vx_keep h0 e1 hS hA hf hL hF
    obtain ⟨t2, a1, b1⟩ := kk r u t T'.heap (locs ++ L) e1.symm (by rw [← e2]; exact X'.warmed.alike) hp hb k1 k2 k3 T' rfl X'
    exact ⟨t2, st t2 a1, b1⟩
  · obtain ⟨k1, k2, k3⟩ := vx_keep h0 e1 hS hAX hf hL hF
    obtain ⟨t2, a1, b1⟩ := kx E ce q u t T'.heap (locs ++ L) e1.symm (by rw [← e2]; exact X'.warmed.alike) hp hb k1 k2 k3 (by rw [e1]; exact hce) hcv hcl T' rfl X'
    exact ⟨t2, st.trans a1, b1⟩
theorem vx_calld {S SX : Type} {post : UInt64 → S → Prop} {px : SX → Prop} {B : S → State → Prop} {BX : String → SX → State → Prop} {AX : Nat → Prop} (hr : vx_Run p l e R s m args below meth c H locs cells slots mc ms (F0 m pc ls st0) rest (va_Qd post B A1 a) (vx_X px BX AX) free) (hS : va_S A0 H0 H locs) (hA : ∀ q, q < H.size → A1 q → A0 q) (hf : ∀ q, free q → A0 q) (hAX : ∀ q, q < H.size → AX q → A0 q)
    (kx : ∀ (E : String) (ce : Cell) (q9 : Addr) (u : SX) (t : State) (H1 : Heap) (locs1 : List Loc), t.heap = H1 → s.vm.Alike t.vm → px u → BX E u t → H.size ≤ H1.size → (∀ q : Nat, q < H.size → ¬ AX q → H1[q]? = H[q]?) → va_S A0 H0 H1 locs1 → H1[q9]? = some ce → ce.vm = .none → s.vm.findClass E = some ce.cls → vx_W p l e R s m args below meth c H1 locs1 (cells + mc) (slots + ms) Q (F0 m pc ls rest) q9)
    (kk : ∀ (r : UInt64) (u : S) (t : State) (H1 : Heap) (locs1 : List Loc), t.heap = H1 → s.vm.Alike t.vm → post r u → B u t → H.size ≤ H1.size → (∀ q : Nat, q < H.size → ¬ A1 q → H1[q]? = H[q]?) → va_S A0 H0 H1 locs1 → W p l e R s m args below meth c H1 locs1 (cells + mc) (slots + ms) Q (F0 m (pc + 3) ls (.double r :: rest))) : W p l e R s m args below meth c H locs cells slots Q (F0 m pc ls st0) := by
  intro T hT X
  rcases hr T hT X with ⟨v, st₀, t, T', L, h0, X', hL, e1, e2, ⟨⟨r, u, hv, hp, hb⟩, hF⟩, st⟩ | ⟨q, st₀, t, T', L, E, ce, h0, X', hL, e1, e2, ⟨u, hp, hb, hF⟩, hce, hcv, hcl, st⟩
  · cases hv
    obtain ⟨k1, k2, k3⟩ := vx_keep h0 e1 hS hA hf hL hF
    obtain ⟨t2, a1, b1⟩ := kk r u t T'.heap (locs ++ L) e1.symm (by rw [← e2]; exact X'.warmed.alike) hp hb k1 k2 k3 T' rfl X'
    exact ⟨t2, st t2 a1, b1⟩
  · obtain ⟨k1, k2, k3⟩ := vx_keep h0 e1 hS hAX hf hL hF
    obtain ⟨t2, a1, b1⟩ := kx E ce q u t T'.heap (locs ++ L) e1.symm (by rw [← e2]; exact X'.warmed.alike) hp hb k1 k2 k3 (by rw [e1]; exact hce) hcv hcl T' rfl X'
    exact ⟨t2, st.trans a1, b1⟩
theorem vx_callv {S SX : Type} {post : S → Prop} {px : SX → Prop} {B : S → State → Prop} {BX : String → SX → State → Prop} {AX : Nat → Prop} (hr : vx_Run p l e R s m args below meth c H locs cells slots mc ms (F0 m pc ls st0) rest (va_Qv post B A1 a) (vx_X px BX AX) free) (hS : va_S A0 H0 H locs) (hA : ∀ q, q < H.size → A1 q → A0 q) (hf : ∀ q, free q → A0 q) (hAX : ∀ q, q < H.size → AX q → A0 q)
    (kx : ∀ (E : String) (ce : Cell) (q9 : Addr) (u : SX) (t : State) (H1 : Heap) (locs1 : List Loc), t.heap = H1 → s.vm.Alike t.vm → px u → BX E u t → H.size ≤ H1.size → (∀ q : Nat, q < H.size → ¬ AX q → H1[q]? = H[q]?) → va_S A0 H0 H1 locs1 → H1[q9]? = some ce → ce.vm = .none → s.vm.findClass E = some ce.cls → vx_W p l e R s m args below meth c H1 locs1 (cells + mc) (slots + ms) Q (F0 m pc ls rest) q9)
    (kk : ∀ (u : S) (t : State) (H1 : Heap) (locs1 : List Loc), t.heap = H1 → s.vm.Alike t.vm → post u → B u t → H.size ≤ H1.size → (∀ q : Nat, q < H.size → ¬ A1 q → H1[q]? = H[q]?) → va_S A0 H0 H1 locs1 → W p l e R s m args below meth c H1 locs1 (cells + mc) (slots + ms) Q (F0 m (pc + 3) ls (rest))) : W p l e R s m args below meth c H locs cells slots Q (F0 m pc ls st0) := by
  intro T hT X
  rcases hr T hT X with ⟨v, st₀, t, T', L, h0, X', hL, e1, e2, ⟨⟨u, hv, hp, hb⟩, hF⟩, st⟩ | ⟨q, st₀, t, T', L, E, ce, h0, X', hL, e1, e2, ⟨u, hp, hb, hF⟩, hce, hcv, hcl, st⟩
  · cases hv
    obtain ⟨k1, k2, k3⟩ := vx_keep h0 e1 hS hA hf hL hF
    obtain ⟨t2, a1, b1⟩ := kk u t T'.heap (locs ++ L) e1.symm (by rw [← e2]; exact X'.warmed.alike) hp hb k1 k2 k3 T' rfl X'
    exact ⟨t2, st t2 a1, b1⟩
  · obtain ⟨k1, k2, k3⟩ := vx_keep h0 e1 hS hAX hf hL hF
    obtain ⟨t2, a1, b1⟩ := kx E ce q u t T'.heap (locs ++ L) e1.symm (by rw [← e2]; exact X'.warmed.alike) hp hb k1 k2 k3 (by rw [e1]; exact hce) hcv hcl T' rfl X'
    exact ⟨t2, st.trans a1, b1⟩
end Rows
section Ends
variable {p : Program} {l : Launch} {e : Env} {R : Room} {s : State} {m : MethodId} {args : Array Value} {below : List Frame} {meth : Method} {c : Code} {H : Heap} {locs : List Loc} {cells slots : Nat} {Q : State → Prop}
variable {mc ms : Nat} {free : Addr → Prop} {A0 A1 : Nat → Prop} {H0 : Heap} {a : Array Value} {ls : Array Slot} {st0 rest : List Value}
variable {Qc : Array Value → State → Outcome → State → Prop} {XC : String → State → State → Prop}
/-- what a body that may throw owes at its end -/
def vx_MQ (below : List Frame) (Qc : Array Value → State → Outcome → State → Prop) (XC : String → State → State → Prop) (a : Array Value) (s : State) (mc ms : Nat) (free : Addr → Prop) : State → Prop := fun t =>
  ∃ o, t.status = .running ∧ Ended t below o ∧ vx_Q Qc XC mc ms free a s o t
theorem vx_ret {g : JFrame} {mc ms : Nat} (k : W p l e R s m args below meth c H locs cells slots (MQ below Qc args s mc ms free) g) : W p l e R s m args below meth c H locs cells slots (vx_MQ below Qc XC args s mc ms free) g := by
  intro T hT X
  obtain ⟨t, a1, o, b1, b2, b3, b4⟩ := k T hT X
  exact ⟨t, a1, o, b1, b2, Or.inl ⟨b3, b4⟩⟩
/-- not caught here: it goes on to the caller -/
theorem vx_widen {g : JFrame} {q : Addr} {k n : Nat} (h1 : cells ≤ k) (h2 : slots ≤ n) (kk : vx_W p l e R s m args below meth c H locs k n Q g q) : vx_W p l e R s m args below meth c H locs cells slots Q g q := fun T hT X => kk T hT (stand_widen X h1 h2)
theorem vx_out {pc : Nat} {E : String} {ce : Cell} {q : Addr} {mc ms : Nat} (hout : ∀ x ∈ c.exceptionTable.toList, covers x pc = false) (hlocks : meth.locks = false) (hcell : H[q]? = some ce) (hv : ce.vm = .none) (hcl : s.vm.findClass E = some ce.cls)
    (hx : ∀ t : State, t.heap = H → s.vm.Alike t.vm → XC E s t) (hf : ∀ z ∈ locs, free z.base) (hc : cells ≤ mc) (hs : slots ≤ ms) :
    vx_W p l e R s m args below meth c H locs cells slots (vx_MQ below Qc XC args s mc ms free) (F0 m pc ls rest) q := by
  intro T hT X
  obtain ⟨st1, hrun, hend, hW, hsm⟩ := X.leaveThrown q (g := F0 m pc ls rest) rfl rfl rfl hout hlocks
  have hcell9 : (T.setFrames (.throwing q :: below)).heap[q]? = some ce := by
    show T.heap[q]? = some ce
    rw [hT]; exact hcell
  exact ⟨_, st1, .threw q, hrun, hend, Or.inr ⟨q, rfl, E, ce, locs, hx _ hT hW.alike, hcell9, hv, hcl, hW, hsm.mono hc hs, hf⟩⟩
theorem vx_frame {U : State} {k n : Nat} (h : s.sameButNew ({ U with vm := s.vm } : State) locs k n) : s.heap.size ≤ U.heap.size ∧ ∀ q : Nat, q < s.heap.size → (∀ z ∈ locs, z.base ≠ q) → U.heap[q]? = s.heap[q]? := by
  obtain ⟨-, h2, -, -, -, h6⟩ := h
  refine ⟨h2, fun q hq hz => ?_⟩
  obtain ⟨c9, e1, e2, e3, e4⟩ := h6 q _ (Array.getElem?_eq_getElem hq)
  have hs : c9.slots = (s.heap[q]).slots := Array.ext_getElem? fun i => e4 i fun hm => hz _ hm rfl
  have h9 : c9 = s.heap[q] := by
    rw [hs] at e2
    exact e2
  have e5 : U.heap[q]? = some c9 := e1
  rw [e5, h9, Array.getElem?_eq_getElem hq]
/-- the words of a throw but the four that speak of the heap -/
def vx_no (w : Cond) : Bool := decide (w ≠ .isRef (.static Bundle.tN "UNASSIGNED_STACK" Bundle.steD)) && decide (w ≠ .isRef (.static Bundle.tN "SUPPRESSED_SENTINEL" Bundle.listD)) && decide (w ≠ .laysStatic Bundle.tN "UNASSIGNED_STACK" Bundle.steD) && decide (w ≠ .laysStatic Bundle.tN "SUPPRESSED_SENTINEL" Bundle.listD)
def vx_at0 (own : String) (ic : Nat) (X : String) (names : List String) : List Cond := (Bundle.ownAtoms0 own ic X names).filter vx_no
def vx_atS (own : String) (ic : Nat) (X : String) (names : List String) : List Cond := (Bundle.ownAtoms own ic X names).filter vx_no
/-- a word that the tables alone decide, or a good one -/
def vx_ot (w : Cond) : Bool := w.onTables || goodWord w
theorem vx_ot_at {args a' : Array Value} {s U : State} {w : Cond} (hW : s.WarmedH U.vm) (hvm : s.vm = U.vm) (hg : vx_ot w = true) (h : w.before args s = true) : w.before a' U = true := by
  simp only [vx_ot, Bool.or_eq_true] at hg
  rcases hg with hg | hg
  · exact va_tabs hg hvm h
  · exact word_at hW (good_of_word hg) h
/-- a list's words: the good ones out of the method's own list, the others by premises of their own -/
theorem vx_hat {args : Array Value} {s : State} {L B : List Cond} (h1 : ∀ w ∈ L.filter goodWord, w.before args s = true) (h2 : ∀ w ∈ L.filter (fun w => !goodWord w), w ∈ B) (h3 : ∀ w ∈ B, w.before args s = true) : ∀ w ∈ L, w.before args s = true := by
  intro w hw
  by_cases g : goodWord w = true
  · exact h1 w (List.mem_filter.mpr ⟨hw, g⟩)
  · refine h3 w (h2 w (List.mem_filter.mpr ⟨hw, ?_⟩))
    show (!goodWord w) = true
    cases hgw : goodWord w
    · rfl
    · exact absurd hgw g
theorem vx_c {args : Array Value} {s : State} {w : Cond} {B : List Cond} (h : w.before args s = true) (t : ∀ w ∈ B, w.before args s = true) : ∀ w' ∈ w :: B, w'.before args s = true := fun w' h' => (List.mem_cons.mp h').elim (fun e => by rw [e]; exact h) (t w')
theorem vx_n {args : Array Value} {s : State} : ∀ w ∈ ([] : List Cond), w.before args s = true := fun _ h => nomatch h
theorem vx_own {args : Array Value} {s : State} {L : List Cond} (h1 : ∀ w ∈ L.filter vx_no, w.before args s = true)
    (hU : (Cond.isRef (.static Bundle.tN "UNASSIGNED_STACK" Bundle.steD)).before args s = true) (hN : (Cond.isRef (.static Bundle.tN "SUPPRESSED_SENTINEL" Bundle.listD)).before args s = true)
    (lU : (Cond.laysStatic Bundle.tN "UNASSIGNED_STACK" Bundle.steD).before args s = true) (lN : (Cond.laysStatic Bundle.tN "SUPPRESSED_SENTINEL" Bundle.listD).before args s = true) : ∀ w ∈ L, w.before args s = true := by
  intro w hw
  by_cases e1 : w = .isRef (.static Bundle.tN "UNASSIGNED_STACK" Bundle.steD)
  · rw [e1]; exact hU
  · by_cases e2 : w = .isRef (.static Bundle.tN "SUPPRESSED_SENTINEL" Bundle.listD)
    · rw [e2]; exact hN
    · by_cases e3 : w = .laysStatic Bundle.tN "UNASSIGNED_STACK" Bundle.steD
      · rw [e3]; exact lU
      · by_cases e4 : w = .laysStatic Bundle.tN "SUPPRESSED_SENTINEL" Bundle.listD
        · rw [e4]; exact lN
        · exact h1 w (List.mem_filter.mpr ⟨hw, by unfold vx_no; rw [decide_eq_true e1, decide_eq_true e2, decide_eq_true e3, decide_eq_true e4]; rfl⟩)
/-- where a static field lies, its class's statics cell in H -/
def vx_L (C n d : String) (A : Nat → Prop) (U : State) (H : Heap) : Prop := ∃ (c : ClassId) (k : Class) (i : Nat) (f : Field) (a : Nat) (cell : Cell), U.vm.findClass C = some c ∧ U.fieldFound? C n d = some (c, k, i, f) ∧ f.isStatic = true ∧ k.statics = some a ∧ H[a]? = some cell ∧ cell.vm.isStatics = true ∧ cell.cls = c ∧ f.slot < cell.slots.size ∧ k.staticTypes[f.slot]? = some f.type ∧ ¬ A a
theorem vx_L.moved {C n d : String} {A : Nat → Prop} {u U : State} {H : Heap} (hvm : u.vm.Alike U.vm) (h : vx_L C n d A u H) : vx_L C n d A U H := by
  obtain ⟨c, k, i, f, a, cell, h1, h2, h3, h4, h5, h6, h7, h8, h9, h10⟩ := h
  obtain ⟨k', hi', he⟩ := State.fieldFound?_setVm hvm h2
  exact ⟨c, k', i, f, a, cell, by rw [hvm.findClass]; exact h1, hi', h3, by rw [he]; exact h4, h5, h6, h7, h8, by rw [he]; exact h9, h10⟩
theorem vx_L.kept {C n d : String} {A : Nat → Prop} {U : State} {H H1 : Heap} (h : vx_L C n d A U H) (hq : ∀ a : Nat, a < H.size → ¬ A a → H1[a]? = H[a]?) : vx_L C n d A U H1 := by
  obtain ⟨c, k, i, f, a, cell, h1, h2, h3, h4, h5, h6, h7, h8, h9, h10⟩ := h
  exact ⟨c, k, i, f, a, cell, h1, h2, h3, h4, by rw [hq a (Array.getElem?_eq_some_iff.mp h5).1 h10]; exact h5, h6, h7, h8, h9, h10⟩
theorem vx_L.narrow {C n d : String} {A B : Nat → Prop} {U : State} {H : Heap} (h : vx_L C n d A U H) (hAB : ∀ q, B q → A q) : vx_L C n d B U H := by
  obtain ⟨c, k, i, f, a, cell, h1, h2, h3, h4, h5, h6, h7, h8, h9, h10⟩ := h
  exact ⟨c, k, i, f, a, cell, h1, h2, h3, h4, h5, h6, h7, h8, h9, fun z => h10 (hAB _ z)⟩
theorem vx_L.word {C n d : String} {A : Nat → Prop} {s : State} {args : Array Value} (h : vx_L C n d A s s.heap) : (Cond.laysStatic C n d).before args s = true := by
  obtain ⟨c, k, i, f, a, cell, h1, h2, h3, h4, h5, h6, h7, h8, h9, -⟩ := h
  show (Cond.laysStatic C n d).holds args s none s [] = true
  exact Cond.laysStatic_of h1 h2 h3 h4 h5 h6 h7 h8 h9
/-- .. and what it holds: null or some reference -/
def vx_Zq (C n d : String) (A : Nat → Prop) (U : State) (H : Heap) : Prop := va_Zq C n d A U H ∧ vx_L C n d A U H
theorem vx_Zq.moved {C n d : String} {A : Nat → Prop} {u U : State} {H : Heap} (hvm : u.vm.Alike U.vm) (h : vx_Zq C n d A u H) : vx_Zq C n d A U H := ⟨va_Zq.moved hvm h.1, vx_L.moved hvm h.2⟩
theorem vx_Zq.kept {C n d : String} {A : Nat → Prop} {U : State} {H H1 : Heap} (h : vx_Zq C n d A U H) (hq : ∀ a : Nat, a < H.size → ¬ A a → H1[a]? = H[a]?) : vx_Zq C n d A U H1 := ⟨va_Zq.kept h.1 hq, vx_L.kept h.2 hq⟩
theorem vx_Zq.narrow {C n d : String} {A B : Nat → Prop} {U : State} {H : Heap} (h : vx_Zq C n d A U H) (hAB : ∀ q, B q → A q) : vx_Zq C n d B U H := ⟨va_Zq.narrow h.1 hAB, vx_L.narrow h.2 hAB⟩
theorem vx_Zqof {args : Array Value} {s : State} {C n d : String} {A : Nat → Prop} (hl : (Cond.laysStatic C n d).before args s = true) (hini : (Cond.initialized C).before args s = true) (h : (Cond.isRef (.static C n d)).before args s = true) (hA : ∀ a : Nat, a < s.heap.size → ¬ A a) : vx_Zq C n d A s s.heap := by
  refine ⟨va_Zqof hl hini h hA, ?_⟩
  obtain ⟨c, k, i, f, a, cell, h1, h2, h3, h4, h5, h6, h7, h8, h9⟩ := Cond.laysStatic_spec hl
  exact ⟨c, k, i, f, a, cell, h1, h2, h3, h4, h5, h6, h7, h8, h9, hA a (Array.getElem?_eq_some_iff.mp h5).1⟩
theorem vx_isRef {C n d : String} {v : Value} {A : Nat → Prop} {s : State} {args : Array Value} (h : va_Z C n d v A s s.heap) (hv : v.isRef = true) : (Cond.isRef (.static C n d)).before args s = true := by
  obtain ⟨cf, kf, fi, f, a, cell, h1, h2, h3, h4, h5, h6, h7, -⟩ := h
  have he : (Term.static C n d).eval args s none [] s = some v := by
    simp [Term.eval, State.fieldNamed?, h1, h2, h4, h5, h6, h7]
  simp only [Cond.before, Cond.holds, Cond.value, he]
  cases v <;> simp_all [Value.isRef]
theorem vx_isRefq {C n d : String} {A : Nat → Prop} {s : State} {args : Array Value} (h : va_Zq C n d A s s.heap) : (Cond.isRef (.static C n d)).before args s = true := by
  rcases h with h | ⟨t, h⟩
  · exact vx_isRef h rfl
  · exact vx_isRef h rfl
/-- the same frame, seen from here: as if the method were called anew in this heap -/
theorem vx_rebase {T : State} (X : Stand p l e R s m args below meth c T locs cells slots) {R' : Room} (hf : R'.frames ≤ R.frames) (hl : R'.locals ≤ R.locals) (hc : cells + R'.cells ≤ R.cells) (hs : slots + R'.slots ≤ R.slots) :
    Stand p l e R' ((T.setVm s.vm).setFrames (.invoking m args :: below)) m args below meth c T [] 0 0 := by
  have htop : (T.setVm s.vm).topJava?.isSome := X.here.top
  have hF : ((T.setVm s.vm).setFrames (.invoking m args :: below)).frames = .invoking m args :: below := State.frames_setFrames _ (State.cur_lt_of_top htop)
  obtain ⟨g₀, hg0⟩ := Option.isSome_iff_exists.mp htop
  obtain ⟨r, hr⟩ := State.topJava?_eq_some.mp hg0
  have hl9 : e.platform.stackLimits (T.setVm s.vm).me = e.platform.stackLimits s.me := X.limits
  have hb9 : (T.setVm s.vm).me.stackBytes = s.me.stackBytes := X.bytes
  refine ⟨X.admits, X.cas, X.clock, hF, ?_, X.hears, X.method, X.code, X.here, X.tail, X.warmed, ?_, ?_, ?_⟩
  · have h := X.room
    have hU : ((T.setVm s.vm).setFrames (.invoking m args :: below)).localsInUse = s.localsInUse := by
      rw [State.localsInUse_invoking hF (meth := meth) (c := c) X.method X.code, State.localsInUse_invoking X.frames X.method X.code]
    simp only [State.hasRoom, Bool.and_eq_true, decide_eq_true_eq] at h ⊢
    obtain ⟨⟨⟨⟨h1, h2, h3, h4, h5, h6⟩, h7⟩, h8⟩, h9⟩ := h
    rw [X.frames, List.length_cons] at h2 h3
    have q1 := X.heapSize
    have q2 := X.used
    simp only [hF, hU, List.length_cons, State.stackLimits_setFrames, State.stackBytes_setFrames, hl9, hb9]
    refine ⟨⟨⟨⟨by omega, by omega, by omega, by omega, by omega, h6⟩, ?_⟩, ?_⟩, X.book⟩
    · show T.heap.size + R'.cells ≤ e.platform.maxCells
      omega
    · show T.slotsUsed + R'.slots ≤ e.platform.maxSlots
      omega
  · rw [State.stackLimits_setFrames]; rfl
  · rw [State.stackBytes_setFrames]; rfl
  · refine ⟨?_, Nat.le_refl _, Nat.le_refl _, ?_, ?_, fun a c9 h9 => ⟨c9, h9, rfl, rfl, fun _ _ => rfl⟩⟩
    · obtain ⟨t, ht, -⟩ := State.frames_cons hr
      show T.setVm s.vm = { ((T.setVm s.vm).setFrames (.invoking m args :: below)).setFrames (T.setVm s.vm).frames with heap := T.heap, slotsUsed := T.slotsUsed }
      rw [State.setFrames_setFrames, State.setFrames_self ht]
      rfl
    · show T.slotsUsed = T.slotsUsed + ((T.heap.toList.drop T.heap.size).map (·.slots.size)).sum
      rw [List.drop_eq_nil_of_le (Nat.le_of_eq Array.length_toList)]
      rfl
    · show ((T.heap.toList.drop T.heap.size).map (·.slots.size)).sum ≤ 0
      rw [List.drop_eq_nil_of_le (Nat.le_of_eq Array.length_toList)]
      exact Nat.le_refl _
/-- 'throw new E()': new; dup; invokespecial; athrow -/
theorem vx_throw0 {cc : ByteArray} {pc : Nat} (hexec : p.tables.exec = Jvm.exec) (hb : c.code = cc) (hl : l.stackTraces = false) {own cls : String} {names : List String} {ik ic mc ms : Nat} {A : Nat → Prop}
    (hown : s.vm.findClass own = some m.cls) (hcls : Bundle.fit cls = true) (hnames : ∀ n ∈ names, Bundle.fit n = true)
    (hk : (Cond.classLink own ik cls).before args s = true) (hini : (Cond.initialized cls).before args s = true) (hat : ∀ w ∈ vx_at0 own ic cls names, w.before args s = true)
    (hgood : ∀ w ∈ Cond.classLink own ik cls :: Cond.initialized cls :: vx_at0 own ic cls names, vx_ot w = true)
    (hU : vx_Zq Bundle.tN "UNASSIGNED_STACK" Bundle.steD A s s.heap) (hN : vx_Zq Bundle.tN "SUPPRESSED_SENTINEL" Bundle.listD A s s.heap) (hS : va_S A s.heap H locs) (hsize : ls.size = c.maxLocals)
    (d0 : decode cc pc = .ok (.new ik, 3)) (d3 : decode cc (pc + 3) = .ok (.dup, 1)) (d4 : decode cc (pc + 4) = .ok (.invokespecial ic, 3)) (d7 : decode cc (pc + 7) = .ok (.athrow, 1))
    (hout : ∀ x ∈ c.exceptionTable.toList, covers x (pc + 7) = false)
    (hRframes : names.length + 3 < R.frames) (hRlocals : (rest.map fun v => v.category).sum + (13 * (names.length + 1) + 42) ≤ R.locals) (hRcells : cells + 1 ≤ R.cells) (hRslots : slots + 6 ≤ R.slots) (hlocks : meth.locks = false)
    (hx : ∀ t : State, s.vm.Alike t.vm → H.size ≤ t.heap.size → (∀ q : Nat, q < H.size → t.heap[q]? = H[q]?) → XC cls s t)
    (hf : ∀ z ∈ locs, free z.base) (hc : cells + 1 ≤ mc) (hs : slots + 6 ≤ ms) :
    W p l e R s m args below meth c H locs cells slots (vx_MQ below Qc XC args s mc ms free) (F0 m pc ls rest) := by
  intro T hT X
  have htr : e.platform.stackTraces = false := (show e.platform.stackTraces = l.stackTraces by rw [X.admits.platform]).trans hl
  have Y := vx_rebase X (R' := { frames := R.frames, locals := R.locals, cells := 1, slots := 6 }) (Nat.le_refl _) (Nat.le_refl _) hRcells hRslots
  obtain ⟨s', hA⟩ : ∃ z, z = (T.setVm s.vm).setFrames (.invoking m args :: below) := ⟨_, rfl⟩
  rw [← hA] at Y
  have hvm : s'.vm = s.vm := by rw [hA]; rfl
  have hhp : s'.heap = H := by rw [hA]; exact hT
  have hW0 : s.WarmedH s'.vm := by rw [hvm]; exact State.WarmedH.refl s
  have hat' : ∀ w ∈ vx_at0 own ic cls names, w.before args s' = true := fun w hw => vx_ot_at hW0 hvm.symm (hgood w (List.mem_cons_of_mem _ (List.mem_cons_of_mem _ hw))) (hat w hw)
  have hk' : (Cond.classLink own ik cls).before args s' = true := vx_ot_at hW0 hvm.symm (hgood _ List.mem_cons_self) hk
  have hini' : (Cond.initialized cls).before args s' = true := vx_ot_at hW0 hvm.symm (hgood _ (List.mem_cons_of_mem _ List.mem_cons_self)) hini
  have hU' : vx_Zq Bundle.tN "UNASSIGNED_STACK" Bundle.steD A s' s'.heap := by rw [hhp]; exact vx_Zq.moved hW0.alike (hU.kept hS.2.1)
  have hN' : vx_Zq Bundle.tN "SUPPRESSED_SENTINEL" Bundle.listD A s' s'.heap := by rw [hhp]; exact vx_Zq.moved hW0.alike (hN.kept hS.2.1)
  have h : ∀ w ∈ Bundle.ownAtoms0 own ic cls names, w.before args s' = true := vx_own hat' (vx_isRefq hU'.1) (vx_isRefq hN'.1) hU'.2.word hN'.2.word
  have hown' : s'.vm.findClass own = some m.cls := by rw [hvm]; exact hown
  have hins : (Cond.instantiable cls 6).before args s' = true := h _ (by simp [Bundle.ownAtoms0])
  obtain ⟨vm₁, cX, kX, hfX, hkX, -, -, X₁, st1⟩ := Y.newCold hexec (own := own) (C := cls) (index := ik) (n := 6) hown' hk' hins hini'
    (g := F0 m pc ls rest) rfl (by rw [hb]; exact d0) (Nat.le_refl _) (Nat.le_refl _)
  generalize hT1 : (T.setVm vm₁).pushCell { cls := cX, slots := kX.instanceTypes.map defaultValue, vm := .none } = T1 at X₁ st1
  have hcat : (Value.ref T.heap.size).category = 1 := rfl
  have hcellA : T1.heap[T.heap.size]? = some (freshCell cX kX) := by rw [← hT1]; exact State.heap_pushCell_size _ _
  have d3' : decode c.code (pc + 3) = .ok (.dup, 1) := by rw [hb]; exact d3
  obtain ⟨U, hsteps, hrun, hend, hW, hsame, ce, hce, hO⟩ := X₁.ctorThrow0 hexec htr (own := own) (cls := cls) (names := names) (ic := ic) hown' hcls hnames h (fun x hx => nomatch hx) hfX hkX hcellA (by rw [hhp, hT]; exact Nat.le_refl _)
    (g := { method := m, pc := pc + 4, locals := ls, stack := .ref T.heap.size :: .ref T.heap.size :: rest, locked := none }) rfl hsize rfl rfl (rest := rest) rfl
    (by rw [hb]; exact d4) (by rw [hb]; exact d7) hout hRframes (by simp only [List.map_cons, List.sum_cons, hcat]; omega) hlocks
  obtain ⟨f1, f2⟩ := vx_frame hsame
  rw [hhp] at f1 f2
  have hWs : s.WarmedH U.vm := State.WarmedH.trans hW0 hW
  have hcl : s.vm.findClass cls = some ce.cls := by
    have h9 := hO.cls
    rw [hvm] at h9
    exact h9
  have hall : s.sameButNew ({ U with vm := s.vm } : State) locs mc ms := by
    subst hA
    obtain ⟨e1, e2⟩ := hsame
    rw [State.setFrames_setFrames] at e1
    have h2 : (T.setVm s.vm).sameButNew ({ U with vm := s.vm } : State) [] (0 + 1) (0 + 6) := ⟨e1, e2⟩
    have h3 := X.same.trans h2
    rw [List.append_nil] at h3
    exact h3.mono hc hs
  refine ⟨U, ?_, .threw T.heap.size, hrun, hend, Or.inr ⟨T.heap.size, rfl, cls, ce, locs, hx U hWs.alike f1 (fun q hq => f2 q hq (fun z hz => nomatch hz)), hce, hO.vm, hcl, hWs, hall, hf⟩⟩
  refine st1 _ ?_
  show Steps p.tables e below (T1.setTop { method := m, pc := pc + 3, locals := ls, stack := .ref T.heap.size :: rest, locked := none }) _
  jvm_step X₁.here [X₁.here.top, hexec, d3', Value.category]
  exact hsteps
/-- 'throw new E("text")': new; dup; ldc; invokespecial; athrow -/
theorem vx_throwS {cc : ByteArray} {pc : Nat} (hexec : p.tables.exec = Jvm.exec) (hb : c.code = cc) (hl : l.stackTraces = false) {own cls text : String} {names : List String} {ik is ic mc ms sa : Nat} {A : Nat → Prop}
    (hown : s.vm.findClass own = some m.cls) (hcls : Bundle.fit cls = true) (hnames : ∀ n ∈ names, Bundle.fit n = true)
    (hk : (Cond.classLink own ik cls).before args s = true) (hini : (Cond.initialized cls).before args s = true) (hstr : vk_R own is text sa s) (hat : ∀ w ∈ vx_atS own ic cls names, w.before args s = true)
    (hgood : ∀ w ∈ Cond.classLink own ik cls :: Cond.initialized cls :: vx_atS own ic cls names, vx_ot w = true)
    (hU : vx_Zq Bundle.tN "UNASSIGNED_STACK" Bundle.steD A s s.heap) (hN : vx_Zq Bundle.tN "SUPPRESSED_SENTINEL" Bundle.listD A s s.heap) (hS : va_S A s.heap H locs) (hsize : ls.size = c.maxLocals)
    (d0 : decode cc pc = .ok (.new ik, 3)) (d3 : decode cc (pc + 3) = .ok (.dup, 1)) (d4 : decode cc (pc + 4) = .ok (.ldc is, 2)) (d6 : decode cc (pc + 6) = .ok (.invokespecial ic, 3)) (d9 : decode cc (pc + 9) = .ok (.athrow, 1))
    (hout : ∀ x ∈ c.exceptionTable.toList, covers x (pc + 9) = false)
    (hRframes : names.length + 3 < R.frames) (hRlocals : (rest.map fun v => v.category).sum + (13 * (names.length + 1) + 43) ≤ R.locals) (hRcells : cells + 1 ≤ R.cells) (hRslots : slots + 6 ≤ R.slots) (hlocks : meth.locks = false)
    (hx : ∀ t : State, s.vm.Alike t.vm → H.size ≤ t.heap.size → (∀ q : Nat, q < H.size → t.heap[q]? = H[q]?) → XC cls s t)
    (hf : ∀ z ∈ locs, free z.base) (hc : cells + 1 ≤ mc) (hs : slots + 6 ≤ ms) :
    W p l e R s m args below meth c H locs cells slots (vx_MQ below Qc XC args s mc ms free) (F0 m pc ls rest) := by
  intro T hT X
  have htr : e.platform.stackTraces = false := (show e.platform.stackTraces = l.stackTraces by rw [X.admits.platform]).trans hl
  have Y := vx_rebase X (R' := { frames := R.frames, locals := R.locals, cells := 1, slots := 6 }) (Nat.le_refl _) (Nat.le_refl _) hRcells hRslots
  obtain ⟨s', hA⟩ : ∃ z, z = (T.setVm s.vm).setFrames (.invoking m args :: below) := ⟨_, rfl⟩
  rw [← hA] at Y
  have hvm : s'.vm = s.vm := by rw [hA]; rfl
  have hhp : s'.heap = H := by rw [hA]; exact hT
  have hW0 : s.WarmedH s'.vm := by rw [hvm]; exact State.WarmedH.refl s
  have hat' : ∀ w ∈ vx_atS own ic cls names, w.before args s' = true := fun w hw => vx_ot_at hW0 hvm.symm (hgood w (List.mem_cons_of_mem _ (List.mem_cons_of_mem _ hw))) (hat w hw)
  have hk' : (Cond.classLink own ik cls).before args s' = true := vx_ot_at hW0 hvm.symm (hgood _ List.mem_cons_self) hk
  have hini' : (Cond.initialized cls).before args s' = true := vx_ot_at hW0 hvm.symm (hgood _ (List.mem_cons_of_mem _ List.mem_cons_self)) hini
  have hU' : vx_Zq Bundle.tN "UNASSIGNED_STACK" Bundle.steD A s' s'.heap := by rw [hhp]; exact vx_Zq.moved hW0.alike (hU.kept hS.2.1)
  have hN' : vx_Zq Bundle.tN "SUPPRESSED_SENTINEL" Bundle.listD A s' s'.heap := by rw [hhp]; exact vx_Zq.moved hW0.alike (hN.kept hS.2.1)
  have h : ∀ w ∈ Bundle.ownAtoms own ic cls names, w.before args s' = true := vx_own hat' (vx_isRefq hU'.1) (vx_isRefq hN'.1) hU'.2.word hN'.2.word
  have hown' : s'.vm.findClass own = some m.cls := by rw [hvm]; exact hown
  have hins : (Cond.instantiable cls 6).before args s' = true := h _ (by simp [Bundle.ownAtoms])
  obtain ⟨vm₁, cX, kX, hfX, hkX, -, -, X₁, st1⟩ := Y.newCold hexec (own := own) (C := cls) (index := ik) (n := 6) hown' hk' hins hini'
    (g := F0 m pc ls rest) rfl (by rw [hb]; exact d0) (Nat.le_refl _) (Nat.le_refl _)
  generalize hT1 : (T.setVm vm₁).pushCell { cls := cX, slots := kX.instanceTypes.map defaultValue, vm := .none } = T1 at X₁ st1
  have hcat : (Value.ref T.heap.size).category = 1 := rfl
  have hcellA : T1.heap[T.heap.size]? = some (freshCell cX kX) := by rw [← hT1]; exact State.heap_pushCell_size _ _
  have d3' : decode c.code (pc + 3) = .ok (.dup, 1) := by rw [hb]; exact d3
  have d4' : decode c.code (pc + 4) = .ok (.ldc is, 2) := by rw [hb]; exact d4
  have hstr' : vk_R own is text sa s' := vk_R.warm hW0 hstr
  obtain ⟨U, hsteps, hrun, hend, hW, hsame, ce, hce, hO⟩ := X₁.ctorThrowS hexec htr (own := own) (cls := cls) (names := names) (ic := ic) hown' hcls hnames h (fun x hx => nomatch hx) hfX hkX hcellA (by rw [hhp, hT]; exact Nat.le_refl _) (msg := .ref sa) rfl
    (g := { method := m, pc := pc + 6, locals := ls, stack := .ref sa :: .ref T.heap.size :: .ref T.heap.size :: rest, locked := none }) rfl hsize rfl rfl (rest := rest) rfl
    (by rw [hb]; exact d6) (by rw [hb]; exact d9) hout hRframes (by simp only [List.map_cons, List.sum_cons, hcat]; omega) hlocks
  obtain ⟨f1, f2⟩ := vx_frame hsame
  rw [hhp] at f1 f2
  have hWs : s.WarmedH U.vm := State.WarmedH.trans hW0 hW
  have hcl : s.vm.findClass cls = some ce.cls := by
    have h9 := hO.cls
    rw [hvm] at h9
    exact h9
  have hall : s.sameButNew ({ U with vm := s.vm } : State) locs mc ms := by
    subst hA
    obtain ⟨e1, e2⟩ := hsame
    rw [State.setFrames_setFrames] at e1
    have h2 : (T.setVm s.vm).sameButNew ({ U with vm := s.vm } : State) [] (0 + 1) (0 + 6) := ⟨e1, e2⟩
    have h3 := X.same.trans h2
    rw [List.append_nil] at h3
    exact h3.mono hc hs
  refine ⟨U, ?_, .threw T.heap.size, hrun, hend, Or.inr ⟨T.heap.size, rfl, cls, ce, locs, hx U hWs.alike f1 (fun q hq => f2 q hq (fun z hz => nomatch hz)), hce, hO.vm, hcl, hWs, hall, hf⟩⟩
  refine st1 _ ?_
  show Steps p.tables e below (T1.setTop { method := m, pc := pc + 3, locals := ls, stack := .ref T.heap.size :: rest, locked := none }) _
  jvm_step X₁.here [X₁.here.top, hexec, d3', Value.category]
  exact X₁.ldcString hexec (own := own) (text := text) (index := is) (a := sa) hown' hstr'.1 hstr'.2
    (g := { method := m, pc := pc + 4, locals := ls, stack := .ref T.heap.size :: .ref T.heap.size :: rest, locked := none }) rfl d4' _ hsteps
/-- 'throw new E("text")', the text by a wide index -/
theorem vx_throwSW {cc : ByteArray} {pc : Nat} (hexec : p.tables.exec = Jvm.exec) (hb : c.code = cc) (hl : l.stackTraces = false) {own cls text : String} {names : List String} {ik is ic mc ms sa : Nat} {A : Nat → Prop}
    (hown : s.vm.findClass own = some m.cls) (hcls : Bundle.fit cls = true) (hnames : ∀ n ∈ names, Bundle.fit n = true)
    (hk : (Cond.classLink own ik cls).before args s = true) (hini : (Cond.initialized cls).before args s = true) (hstr : vk_R own is text sa s) (hat : ∀ w ∈ vx_atS own ic cls names, w.before args s = true)
    (hgood : ∀ w ∈ Cond.classLink own ik cls :: Cond.initialized cls :: vx_atS own ic cls names, vx_ot w = true)
    (hU : vx_Zq Bundle.tN "UNASSIGNED_STACK" Bundle.steD A s s.heap) (hN : vx_Zq Bundle.tN "SUPPRESSED_SENTINEL" Bundle.listD A s s.heap) (hS : va_S A s.heap H locs) (hsize : ls.size = c.maxLocals)
    (d0 : decode cc pc = .ok (.new ik, 3)) (d3 : decode cc (pc + 3) = .ok (.dup, 1)) (d4 : decode cc (pc + 4) = .ok (.ldc_w is, 3)) (d7 : decode cc (pc + 7) = .ok (.invokespecial ic, 3)) (d10 : decode cc (pc + 10) = .ok (.athrow, 1))
    (hout : ∀ x ∈ c.exceptionTable.toList, covers x (pc + 10) = false)
    (hRframes : names.length + 3 < R.frames) (hRlocals : (rest.map fun v => v.category).sum + (13 * (names.length + 1) + 43) ≤ R.locals) (hRcells : cells + 1 ≤ R.cells) (hRslots : slots + 6 ≤ R.slots) (hlocks : meth.locks = false)
    (hx : ∀ t : State, s.vm.Alike t.vm → H.size ≤ t.heap.size → (∀ q : Nat, q < H.size → t.heap[q]? = H[q]?) → XC cls s t)
    (hf : ∀ z ∈ locs, free z.base) (hc : cells + 1 ≤ mc) (hs : slots + 6 ≤ ms) :
    W p l e R s m args below meth c H locs cells slots (vx_MQ below Qc XC args s mc ms free) (F0 m pc ls rest) := by
  intro T hT X
  have htr : e.platform.stackTraces = false := (show e.platform.stackTraces = l.stackTraces by rw [X.admits.platform]).trans hl
  have Y := vx_rebase X (R' := { frames := R.frames, locals := R.locals, cells := 1, slots := 6 }) (Nat.le_refl _) (Nat.le_refl _) hRcells hRslots
  obtain ⟨s', hA⟩ : ∃ z, z = (T.setVm s.vm).setFrames (.invoking m args :: below) := ⟨_, rfl⟩
  rw [← hA] at Y
  have hvm : s'.vm = s.vm := by rw [hA]; rfl
  have hhp : s'.heap = H := by rw [hA]; exact hT
  have hW0 : s.WarmedH s'.vm := by rw [hvm]; exact State.WarmedH.refl s
  have hat' : ∀ w ∈ vx_atS own ic cls names, w.before args s' = true := fun w hw => vx_ot_at hW0 hvm.symm (hgood w (List.mem_cons_of_mem _ (List.mem_cons_of_mem _ hw))) (hat w hw)
  have hk' : (Cond.classLink own ik cls).before args s' = true := vx_ot_at hW0 hvm.symm (hgood _ List.mem_cons_self) hk
  have hini' : (Cond.initialized cls).before args s' = true := vx_ot_at hW0 hvm.symm (hgood _ (List.mem_cons_of_mem _ List.mem_cons_self)) hini
  have hU' : vx_Zq Bundle.tN "UNASSIGNED_STACK" Bundle.steD A s' s'.heap := by rw [hhp]; exact vx_Zq.moved hW0.alike (hU.kept hS.2.1)
  have hN' : vx_Zq Bundle.tN "SUPPRESSED_SENTINEL" Bundle.listD A s' s'.heap := by rw [hhp]; exact vx_Zq.moved hW0.alike (hN.kept hS.2.1)
  have h : ∀ w ∈ Bundle.ownAtoms own ic cls names, w.before args s' = true := vx_own hat' (vx_isRefq hU'.1) (vx_isRefq hN'.1) hU'.2.word hN'.2.word
  have hown' : s'.vm.findClass own = some m.cls := by rw [hvm]; exact hown
  have hins : (Cond.instantiable cls 6).before args s' = true := h _ (by simp [Bundle.ownAtoms])
  obtain ⟨vm₁, cX, kX, hfX, hkX, -, -, X₁, st1⟩ := Y.newCold hexec (own := own) (C := cls) (index := ik) (n := 6) hown' hk' hins hini'
    (g := F0 m pc ls rest) rfl (by rw [hb]; exact d0) (Nat.le_refl _) (Nat.le_refl _)
  generalize hT1 : (T.setVm vm₁).pushCell { cls := cX, slots := kX.instanceTypes.map defaultValue, vm := .none } = T1 at X₁ st1
  have hcat : (Value.ref T.heap.size).category = 1 := rfl
  have hcellA : T1.heap[T.heap.size]? = some (freshCell cX kX) := by rw [← hT1]; exact State.heap_pushCell_size _ _
  have d3' : decode c.code (pc + 3) = .ok (.dup, 1) := by rw [hb]; exact d3
  have d4' : decode c.code (pc + 4) = .ok (.ldc_w is, 3) := by rw [hb]; exact d4
  have hstr' : vk_R own is text sa s' := vk_R.warm hW0 hstr
  obtain ⟨U, hsteps, hrun, hend, hW, hsame, ce, hce, hO⟩ := X₁.ctorThrowS hexec htr (own := own) (cls := cls) (names := names) (ic := ic) hown' hcls hnames h (fun x hx => nomatch hx) hfX hkX hcellA (by rw [hhp, hT]; exact Nat.le_refl _) (msg := .ref sa) rfl
    (g := { method := m, pc := pc + 7, locals := ls, stack := .ref sa :: .ref T.heap.size :: .ref T.heap.size :: rest, locked := none }) rfl hsize rfl rfl (rest := rest) rfl
    (by rw [hb]; exact d7) (by rw [hb]; exact d10) hout hRframes (by simp only [List.map_cons, List.sum_cons, hcat]; omega) hlocks
  obtain ⟨f1, f2⟩ := vx_frame hsame
  rw [hhp] at f1 f2
  have hWs : s.WarmedH U.vm := State.WarmedH.trans hW0 hW
  have hcl : s.vm.findClass cls = some ce.cls := by
    have h9 := hO.cls
    rw [hvm] at h9
    exact h9
  have hall : s.sameButNew ({ U with vm := s.vm } : State) locs mc ms := by
    subst hA
    obtain ⟨e1, e2⟩ := hsame
    rw [State.setFrames_setFrames] at e1
    have h2 : (T.setVm s.vm).sameButNew ({ U with vm := s.vm } : State) [] (0 + 1) (0 + 6) := ⟨e1, e2⟩
    have h3 := X.same.trans h2
    rw [List.append_nil] at h3
    exact h3.mono hc hs
  refine ⟨U, ?_, .threw T.heap.size, hrun, hend, Or.inr ⟨T.heap.size, rfl, cls, ce, locs, hx U hWs.alike f1 (fun q hq => f2 q hq (fun z hz => nomatch hz)), hce, hO.vm, hcl, hWs, hall, hf⟩⟩
  refine st1 _ ?_
  show Steps p.tables e below (T1.setTop { method := m, pc := pc + 3, locals := ls, stack := .ref T.heap.size :: rest, locked := none }) _
  jvm_step X₁.here [X₁.here.top, hexec, d3', Value.category]
  exact X₁.ldcStringW hexec (own := own) (text := text) (index := is) (a := sa) hown' hstr'.1 hstr'.2
    (g := { method := m, pc := pc + 4, locals := ls, stack := .ref T.heap.size :: .ref T.heap.size :: rest, locked := none }) rfl d4' _ hsteps
end Ends
section Bodies
variable {l : Launch}
theorem vx_ofW {y : MethodName} {ws ws' : List Cond} {rm : Room} {Pc : Array Value → State → Prop} {Qc : Array Value → State → Outcome → State → Prop} {XC : String → State → State → Prop} {mc ms : Nat} {free : Addr → Prop} {cc : ByteArray} {maxL : Nat} {ret : Option FieldType}
    (hy : plainName y.cls = true) (hw : ws = Cond.code y cc maxL ret :: ws')
    (body : ∀ p e s m args below meth c s₁, BodyLoose p l y (headSpec ws rm) cc maxL ret e s m args below meth c s₁ → c.maxLocals = maxL → (∀ x ∈ c.exceptionTable.toList, False) → Pc args s →
      W p l e (headSpec ws rm).room s m args below meth c s.heap [] 0 0 (vx_MQ below Qc XC args s mc ms free) (entryFrame m args maxL)) : vx_Met l y ws rm Pc Qc XC mc ms free := by
  refine MetFree.of_bodyS (code := cc) (maxLocals := maxL) (ret := ret) hy ?_ ?_
  · intro args s m h hn
    obtain ⟨meth, c, h1, h2, h3, h4, h5, h6, -, -⟩ := Cond.code_spec hn (atoms_spec (ws := ws) h _ (by rw [hw]; exact List.mem_cons_self))
    exact ⟨meth, c, h1, h2, h3, h4, h5, h6⟩
  · intro p e s m args below meth c s₁ B hml hP _
    have hh0 : s₁.heap = s.heap := by rw [B.state]; rfl
    have ht : ∀ x ∈ c.exceptionTable.toList, False := by
      obtain ⟨meth9, c9, h1, h2, -, -, -, -, h7, -⟩ := Cond.code_spec B.named (atoms_spec (ws := ws) B.pre _ (by rw [hw]; exact List.mem_cons_self))
      cases Option.some.inj (h1.symm.trans B.method)
      cases Option.some.inj (h2.symm.trans (Stand.of_body B).code)
      intro x hx
      rw [Array.isEmpty_iff.mp h7] at hx
      cases hx
    obtain ⟨t, a1, o, b1, b2, b3⟩ := body p e s m args below meth c s₁ B hml ht hP s₁ hh0 (Stand.of_body B)
    exact ⟨t, o, a1, b1, b2, b3⟩
/-- the table of a body with handlers -/
theorem vx_table {p : Program} {x y : MethodName} {S : Spec} {cc bytes : ByteArray} {maxL maxL' : Nat} {ret ret' : Option FieldType} {e : Env} {s s₁ : State} {m : MethodId} {args : Array Value} {below : List Frame} {meth : Method} {c : Code} {hh : List (Nat × Nat × Nat × Nat)}
    (B : BodyLoose p l y S cc maxL ret e s m args below meth c s₁) (h : (Cond.codeWith y bytes maxL' ret' hh).before args s = true) : c.exceptionTable.toList = tableOf hh := by
  obtain ⟨m9, meth9, c9, hn9, h1, h2, -, -, h6, -⟩ := Cond.codeWith_spec h
  cases Option.some.inj (hn9.symm.trans B.named)
  cases Option.some.inj (h1.symm.trans B.method)
  cases Option.some.inj (h2.symm.trans (Stand.of_body B).code)
  rw [← h6, table_eq]
end Bodies
end VXA
/-! ===== END ===== -/
/-! ===== BEGIN a static call of a method with an exception table ===== -/
section VXS
variable {p : Program} {l : Launch} {e : Env} {R : Room} {s : State} {m : MethodId} {args : Array Value} {below : List Frame} {meth : Method} {c : Code} {T : State} {H : Heap} {locs : List Loc} {cells slots : Nat}
abbrev vx_CSW (R : Room) (s : State) (args : Array Value) (own : String) (index : Nat) (y : MethodName) (bytes : ByteArray) (maxL : Nat) (ret : Option FieldType) (hh : List (Nat × Nat × Nat × Nat)) (ws : List Cond) (rm : Room) (mc ms n : Nat) : Prop :=
  (rm.cells = mc ∧ rm.slots = ms ∧ rm.frames + 1 ≤ R.frames ∧ 8 + (maxL + 11) + rm.locals ≤ R.locals ∧ (∀ w ∈ ws, ∀ (a' : Array Value) (U : State), s.WarmedH U.vm → w.before a' U = true) ∧ Cond.codeWith y bytes maxL ret hh ∈ ws) ∧
  (Cond.codeWith y bytes maxL ret hh).before args s = true ∧ (Cond.initialized y.cls).before args s = true ∧ (y.cls ≠ "java/lang/invoke/MethodHandle" ∧ y.cls ≠ "java/lang/invoke/VarHandle") ∧
  (∀ sig, parseMethodDescriptor y.desc = some sig → n = sig.parameters.length) ∧ (Cond.methodLink own index y).before args s = true ∧ (Cond.static y).before args s = true
theorem vx_cwSW {own : String} {index maxL mc ms : Nat} {y : MethodName} {bytes : ByteArray} {ret : Option FieldType} {hh : List (Nat × Nat × Nat × Nat)} {Ts ws ws' : List Cond} {rm : Room} (n : Nat) (ht : ∀ w ∈ Ts, w.before args s = true) (hT : GoodIn Ts (va_wsS own index y ws)) (hw : ws = Cond.codeWith y bytes maxL ret hh :: ws') (hrc : rm.cells = mc) (hrs : rm.slots = ms)
    (hd : y.cls ≠ "java/lang/invoke/MethodHandle" ∧ y.cls ≠ "java/lang/invoke/VarHandle" ∧ (parseMethodDescriptor y.desc).map (fun d => d.parameters.length) = some n) (hR : rm.frames + 1 ≤ R.frames ∧ 8 + (maxL + 11) + rm.locals ≤ R.locals) :
    vx_CSW R s args own index y bytes maxL ret hh ws rm mc ms n := by
  have ok : ∀ w ∈ va_wsS own index y ws, w.before args s = true := fun w h => ht w (hT w h).1
  have hG : GoodIn Ts ws := fun w h => hT w (by unfold va_wsS; exact List.mem_append_right _ h)
  have hc : Cond.codeWith y bytes maxL ret hh ∈ ws := by rw [hw]; exact List.mem_cons_self
  refine ⟨⟨hrc, hrs, hR.1, hR.2, pay_in ht hG, hc⟩, ht _ (hG _ hc).1, ok _ (by simp [va_wsS]), ⟨hd.1, hd.2.1⟩, fun sig h => ?_, ok _ (by simp [va_wsS]), ok _ (by simp [va_wsS])⟩
  have h2 := hd.2.2
  rw [h] at h2
  exact (Option.some.inj h2).symm
theorem vx_callSW (X : Stand p l e R s m args below meth c T locs cells slots) (hexec : p.tables.exec = Jvm.exec) {own : String} {index : Nat} {y : MethodName} {bytes : ByteArray} {maxL : Nat} {ret : Option FieldType} {hh : List (Nat × Nat × Nat × Nat)}
    (hown : s.vm.findClass own = some m.cls) (hlink : (Cond.methodLink own index y).before args s = true) (hstat : (Cond.static y).before args s = true) (hinit : (Cond.initialized y.cls).before args s = true)
    (hcode : (Cond.codeWith y bytes maxL ret hh).before args s = true) (hy : y.cls ≠ "java/lang/invoke/MethodHandle" ∧ y.cls ≠ "java/lang/invoke/VarHandle")
    {W9 : Nat} {Pre : Pt → Array Value → Prop} {Post : Pt → Array Value → Option Value → Pt → Prop} (hK : Back l R p e below s args y 3 W9 Pre Post)
    {g : JFrame} (hg : g.method = m) (hsize : g.locals.size = c.maxLocals) {argsL rest : List Value} (hlen : ∀ sig, parseMethodDescriptor y.desc = some sig → argsL.length = sig.parameters.length)
    (hstack : g.stack = argsL.reverse ++ rest) (hW : 2 * g.monitorRoom + (rest.map fun v => v.category).sum ≤ W9) (hdg : decode c.code g.pc = .ok (.invokestatic index, 3))
    (hpre : ∀ vm₁, s.WarmedH vm₁ → Pre ⟨T.setVm vm₁, locs, cells, slots⟩ argsL.toArray) :
    ∃ (v : Option Value) (vm₁ : Vm) (B : Pt), s.WarmedH vm₁ ∧ Stand p l e R s m args below meth c B.U B.locs B.cells B.slots ∧ Post ⟨T.setVm vm₁, locs, cells, slots⟩ argsL.toArray v B ∧
      ∀ target, Steps p.tables e below (B.U.setTop { g with pc := g.pc + 3, stack := v.toList ++ rest }) target → Steps p.tables e below (T.setTop g) target := by
  obtain ⟨mk, methM, cM, hnamed, hmethM, -, -, -, -, -, -, hsigM⟩ := Cond.codeWith_spec hcode
  have hstatic : methM.isStatic = true := Cond.static_spec hnamed hmethM hstat
  obtain ⟨kP, hkP, -⟩ := className_of_methodNamed hnamed
  have hinitP : kP.init = .initialized := Cond.initialized_spec (findClass_of_methodNamed hnamed) hkP hinit
  obtain ⟨vm₁, X₁, hstep₁⟩ := X.invokestatic hexec hown hlink hnamed hmethM hstatic hkP hinitP hy (g := g) hg (argsL := argsL) (rest := rest) (hlen _ hsigM) hstack hdg
  obtain ⟨v, B, X', hpost, hsteps⟩ := hK m meth c ⟨T.setVm vm₁, locs, cells, slots⟩ { g with stack := rest } (.invokestatic index) mk argsL.toArray X₁ hg hsize hdg hW (X₁.named hnamed) (hpre vm₁ X₁.warmed)
  exact ⟨v, vm₁, B, X₁.warmed, X', hpost, fun target h => hstep₁ _ fun acts => by rw [doInvoke_state]; exact hsteps.trans h⟩
theorem vx_runSW {y : MethodName} {bytes cc : ByteArray} {maxL nL mc ms n index : Nat} {ret : Option FieldType} {hh : List (Nat × Nat × Nat × Nat)} {ws : List Cond} {rm : Room} {Pc : Array Value → State → Prop} {Qc : Array Value → State → Outcome → State → Prop} {free : Addr → Prop} {Ts : List Cond} {own : String} {As rest : List Value} {g : JFrame}
    (S : CallFix p m c cc nL s args Ts own) (hM : Met l y ws rm Pc Qc mc ms free) (cw : vx_CSW R s args own index y bytes maxL ret hh ws rm mc ms n) (hp : PreS s H Pc As)
    (hg : g.method = m) (hn : As.length = n) (hsize : g.locals.size = nL) (hstack : g.stack = As.reverse ++ rest) (hW : 2 * g.monitorRoom + (rest.map fun v => v.category).sum ≤ 8) (hdg : decode cc g.pc = .ok (.invokestatic index, 3)) (hf : cells + mc ≤ R.cells ∧ slots + ms ≤ R.slots) :
    va_Run p l e R s m args below meth c H locs cells slots mc ms g rest (Qc As.toArray) (free) := by
  obtain ⟨⟨hrc, hrs, hfr, hlo, hws, hcw⟩, hcode, hini, hy, hlen, hl, hstt⟩ := cw
  have hK : Back l R p e below s args y 3 8 (PreOf R mc ms Pc) (PostOf Qc mc ms free) := va_backW (hh := hh) (bytes := bytes) (maxL := maxL) (ret := ret) hM hp.1 hrc hrs hfr hlo hws hcw (fun a' U hW => word_at hW (Or.inl (by first | rfl | simp [Cond.onTables, Cond.keeps, Cond.steady])) hini)
  obtain ⟨hx, hb, hml, ho, -⟩ := S
  intro T hT X
  obtain ⟨v, vm₁, ⟨U', l2, c2, s2⟩, hW₁, X', ⟨g', mk, t, L, e1, e2, hq, h1, hL, h2, h3⟩, st⟩ := vx_callSW X hx (hh := hh) (bytes := bytes) (maxL := maxL) (ret := ret) ho hl hstt hini hcode hy hK hg (hsize.trans hml.symm) (argsL := As) (rest := rest) (fun sig h => hn.trans (hlen sig h)) hstack hW (by rw [hb]; exact hdg)
    (fun vm₁ hW₁ => ⟨hf.1, hf.2, hp.2 (T.setVm vm₁) hT hW₁⟩)
  dsimp only [Pt.U, Pt.locs, Pt.cells, Pt.slots] at X' e1 e2 h1 h2 h3 st
  subst h1; subst h2; subst h3
  exact ⟨v, (T.setVm vm₁).calling g' mk As.toArray, t, U', L, hT, X', hL, e1, e2, hq, st⟩
/-- a thing of a world lies in the heap -/
theorem vx_lt {D : va_G} {cl : List vw_C} {ws : va_W} {H1 : Heap} (h : va_P D cl ws H1) {k : Nat} {q : Nat × va_E} (hk : ws[k]? = some q) : q.1 < H1.size := (h k q hk).lt
end VXS
/-! ===== END ===== -/
/-! ===== BEGIN methods with a table of their own: called by a name, returning or throwing ===== -/
section VXH
/-! vx_backW, vx_callVX, vx_callSX, vx_callVW, vx_runVW, vx_runVX, vx_runSX, vx_ofWH follow the same proofs as their sisters above (Free/Laws.lean, Shelf42/LK1.lean); vx_outP calls Shelf42/NT130.lean (outThrough). -/
section
variable {l : Launch} {R : Room} {p : Program} {e : Env} {below : List Frame} {s : State} {sargs : Array Value} {y : MethodName} {len W9 : Nat}
theorem vx_backW {ws : List Cond} {rm : Room} {Pc : Array Value → State → Prop} {Qc : Array Value → State → Outcome → State → Prop} {XC : String → State → State → Prop} {mc ms : Nat} {free : Addr → Prop} {bytes : ByteArray} {maxL : Nat} {ret : Option FieldType} {hh : List (Nat × Nat × Nat × Nat)}
    (hM : vx_Met l y ws rm Pc Qc XC mc ms free) (hblind : FrameBlind Pc) (hrc : rm.cells = mc) (hrs : rm.slots = ms)
    (hframes : rm.frames + 1 ≤ R.frames) (hlocals : W9 + (maxL + 11) + rm.locals ≤ R.locals)
    (hws : ∀ w ∈ ws, ∀ a' U, s.WarmedH U.vm → w.before a' U = true) (hcode : Cond.codeWith y bytes maxL ret hh ∈ ws) (hinit : ∀ a' U, s.WarmedH U.vm → (Cond.initialized y.cls).before a' U = true) :
    vx_Back l R p e below s sargs y len W9 (PreOf R mc ms Pc) (PostOf Qc mc ms free) (vx_Post XC mc ms free) := by
  intro m meth c A g ig mk a X hg hsize hdg hW hn hp
  have h1 : (headSpec ws rm).pre.before a A.U = true := atoms_intro fun w hw => hws w hw _ _ X.warmed
  have h2 : (Cond.codeWith y bytes maxL ret hh).before a A.U = true := hws _ hcode _ _ X.warmed
  have h3 : (Cond.initialized y.cls).before a A.U = true := hinit _ _ X.warmed
  have h4 : A.cells + (headSpec ws rm).room.cells ≤ R.cells := by rw [show (headSpec ws rm).room.cells = mc from hrc]; exact hp.1
  have h5 : A.slots + (headSpec ws rm).room.slots ≤ R.slots := by rw [show (headSpec ws rm).room.slots = ms from hrs]; exact hp.2.1
  have hPc : Pc a (A.U.calling g mk a) := hblind _ _ _ _ hp.2.2
  obtain ⟨U, Ls, c0, s0⟩ := A
  dsimp only [Pt.U, Pt.locs, Pt.cells, Pt.slots] at h1 h2 h3 h4 h5 X hn hPc ⊢
  obtain ⟨m9, methY, cY, hn9, hmY, hcY, -, hlY, -⟩ := Cond.codeWith_spec h2
  cases Option.some.inj (hn9.symm.trans hn)
  obtain ⟨kY, hkY, -⟩ := className_of_methodNamed hn
  have hinitY : kY.init = .initialized := Cond.initialized_spec (findClass_of_methodNamed hn) hkY h3
  have h : At U g.method c below := by rw [hg]; exact X.here
  have hlocals9 : W9 + (maxL + 11) + (headSpec ws rm).room.locals ≤ R.locals := hlocals
  have happ : (headSpec ws rm).appliesLoose y e.platform (U.calling g mk a) = true :=
    Spec.appliesLoose_calling (g := g) h hdg hn hkY hinitY
      (X.room_calling (g := g) (R' := (headSpec ws rm).room) hsize hmY hcY hframes (by rw [hlY]; omega) h4 h5) h1
  obtain ⟨mid, hmid⟩ := h.above
  have hfr : (U.setTop g).frames = (.java g :: mid) ++ below := by rw [State.frames_setTop' g h.top, hmid]; rfl
  obtain ⟨o, s₂, hsteps, -, hend, hq⟩ := Steps.callFree hM p X.admits X.cas X.clock (acts := []) hfr happ hPc trivial
  have hq' : vx_Q Qc XC mc ms free a (U.calling g mk a) o s₂ := hq
  rw [State.frames_setTop' g h.top] at hend
  obtain ⟨g₀, hg0⟩ := Option.isSome_iff_exists.mp h.top
  obtain ⟨r, hr⟩ := State.topJava?_eq_some.mp hg0
  have hr' : (({ U with heap := s₂.heap, slotsUsed := s₂.slotsUsed } : State).setVm s₂.vm).frames = .java g₀ :: r := hr
  rcases hq' with ⟨hqc, L, hfe, hL⟩ | ⟨q, rfl, E, ce, L, hx, hce, hcv, hcl, hW₂, hsm, hL⟩
  · obtain ⟨⟨v, rfl⟩, hW₂, e2, q2, q3, q4, q5, q6⟩ := id hfe
    have e3 : s₂ = ({ (U.calling g mk a).setFrames s₂.frames with heap := s₂.heap, slotsUsed := s₂.slotsUsed } : State).setVm s₂.vm := by
      have : s₂ = ({ s₂ with vm := (U.calling g mk a).vm } : State).setVm s₂.vm := rfl
      rw [e2] at this
      exact this
    obtain ⟨c₂, i₂, len₂, hc₂, hd₂, hf₂⟩ := hend
    have hW' : U.WarmedH s₂.vm := hW₂
    have hcc : c₂ = c := by
      have h1 : s₂.code? g.method = U.code? g.method := by
        rw [State.code?_eq, State.code?_eq, hW'.alike.method?]
      exact Option.some.inj (hc₂.symm.trans (h1.trans h.code))
    subst hcc
    have hlen : len₂ = len := by rw [hdg] at hd₂; cases hd₂; rfl
    subst hlen
    have hs₂ : s₂ = (({ U with heap := s₂.heap, slotsUsed := s₂.slotsUsed } : State).setVm s₂.vm).setTop { g with pc := g.pc + len₂, stack := v.toList ++ g.stack } := by
      refine e3.trans ?_
      rw [hf₂, State.calling_eq h.top, State.setFrames_setFrames, State.setTop_of_frames _ hr', hr]
      rfl
    have hsame : U.sameButNew ({ U with heap := s₂.heap, slotsUsed := s₂.slotsUsed } : State) L mc ms := by
      refine ⟨?_, q2, q3, q4, q5, q6⟩
      obtain ⟨t, ht, -⟩ := State.frames_cons hr
      show ({ U with heap := s₂.heap, slotsUsed := s₂.slotsUsed } : State) = { U.setFrames U.frames with heap := s₂.heap, slotsUsed := s₂.slotsUsed }
      rw [State.setFrames_self ht]
    subst hg
    refine Or.inl ⟨v, ⟨(({ U with heap := s₂.heap, slotsUsed := s₂.slotsUsed } : State).setVm s₂.vm), Ls ++ L, c0 + mc, s0 + ms⟩,
      ⟨X.admits, X.cas, X.clock, X.frames, X.room, X.hears, X.method, X.code, (X.here.setHeapUsed s₂.heap s₂.slotsUsed).setVm hW'.alike, X.tail, State.WarmedH.trans X.warmed hW', X.limits, X.bytes, X.same.trans (hsame.setVm s.vm)⟩,
      ⟨g, mk, s₂, L, rfl, rfl, hqc, rfl, hL, rfl, rfl⟩, ?_⟩
    show Steps p.tables e below _ ((({ U with heap := s₂.heap, slotsUsed := s₂.slotsUsed } : State).setVm s₂.vm).setTop { g with pc := g.pc + len₂, stack := v.toList ++ g.stack })
    rw [← hs₂]
    exact hsteps
  · obtain ⟨e2, q2, q3, q4, q5, q6⟩ := id hsm
    have e3 : s₂ = ({ (U.calling g mk a).setFrames s₂.frames with heap := s₂.heap, slotsUsed := s₂.slotsUsed } : State).setVm s₂.vm := by
      have : s₂ = ({ s₂ with vm := (U.calling g mk a).vm } : State).setVm s₂.vm := rfl
      rw [e2] at this
      exact this
    have hf₂ : s₂.frames = .throwing q :: .java g :: U.frames.tail := hend
    have hW' : U.WarmedH s₂.vm := hW₂
    have hs₂ : s₂ = ((({ U with heap := s₂.heap, slotsUsed := s₂.slotsUsed } : State).setVm s₂.vm).setTop g).pushFrame (.throwing q) := by
      refine e3.trans ?_
      rw [hf₂, State.calling_eq h.top, State.setFrames_setFrames, State.pushFrame, State.frames_setTop _ hr', State.setTop_of_frames _ hr', State.setFrames_setFrames, hr]
      rfl
    have hsame : U.sameButNew ({ U with heap := s₂.heap, slotsUsed := s₂.slotsUsed } : State) L mc ms := by
      refine ⟨?_, q2, q3, q4, q5, q6⟩
      obtain ⟨t, ht, -⟩ := State.frames_cons hr
      show ({ U with heap := s₂.heap, slotsUsed := s₂.slotsUsed } : State) = { U.setFrames U.frames with heap := s₂.heap, slotsUsed := s₂.slotsUsed }
      rw [State.setFrames_self ht]
    subst hg
    refine Or.inr ⟨q, ⟨(({ U with heap := s₂.heap, slotsUsed := s₂.slotsUsed } : State).setVm s₂.vm), Ls ++ L, c0 + mc, s0 + ms⟩,
      ⟨X.admits, X.cas, X.clock, X.frames, X.room, X.hears, X.method, X.code, (X.here.setHeapUsed s₂.heap s₂.slotsUsed).setVm hW'.alike, X.tail, State.WarmedH.trans X.warmed hW', X.limits, X.bytes, X.same.trans (hsame.setVm s.vm)⟩,
      ⟨g, mk, s₂, L, E, ce, rfl, rfl, hx, hce, hcv, hcl, rfl, hL, rfl, rfl⟩, ?_⟩
    show Steps p.tables e below _ (((({ U with heap := s₂.heap, slotsUsed := s₂.slotsUsed } : State).setVm s₂.vm).setTop g).pushFrame (.throwing q))
    rw [← hs₂]
    exact hsteps
end
variable {p : Program} {l : Launch} {e : Env} {R : Room} {s : State} {m : MethodId} {args : Array Value} {below : List Frame} {meth : Method} {c : Code} {T : State} {H : Heap} {locs : List Loc} {cells slots : Nat}
theorem vx_callVX (X : Stand p l e R s m args below meth c T locs cells slots) (hexec : p.tables.exec = Jvm.exec) {own C : String} {index : Nat} {y : MethodName} {bytes : ByteArray} {maxL : Nat} {ret : Option FieldType} {hh : List (Nat × Nat × Nat × Nat)}
    (hown : s.vm.findClass own = some m.cls) (hlink : (Cond.methodLink own index y).before args s = true) (hinst : (Cond.instanceMethod y).before args s = true) (hsel : (Cond.selects C y y).before args s = true)
    (hcode : (Cond.codeWith y bytes maxL ret hh).before args s = true) (hy : y.cls ≠ "java/lang/invoke/MethodHandle" ∧ y.cls ≠ "java/lang/invoke/VarHandle")
    {W9 : Nat} {Pre : Pt → Array Value → Prop} {Post : Pt → Array Value → Option Value → Pt → Prop} {PostX : Pt → Array Value → Addr → Pt → Prop} (hK : vx_Back l R p e below s args y 3 W9 Pre Post PostX)
    {b : Addr} {cellB : Cell} (hcell : T.heap[b]? = some cellB) (hobj : cellB.vm.isStatics = false) (hcls : s.vm.findClass C = some cellB.cls)
    {g : JFrame} (hg : g.method = m) (hsize : g.locals.size = c.maxLocals) {argsL rest : List Value} (hlen : ∀ sig, parseMethodDescriptor y.desc = some sig → argsL.length = sig.parameters.length)
    (hstack : g.stack = argsL.reverse ++ .ref b :: rest) (hW : 2 * g.monitorRoom + (rest.map fun v => v.category).sum ≤ W9) (hdg : decode c.code g.pc = .ok (.invokevirtual index, 3))
    (hpre : ∀ vm₁, s.WarmedH vm₁ → Pre ⟨T.setVm vm₁, locs, cells, slots⟩ (Value.ref b :: argsL).toArray) :
    (∃ (v : Option Value) (vm₁ : Vm) (B : Pt), s.WarmedH vm₁ ∧ Stand p l e R s m args below meth c B.U B.locs B.cells B.slots ∧ Post ⟨T.setVm vm₁, locs, cells, slots⟩ (Value.ref b :: argsL).toArray v B ∧
      ∀ target, Steps p.tables e below (B.U.setTop { g with pc := g.pc + 3, stack := v.toList ++ rest }) target → Steps p.tables e below (T.setTop g) target) ∨
    (∃ (q : Addr) (vm₁ : Vm) (B : Pt), s.WarmedH vm₁ ∧ Stand p l e R s m args below meth c B.U B.locs B.cells B.slots ∧ PostX ⟨T.setVm vm₁, locs, cells, slots⟩ (Value.ref b :: argsL).toArray q B ∧
      Steps p.tables e below (T.setTop g) ((B.U.setTop { g with stack := rest }).pushFrame (.throwing q))) := by
  obtain ⟨mk, methM, hnamed, hmethM, hstM, habM⟩ := Cond.instanceMethod_spec hinst
  obtain ⟨m8, methM', cM, hn8, hmethM', -, -, -, -, -, -, hsigM⟩ := Cond.codeWith_spec hcode
  cases Option.some.inj (hn8.symm.trans hnamed)
  cases hmethM.symm.trans hmethM'
  obtain ⟨c2, r2, m2, q1, q2, q3, q4, kP, hkP, hkPi⟩ := Cond.selects_spec hsel
  cases hcls.symm.trans q1
  cases (State.methodFound?_of_named hnamed hy).symm.trans q2
  cases hnamed.symm.trans q3
  have hselP : selectMethod e.platform s.vm cellB.cls mk = .method mk := by rw [Launch.admits_selectMethod X.admits]; exact q4
  obtain ⟨vm₁, X₁, hstep₁⟩ := X.invokevirtual hexec hown hlink hnamed hmethM hstM hkP hkPi hy (a := b) (cell := cellB) hcell
    (fun z h => by rw [h] at hobj; cases hobj) hselP hmethM habM hkP hkPi (g := g) hg (argsL := argsL) (rest := rest) (hlen _ hsigM) hstack hdg
  rcases hK m meth c ⟨T.setVm vm₁, locs, cells, slots⟩ { g with stack := rest } (.invokevirtual index) mk (Value.ref b :: argsL).toArray X₁ hg hsize hdg hW (X₁.named hnamed) (hpre vm₁ X₁.warmed) with ⟨v, B, X', hpost, hsteps⟩ | ⟨q, B, X', hpost, hsteps⟩
  · exact Or.inl ⟨v, vm₁, B, X₁.warmed, X', hpost, fun target h => hstep₁ _ fun acts => by rw [doInvoke_state]; exact hsteps.trans h⟩
  · exact Or.inr ⟨q, vm₁, B, X₁.warmed, X', hpost, hstep₁ _ fun acts => by rw [doInvoke_state]; exact hsteps⟩
theorem vx_callSX (X : Stand p l e R s m args below meth c T locs cells slots) (hexec : p.tables.exec = Jvm.exec) {own : String} {index : Nat} {y : MethodName} {bytes : ByteArray} {maxL : Nat} {ret : Option FieldType} {hh : List (Nat × Nat × Nat × Nat)}
    (hown : s.vm.findClass own = some m.cls) (hlink : (Cond.methodLink own index y).before args s = true) (hstat : (Cond.static y).before args s = true) (hinit : (Cond.initialized y.cls).before args s = true)
    (hcode : (Cond.codeWith y bytes maxL ret hh).before args s = true) (hy : y.cls ≠ "java/lang/invoke/MethodHandle" ∧ y.cls ≠ "java/lang/invoke/VarHandle")
    {W9 : Nat} {Pre : Pt → Array Value → Prop} {Post : Pt → Array Value → Option Value → Pt → Prop} {PostX : Pt → Array Value → Addr → Pt → Prop} (hK : vx_Back l R p e below s args y 3 W9 Pre Post PostX)
    {g : JFrame} (hg : g.method = m) (hsize : g.locals.size = c.maxLocals) {argsL rest : List Value} (hlen : ∀ sig, parseMethodDescriptor y.desc = some sig → argsL.length = sig.parameters.length)
    (hstack : g.stack = argsL.reverse ++ rest) (hW : 2 * g.monitorRoom + (rest.map fun v => v.category).sum ≤ W9) (hdg : decode c.code g.pc = .ok (.invokestatic index, 3))
    (hpre : ∀ vm₁, s.WarmedH vm₁ → Pre ⟨T.setVm vm₁, locs, cells, slots⟩ argsL.toArray) :
    (∃ (v : Option Value) (vm₁ : Vm) (B : Pt), s.WarmedH vm₁ ∧ Stand p l e R s m args below meth c B.U B.locs B.cells B.slots ∧ Post ⟨T.setVm vm₁, locs, cells, slots⟩ argsL.toArray v B ∧
      ∀ target, Steps p.tables e below (B.U.setTop { g with pc := g.pc + 3, stack := v.toList ++ rest }) target → Steps p.tables e below (T.setTop g) target) ∨
    (∃ (q : Addr) (vm₁ : Vm) (B : Pt), s.WarmedH vm₁ ∧ Stand p l e R s m args below meth c B.U B.locs B.cells B.slots ∧ PostX ⟨T.setVm vm₁, locs, cells, slots⟩ argsL.toArray q B ∧
      Steps p.tables e below (T.setTop g) ((B.U.setTop { g with stack := rest }).pushFrame (.throwing q))) := by
  obtain ⟨mk, methM, cM, hnamed, hmethM, -, -, -, -, -, -, hsigM⟩ := Cond.codeWith_spec hcode
  have hstatic : methM.isStatic = true := Cond.static_spec hnamed hmethM hstat
  obtain ⟨kP, hkP, -⟩ := className_of_methodNamed hnamed
  have hinitP : kP.init = .initialized := Cond.initialized_spec (findClass_of_methodNamed hnamed) hkP hinit
  obtain ⟨vm₁, X₁, hstep₁⟩ := X.invokestatic hexec hown hlink hnamed hmethM hstatic hkP hinitP hy (g := g) hg (argsL := argsL) (rest := rest) (hlen _ hsigM) hstack hdg
  rcases hK m meth c ⟨T.setVm vm₁, locs, cells, slots⟩ { g with stack := rest } (.invokestatic index) mk argsL.toArray X₁ hg hsize hdg hW (X₁.named hnamed) (hpre vm₁ X₁.warmed) with ⟨v, B, X', hpost, hsteps⟩ | ⟨q, B, X', hpost, hsteps⟩
  · exact Or.inl ⟨v, vm₁, B, X₁.warmed, X', hpost, fun target h => hstep₁ _ fun acts => by rw [doInvoke_state]; exact hsteps.trans h⟩
  · exact Or.inr ⟨q, vm₁, B, X₁.warmed, X', hpost, hstep₁ _ fun acts => by rw [doInvoke_state]; exact hsteps⟩
theorem vx_callVW (X : Stand p l e R s m args below meth c T locs cells slots) (hexec : p.tables.exec = Jvm.exec) {own C : String} {index : Nat} {y : MethodName} {bytes : ByteArray} {maxL : Nat} {ret : Option FieldType} {hh : List (Nat × Nat × Nat × Nat)}
    (hown : s.vm.findClass own = some m.cls) (hlink : (Cond.methodLink own index y).before args s = true) (hinst : (Cond.instanceMethod y).before args s = true) (hsel : (Cond.selects C y y).before args s = true)
    (hcode : (Cond.codeWith y bytes maxL ret hh).before args s = true) (hy : y.cls ≠ "java/lang/invoke/MethodHandle" ∧ y.cls ≠ "java/lang/invoke/VarHandle")
    {W9 : Nat} {Pre : Pt → Array Value → Prop} {Post : Pt → Array Value → Option Value → Pt → Prop} (hK : Back l R p e below s args y 3 W9 Pre Post)
    {b : Addr} {cellB : Cell} (hcell : T.heap[b]? = some cellB) (hobj : cellB.vm.isStatics = false) (hcls : s.vm.findClass C = some cellB.cls)
    {g : JFrame} (hg : g.method = m) (hsize : g.locals.size = c.maxLocals) {argsL rest : List Value} (hlen : ∀ sig, parseMethodDescriptor y.desc = some sig → argsL.length = sig.parameters.length)
    (hstack : g.stack = argsL.reverse ++ .ref b :: rest) (hW : 2 * g.monitorRoom + (rest.map fun v => v.category).sum ≤ W9) (hdg : decode c.code g.pc = .ok (.invokevirtual index, 3))
    (hpre : ∀ vm₁, s.WarmedH vm₁ → Pre ⟨T.setVm vm₁, locs, cells, slots⟩ (Value.ref b :: argsL).toArray) :
    ∃ (v : Option Value) (vm₁ : Vm) (B : Pt), s.WarmedH vm₁ ∧ Stand p l e R s m args below meth c B.U B.locs B.cells B.slots ∧ Post ⟨T.setVm vm₁, locs, cells, slots⟩ (Value.ref b :: argsL).toArray v B ∧
      ∀ target, Steps p.tables e below (B.U.setTop { g with pc := g.pc + 3, stack := v.toList ++ rest }) target → Steps p.tables e below (T.setTop g) target := by
  obtain ⟨mk, methM, hnamed, hmethM, hstM, habM⟩ := Cond.instanceMethod_spec hinst
  obtain ⟨m8, methM', cM, hn8, hmethM', -, -, -, -, -, -, hsigM⟩ := Cond.codeWith_spec hcode
  cases Option.some.inj (hn8.symm.trans hnamed)
  cases hmethM.symm.trans hmethM'
  obtain ⟨c2, r2, m2, q1, q2, q3, q4, kP, hkP, hkPi⟩ := Cond.selects_spec hsel
  cases hcls.symm.trans q1
  cases (State.methodFound?_of_named hnamed hy).symm.trans q2
  cases hnamed.symm.trans q3
  have hselP : selectMethod e.platform s.vm cellB.cls mk = .method mk := by rw [Launch.admits_selectMethod X.admits]; exact q4
  obtain ⟨vm₁, X₁, hstep₁⟩ := X.invokevirtual hexec hown hlink hnamed hmethM hstM hkP hkPi hy (a := b) (cell := cellB) hcell
    (fun z h => by rw [h] at hobj; cases hobj) hselP hmethM habM hkP hkPi (g := g) hg (argsL := argsL) (rest := rest) (hlen _ hsigM) hstack hdg
  obtain ⟨v, B, X', hpost, hsteps⟩ := hK m meth c ⟨T.setVm vm₁, locs, cells, slots⟩ { g with stack := rest } (.invokevirtual index) mk (Value.ref b :: argsL).toArray X₁ hg hsize hdg hW (X₁.named hnamed) (hpre vm₁ X₁.warmed)
  exact ⟨v, vm₁, B, X₁.warmed, X', hpost, fun target h => hstep₁ _ fun acts => by rw [doInvoke_state]; exact hsteps.trans h⟩
abbrev vx_CVW (R : Room) (s : State) (args : Array Value) (own C : String) (index : Nat) (y : MethodName) (bytes : ByteArray) (maxL : Nat) (ret : Option FieldType) (hh : List (Nat × Nat × Nat × Nat)) (ws : List Cond) (rm : Room) (mc ms n : Nat) : Prop :=
  (rm.cells = mc ∧ rm.slots = ms ∧ rm.frames + 1 ≤ R.frames ∧ 8 + (maxL + 11) + rm.locals ≤ R.locals ∧ (∀ w ∈ ws, ∀ (a' : Array Value) (U : State), s.WarmedH U.vm → w.before a' U = true) ∧ Cond.codeWith y bytes maxL ret hh ∈ ws) ∧
  (Cond.codeWith y bytes maxL ret hh).before args s = true ∧ (Cond.initialized y.cls).before args s = true ∧ (y.cls ≠ "java/lang/invoke/MethodHandle" ∧ y.cls ≠ "java/lang/invoke/VarHandle") ∧
  (∀ sig, parseMethodDescriptor y.desc = some sig → n = sig.parameters.length) ∧ (Cond.methodLink own index y).before args s = true ∧ (Cond.instanceMethod y).before args s = true ∧ (Cond.selects C y y).before args s = true
theorem vx_cwVW {own C : String} {index maxL mc ms : Nat} {y : MethodName} {bytes : ByteArray} {ret : Option FieldType} {hh : List (Nat × Nat × Nat × Nat)} {Ts ws ws' : List Cond} {rm : Room} (n : Nat) (ht : ∀ w ∈ Ts, w.before args s = true) (hT : GoodIn Ts (wsV own index C y ws)) (hw : ws = Cond.codeWith y bytes maxL ret hh :: ws') (hrc : rm.cells = mc) (hrs : rm.slots = ms)
    (hd : y.cls = C ∧ y.cls ≠ "java/lang/invoke/MethodHandle" ∧ y.cls ≠ "java/lang/invoke/VarHandle" ∧ (parseMethodDescriptor y.desc).map (fun d => d.parameters.length) = some n) (hR : rm.frames + 1 ≤ R.frames ∧ 8 + (maxL + 11) + rm.locals ≤ R.locals) :
    vx_CVW R s args own C index y bytes maxL ret hh ws rm mc ms n := by
  obtain ⟨hC, hd⟩ := hd
  subst hC
  have ok : ∀ w ∈ wsV own index y.cls y ws, w.before args s = true := fun w h => ht w (hT w h).1
  have hG : GoodIn Ts ws := fun w h => hT w (by unfold wsV; exact List.mem_append_right _ h)
  have hc : Cond.codeWith y bytes maxL ret hh ∈ ws := by rw [hw]; exact List.mem_cons_self
  refine ⟨⟨hrc, hrs, hR.1, hR.2, pay_in ht hG, hc⟩, ht _ (hG _ hc).1, ok _ (by simp [wsV]), ⟨hd.1, hd.2.1⟩, fun sig h => ?_, ok _ (by simp [wsV]), ok _ (by simp [wsV]), ok _ (by simp [wsV])⟩
  have h2 := hd.2.2
  rw [h] at h2
  exact (Option.some.inj h2).symm
theorem vx_runVW {y : MethodName} {bytes cc : ByteArray} {maxL nL mc ms n index : Nat} {ret : Option FieldType} {hh : List (Nat × Nat × Nat × Nat)} {ws : List Cond} {rm : Room} {Pc : Array Value → State → Prop} {Qc : Array Value → State → Outcome → State → Prop} {free : Addr → Prop} {Ts : List Cond} {own C : String} {b : Addr} {As rest : List Value} {g : JFrame}
    (S : CallFix p m c cc nL s args Ts own) (hM : Met l y ws rm Pc Qc mc ms free) (cw : vx_CVW R s args own C index y bytes maxL ret hh ws rm mc ms n) (hp : PreV s H C b Pc As)
    (hg : g.method = m) (hn : As.length = n) (hsize : g.locals.size = nL) (hstack : g.stack = As.reverse ++ .ref b :: rest) (hW : 2 * g.monitorRoom + (rest.map fun v => v.category).sum ≤ 8) (hdg : decode cc g.pc = .ok (.invokevirtual index, 3)) (hf : cells + mc ≤ R.cells ∧ slots + ms ≤ R.slots) :
    va_Run p l e R s m args below meth c H locs cells slots mc ms g rest (Qc (Value.ref b :: As).toArray) free := by
  obtain ⟨⟨hrc, hrs, hfr, hlo, hws, hcw⟩, hcode, hini, hy, hlen, hl, hin, hse⟩ := cw
  have hK : Back l R p e below s args y 3 8 (PreOf R mc ms Pc) (PostOf Qc mc ms free) := va_backW (hh := hh) (bytes := bytes) (maxL := maxL) (ret := ret) hM hp.1 hrc hrs hfr hlo hws hcw (fun a' U hW => word_at hW (Or.inl (by first | rfl | simp [Cond.onTables, Cond.keeps, Cond.steady])) hini)
  obtain ⟨hx, hb, hml, ho, -⟩ := S
  obtain ⟨-, ⟨cellB, hcB, hoB, hclB⟩, hPc⟩ := hp
  intro T hT X
  obtain ⟨v, vm₁, ⟨U', l2, c2, s2⟩, hW₁, X', ⟨g', mk, t, L, e1, e2, hq, h1, hL, h2, h3⟩, st⟩ := vx_callVW X hx (C := C) (hh := hh) (bytes := bytes) (maxL := maxL) (ret := ret) ho hl hin hse hcode hy hK (by rw [hT]; exact hcB) hoB hclB hg (hsize.trans hml.symm) (argsL := As) (rest := rest) (fun sig h => hn.trans (hlen sig h)) hstack hW (by rw [hb]; exact hdg)
    (fun vm₁ hW₁ => ⟨hf.1, hf.2, hPc (T.setVm vm₁) hT hW₁⟩)
  dsimp only [Pt.U, Pt.locs, Pt.cells, Pt.slots] at X' e1 e2 h1 h2 h3 st
  subst h1; subst h2; subst h3
  exact ⟨v, (T.setVm vm₁).calling g' mk (Value.ref b :: As).toArray, t, U', L, hT, X', hL, e1, e2, hq, st⟩
section
variable {y : MethodName} {bytes cc : ByteArray} {maxL nL mc ms n index : Nat} {ret : Option FieldType} {ws : List Cond} {rm : Room} {Pc : Array Value → State → Prop} {Qc : Array Value → State → Outcome → State → Prop} {XC : String → State → State → Prop} {free : Addr → Prop} {Ts : List Cond} {own C : String} {b : Addr} {As rest : List Value} {g : JFrame}
theorem vx_runVX {hh : List (Nat × Nat × Nat × Nat)} (S : CallFix p m c cc nL s args Ts own) (hM : vx_Met l y ws rm Pc Qc XC mc ms free) (cw : vx_CVW R s args own C index y bytes maxL ret hh ws rm mc ms n) (hp : PreV s H C b Pc As)
    (hg : g.method = m) (hn : As.length = n) (hsize : g.locals.size = nL) (hstack : g.stack = As.reverse ++ .ref b :: rest) (hW : 2 * g.monitorRoom + (rest.map fun v => v.category).sum ≤ 8) (hdg : decode cc g.pc = .ok (.invokevirtual index, 3)) (hf : cells + mc ≤ R.cells ∧ slots + ms ≤ R.slots) :
    vx_Run p l e R s m args below meth c H locs cells slots mc ms g rest (Qc (Value.ref b :: As).toArray) XC free := by
  obtain ⟨⟨hrc, hrs, hfr, hlo, hws, hcw⟩, hcode, hini, hy, hlen, hl, hin, hse⟩ := cw
  have hK : vx_Back l R p e below s args y 3 8 (PreOf R mc ms Pc) (PostOf Qc mc ms free) (vx_Post XC mc ms free) := vx_backW (hh := hh) (bytes := bytes) (maxL := maxL) (ret := ret) hM hp.1 hrc hrs hfr hlo hws hcw (fun a' U hW => word_at hW (Or.inl (by first | rfl | simp [Cond.onTables, Cond.keeps, Cond.steady])) hini)
  obtain ⟨hx, hb, hml, ho, -⟩ := S
  obtain ⟨-, ⟨cellB, hcB, hoB, hclB⟩, hPc⟩ := hp
  intro T hT X
  rcases vx_callVX X hx (C := C) (hh := hh) (bytes := bytes) (maxL := maxL) (ret := ret) ho hl hin hse hcode hy hK (by rw [hT]; exact hcB) hoB hclB hg (hsize.trans hml.symm) (argsL := As) (rest := rest) (fun sig h => hn.trans (hlen sig h)) hstack hW (by rw [hb]; exact hdg)
    (fun vm₁ hW₁ => ⟨hf.1, hf.2, hPc (T.setVm vm₁) hT hW₁⟩) with ⟨v, vm₁, ⟨U', l2, c2, s2⟩, hW₁, X', ⟨g', mk, t, L, e1, e2, hq, h1, hL, h2, h3⟩, st⟩ | ⟨q, vm₁, ⟨U', l2, c2, s2⟩, hW₁, X', ⟨g', mk, t, L, E, ce, e1, e2, hq, hce, hcv, hcl, h1, hL, h2, h3⟩, st⟩
  · dsimp only [Pt.U, Pt.locs, Pt.cells, Pt.slots] at X' e1 e2 h1 h2 h3 st
    subst h1; subst h2; subst h3
    exact Or.inl ⟨v, (T.setVm vm₁).calling g' mk (Value.ref b :: As).toArray, t, U', L, hT, X', hL, e1, e2, hq, st⟩
  · dsimp only [Pt.U, Pt.locs, Pt.cells, Pt.slots] at X' e1 e2 h1 h2 h3 st hcl
    subst h1; subst h2; subst h3
    exact Or.inr ⟨q, (T.setVm vm₁).calling g' mk (Value.ref b :: As).toArray, t, U', L, E, ce, hT, X', hL, e1, e2, hq, hce, hcv, vx_cls hW₁ hcl, st⟩
theorem vx_runSX {hh : List (Nat × Nat × Nat × Nat)} (S : CallFix p m c cc nL s args Ts own) (hM : vx_Met l y ws rm Pc Qc XC mc ms free) (cw : vx_CSW R s args own index y bytes maxL ret hh ws rm mc ms n) (hp : PreS s H Pc As)
    (hg : g.method = m) (hn : As.length = n) (hsize : g.locals.size = nL) (hstack : g.stack = As.reverse ++ rest) (hW : 2 * g.monitorRoom + (rest.map fun v => v.category).sum ≤ 8) (hdg : decode cc g.pc = .ok (.invokestatic index, 3)) (hf : cells + mc ≤ R.cells ∧ slots + ms ≤ R.slots) :
    vx_Run p l e R s m args below meth c H locs cells slots mc ms g rest (Qc As.toArray) XC free := by
  obtain ⟨⟨hrc, hrs, hfr, hlo, hws, hcw⟩, hcode, hini, hy, hlen, hl, hstt⟩ := cw
  have hK : vx_Back l R p e below s args y 3 8 (PreOf R mc ms Pc) (PostOf Qc mc ms free) (vx_Post XC mc ms free) := vx_backW (hh := hh) (bytes := bytes) (maxL := maxL) (ret := ret) hM hp.1 hrc hrs hfr hlo hws hcw (fun a' U hW => word_at hW (Or.inl (by first | rfl | simp [Cond.onTables, Cond.keeps, Cond.steady])) hini)
  obtain ⟨hx, hb, hml, ho, -⟩ := S
  intro T hT X
  rcases vx_callSX X hx (hh := hh) (bytes := bytes) (maxL := maxL) (ret := ret) ho hl hstt hini hcode hy hK hg (hsize.trans hml.symm) (argsL := As) (rest := rest) (fun sig h => hn.trans (hlen sig h)) hstack hW (by rw [hb]; exact hdg)
    (fun vm₁ hW₁ => ⟨hf.1, hf.2, hp.2 (T.setVm vm₁) hT hW₁⟩) with ⟨v, vm₁, ⟨U', l2, c2, s2⟩, hW₁, X', ⟨g', mk, t, L, e1, e2, hq, h1, hL, h2, h3⟩, st⟩ | ⟨q, vm₁, ⟨U', l2, c2, s2⟩, hW₁, X', ⟨g', mk, t, L, E, ce, e1, e2, hq, hce, hcv, hcl, h1, hL, h2, h3⟩, st⟩
  · dsimp only [Pt.U, Pt.locs, Pt.cells, Pt.slots] at X' e1 e2 h1 h2 h3 st
    subst h1; subst h2; subst h3
    exact Or.inl ⟨v, (T.setVm vm₁).calling g' mk As.toArray, t, U', L, hT, X', hL, e1, e2, hq, st⟩
  · dsimp only [Pt.U, Pt.locs, Pt.cells, Pt.slots] at X' e1 e2 h1 h2 h3 st hcl
    subst h1; subst h2; subst h3
    exact Or.inr ⟨q, (T.setVm vm₁).calling g' mk As.toArray, t, U', L, E, ce, hT, X', hL, e1, e2, hq, hce, hcv, vx_cls hW₁ hcl, st⟩
end
end VXH
theorem vx_ofWH {l : Launch} {y : MethodName} {ws ws' : List Cond} {rm : Room} {Pc : Array Value → State → Prop} {Qc : Array Value → State → Outcome → State → Prop} {XC : String → State → State → Prop} {mc ms : Nat} {free : Addr → Prop} {cc : ByteArray} {maxL : Nat} {ret : Option FieldType} {hh : List (Nat × Nat × Nat × Nat)}
    (hy : plainName y.cls = true) (hw : ws = Cond.codeWith y cc maxL ret hh :: ws')
    (body : ∀ p e s m args below meth c s₁, BodyLoose p l y (headSpec ws rm) cc maxL ret e s m args below meth c s₁ → c.maxLocals = maxL → Pc args s →
      W p l e (headSpec ws rm).room s m args below meth c s.heap [] 0 0 (vx_MQ below Qc XC args s mc ms free) (entryFrame m args maxL)) : vx_Met l y ws rm Pc Qc XC mc ms free := by
  refine MetFree.of_bodyS (code := cc) (maxLocals := maxL) (ret := ret) hy ?_ ?_
  · intro args s m h hn
    obtain ⟨m9, meth, c, hn9, h1, h2, h3, h4, -, h5, h6, -⟩ := Cond.codeWith_spec (atoms_spec (ws := ws) h _ (by rw [hw]; exact List.mem_cons_self))
    cases hn.symm.trans hn9
    exact ⟨meth, c, h1, h2, h3, h4, h5, h6⟩
  · intro p e s m args below meth c s₁ B hml hP _
    have hh0 : s₁.heap = s.heap := by rw [B.state]; rfl
    obtain ⟨t, a1, o, b1, b2, b3⟩ := body p e s m args below meth c s₁ B hml hP s₁ hh0 (Stand.of_body B)
    exact ⟨t, o, a1, b1, b2, b3⟩
/-! ===== END ===== -/
end
section
def RX0 : String := "DesignTrees$Inside"
def TX0 : u_T := fun k => match k with
  | 0 => ("DesignTrees$Inside", "ownNets", "[I", true)
  | 1 => ("DesignTrees$Inside", "placements", "[LDesignTrees$Placement;", true)
  | 2 => ("DesignTrees$Inside", "placementCount", "I", false)
  | 3 => ("DesignTrees$Inside", "netCount", "I", false)
  | _ => ("DesignTrees$Inside", "sharers", "I", false)
def tyX0 : Nat → FieldType := fun k => match k with
  | 0 => .array .int
  | 1 => .array (.object "DesignTrees$Placement")
  | 2 => .int
  | 3 => .int
  | _ => .int
abbrev wsX00 : List Cond := u_ws RX0 TX0 5
theorem nmX0 : ∀ a, a < 5 → ∀ b, b < 5 → a ≠ b → (TX0 a).2.1 ≠ (TX0 b).2.1 := by decide +kernel
theorem tyX0_ok : ∀ k, k < 5 → parseFieldDescriptor (TX0 k).2.2.1 = some (tyX0 k) := by decide +kernel
abbrev cX0_init : ByteArray := prog_2_method_1_code
def yX0_init : MethodName := ⟨RX0, "<init>", "()V"⟩
abbrev cX0_isLeaf : ByteArray := prog_2_method_2_code
def yX0_isLeaf : MethodName := ⟨RX0, "isLeaf", "()Z"⟩
abbrev cX0_netsOf : ByteArray := prog_2_method_3_code
def yX0_netsOf : MethodName := ⟨RX0, "netsOf", "(I)[I"⟩
abbrev cX0_addNet : ByteArray := prog_2_method_4_code
def yX0_addNet : MethodName := ⟨RX0, "addNet", "()I"⟩
abbrev cX0_addPlacement : ByteArray := prog_2_method_5_code
def yX0_addPlacement : MethodName := ⟨RX0, "addPlacement", "(LDesignTrees$Placement;)I"⟩
abbrev cX0_twin : ByteArray := prog_2_method_6_code
def yX0_twin : MethodName := ⟨RX0, "twin", "()LDesignTrees$Inside;"⟩
def RX1 : String := "DesignTrees$Layout"
def TX1 : u_T := fun k => match k with
  | 0 => ("DesignTrees$Layout", "nets", "[I", true)
  | 1 => ("DesignTrees$Layout", "way", "[I", true)
  | 2 => ("DesignTrees$Layout", "leaves", "[LDesignTrees$Placement;", true)
  | 3 => ("DesignTrees$Layout", "leafFirstNets", "[I", true)
  | 4 => ("DesignTrees$Layout", "leafWays", "[[I", true)
  | 5 => ("DesignTrees$Layout", "netCount", "I", false)
  | _ => ("DesignTrees$Layout", "leafCount", "I", false)
def tyX1 : Nat → FieldType := fun k => match k with
  | 0 => .array .int
  | 1 => .array .int
  | 2 => .array (.object "DesignTrees$Placement")
  | 3 => .array .int
  | 4 => .array (.array .int)
  | 5 => .int
  | _ => .int
abbrev wsX10 : List Cond := u_ws RX1 TX1 7
theorem nmX1 : ∀ a, a < 7 → ∀ b, b < 7 → a ≠ b → (TX1 a).2.1 ≠ (TX1 b).2.1 := by decide +kernel
theorem tyX1_ok : ∀ k, k < 7 → parseFieldDescriptor (TX1 k).2.2.1 = some (tyX1 k) := by decide +kernel
abbrev cX1_init : ByteArray := prog_3_method_1_code
def yX1_init : MethodName := ⟨RX1, "<init>", "()V"⟩
abbrev cX1_restart : ByteArray := prog_3_method_2_code
def yX1_restart : MethodName := ⟨RX1, "restart", "()V"⟩
abbrev cX1_addNets : ByteArray := prog_3_method_3_code
def yX1_addNets : MethodName := ⟨RX1, "addNets", "(I)I"⟩
abbrev cX1_addLeaf : ByteArray := prog_3_method_4_code
def yX1_addLeaf : MethodName := ⟨RX1, "addLeaf", "(LDesignTrees$Placement;II)V"⟩
abbrev cX1_uniteOver : ByteArray := prog_3_method_5_code
def yX1_uniteOver : MethodName := ⟨RX1, "uniteOver", "(LDesignTrees$Placement;II)V"⟩
abbrev cX1_unite : ByteArray := prog_3_method_6_code
def yX1_unite : MethodName := ⟨RX1, "unite", "(II)V"⟩
abbrev cX1_firstOf : ByteArray := prog_3_method_7_code
def yX1_firstOf : MethodName := ⟨RX1, "firstOf", "(I)I"⟩
abbrev cX1_numberNets : ByteArray := prog_3_method_8_code
def yX1_numberNets : MethodName := ⟨RX1, "numberNets", "()I"⟩
abbrev cX1_insideFor : ByteArray := prog_3_method_9_code
def yX1_insideFor : MethodName := ⟨RX1, "insideFor", "(LDesignTrees$Shell;I)LDesignTrees$Inside;"⟩
abbrev cX1_renumber : ByteArray := prog_3_method_10_code
def yX1_renumber : MethodName := ⟨RX1, "renumber", "([II[I)V"⟩
def RX2 : String := "DesignTrees$Order"
def TX2 : u_T := fun k => match k with
  | 0 => ("DesignTrees$Order", "row", "[LDesignTrees$Shell;", true)
  | 1 => ("DesignTrees$Order", "has", "[Z", true)
  | _ => ("DesignTrees$Order", "size", "I", false)
def tyX2 : Nat → FieldType := fun k => match k with
  | 0 => .array (.object "DesignTrees$Shell")
  | 1 => .array .boolean
  | _ => .int
abbrev wsX20 : List Cond := u_ws RX2 TX2 3
theorem nmX2 : ∀ a, a < 3 → ∀ b, b < 3 → a ≠ b → (TX2 a).2.1 ≠ (TX2 b).2.1 := by decide +kernel
theorem tyX2_ok : ∀ k, k < 3 → parseFieldDescriptor (TX2 k).2.2.1 = some (tyX2 k) := by decide +kernel
abbrev cX2_init : ByteArray := prog_4_method_1_code
def yX2_init : MethodName := ⟨RX2, "<init>", "()V"⟩
abbrev cX2_restart : ByteArray := prog_4_method_2_code
def yX2_restart : MethodName := ⟨RX2, "restart", "()V"⟩
abbrev cX2_add : ByteArray := prog_4_method_3_code
def yX2_add : MethodName := ⟨RX2, "add", "(LDesignTrees$Shell;)V"⟩
def RX3 : String := "DesignTrees$Placement"
def TX3 : u_T := fun k => match k with
  | 0 => ("DesignTrees$Placement", "of", "LDesignTrees$Shell;", true)
  | 1 => ("DesignTrees$Placement", "way", "[I", true)
  | _ => ("DesignTrees$Placement", "nets", "[I", true)
def tyX3 : Nat → FieldType := fun k => match k with
  | 0 => .object "DesignTrees$Shell"
  | 1 => .array .int
  | _ => .array .int
abbrev wsX30 : List Cond := u_ws RX3 TX3 3
theorem nmX3 : ∀ a, a < 3 → ∀ b, b < 3 → a ≠ b → (TX3 a).2.1 ≠ (TX3 b).2.1 := by decide +kernel
theorem tyX3_ok : ∀ k, k < 3 → parseFieldDescriptor (TX3 k).2.2.1 = some (tyX3 k) := by decide +kernel
abbrev cX3_init : ByteArray := prog_5_method_1_code
def yX3_init : MethodName := ⟨RX3, "<init>", "(LDesignTrees$Shell;[I[I)V"⟩
def RX4 : String := "DesignTrees$Shell"
def TX4 : u_T := fun k => match k with
  | 0 => ("DesignTrees$Shell", "number", "I", true)
  | 1 => ("DesignTrees$Shell", "widths", "[I", true)
  | 2 => ("DesignTrees$Shell", "pinIsOut", "[Z", true)
  | 3 => ("DesignTrees$Shell", "portCount", "I", false)
  | 4 => ("DesignTrees$Shell", "pinCount", "I", false)
  | 5 => ("DesignTrees$Shell", "placed", "Z", false)
  | _ => ("DesignTrees$Shell", "inside", "LDesignTrees$Inside;", false)
def tyX4 : Nat → FieldType := fun k => match k with
  | 0 => .int
  | 1 => .array .int
  | 2 => .array .boolean
  | 3 => .int
  | 4 => .int
  | 5 => .boolean
  | _ => .object "DesignTrees$Inside"
abbrev wsX40 : List Cond := u_ws RX4 TX4 7
theorem nmX4 : ∀ a, a < 7 → ∀ b, b < 7 → a ≠ b → (TX4 a).2.1 ≠ (TX4 b).2.1 := by decide +kernel
theorem tyX4_ok : ∀ k, k < 7 → parseFieldDescriptor (TX4 k).2.2.1 = some (tyX4 k) := by decide +kernel
abbrev cX4_init : ByteArray := prog_6_method_1_code
def yX4_init : MethodName := ⟨RX4, "<init>", "(ILDesignTrees$Inside;)V"⟩
abbrev cX4_addPort : ByteArray := prog_6_method_2_code
def yX4_addPort : MethodName := ⟨RX4, "addPort", "(IZ)I"⟩
abbrev cX4_takePorts : ByteArray := prog_6_method_3_code
def yX4_takePorts : MethodName := ⟨RX4, "takePorts", "(LDesignTrees$Shell;)V"⟩
abbrev cX4_hasPortsOf : ByteArray := prog_6_method_4_code
def yX4_hasPortsOf : MethodName := ⟨RX4, "hasPortsOf", "(LDesignTrees$Shell;)Z"⟩
def RX5 : String := "DesignTrees"
def TX5 : u_T := fun k => match k with
  | 0 => ("DesignTrees", "shells", "[LDesignTrees$Shell;", true)
  | 1 => ("DesignTrees", "shellCount", "I", false)
  | 2 => ("DesignTrees", "order", "LDesignTrees$Order;", true)
  | 3 => ("DesignTrees", "layout", "LDesignTrees$Layout;", true)
  | 4 => ("DesignTrees", "measure", "[I", true)
  | 5 => ("DesignTrees", "pinTally", "[I", true)
  | _ => ("DesignTrees", "driverTally", "[I", true)
def tyX5 : Nat → FieldType := fun k => match k with
  | 0 => .array (.object "DesignTrees$Shell")
  | 1 => .int
  | 2 => .object "DesignTrees$Order"
  | 3 => .object "DesignTrees$Layout"
  | 4 => .array .int
  | 5 => .array .int
  | _ => .array .int
abbrev wsX50 : List Cond := u_ws RX5 TX5 7
theorem nmX5 : ∀ a, a < 7 → ∀ b, b < 7 → a ≠ b → (TX5 a).2.1 ≠ (TX5 b).2.1 := by decide +kernel
theorem tyX5_ok : ∀ k, k < 7 → parseFieldDescriptor (TX5 k).2.2.1 = some (tyX5 k) := by decide +kernel
abbrev cX5_init : ByteArray := prog_1_method_1_code
def yX5_init : MethodName := ⟨RX5, "<init>", "()V"⟩
abbrev cX5_module : ByteArray := prog_1_method_2_code
def yX5_module : MethodName := ⟨RX5, "module", "()I"⟩
abbrev cX5_port : ByteArray := prog_1_method_3_code
def yX5_port : MethodName := ⟨RX5, "port", "(IIZ)I"⟩
abbrev cX5_instance : ByteArray := prog_1_method_4_code
def yX5_instance : MethodName := ⟨RX5, "instance", "(II)I"⟩
abbrev cX5_net : ByteArray := prog_1_method_5_code
def yX5_net : MethodName := ⟨RX5, "net", "(I)I"⟩
abbrev cX5_join : ByteArray := prog_1_method_6_code
def yX5_join : MethodName := ⟨RX5, "join", "(IIII)Z"⟩
abbrev cX5_part : ByteArray := prog_1_method_7_code
def yX5_part : MethodName := ⟨RX5, "part", "(III)Z"⟩
abbrev cX5_netOf : ByteArray := prog_1_method_8_code
def yX5_netOf : MethodName := ⟨RX5, "netOf", "(III)I"⟩
abbrev cX5_pins : ByteArray := prog_1_method_9_code
def yX5_pins : MethodName := ⟨RX5, "pins", "(II)I"⟩
abbrev cX5_pin : ByteArray := prog_1_method_10_code
def yX5_pin : MethodName := ⟨RX5, "pin", "(IIII)I"⟩
abbrev cX5_copy : ByteArray := prog_1_method_11_code
def yX5_copy : MethodName := ⟨RX5, "copy", "(I)I"⟩
abbrev cX5_shared : ByteArray := prog_1_method_12_code
def yX5_shared : MethodName := ⟨RX5, "shared", "(II)Z"⟩
abbrev cX5_flat : ByteArray := prog_1_method_13_code
def yX5_flat : MethodName := ⟨RX5, "flat", "(I)I"⟩
abbrev cX5_path : ByteArray := prog_1_method_14_code
def yX5_path : MethodName := ⟨RX5, "path", "(III)I"⟩
abbrev cX5_doubled : ByteArray := prog_1_method_15_code
def yX5_doubled : MethodName := ⟨RX5, "doubled", "(II)I"⟩
abbrev cX5_open : ByteArray := prog_1_method_16_code
def yX5_open : MethodName := ⟨RX5, "open", "(II)I"⟩
abbrev cX5_alike : ByteArray := prog_1_method_17_code
def yX5_alike : MethodName := ⟨RX5, "alike", "(II)Z"⟩
abbrev cX5_count : ByteArray := prog_1_method_18_code
def yX5_count : MethodName := ⟨RX5, "count", "(II)I"⟩
abbrev cX5_moduleOf : ByteArray := prog_1_method_19_code
def yX5_moduleOf : MethodName := ⟨RX5, "moduleOf", "(II)I"⟩
abbrev cX5_modules : ByteArray := prog_1_method_20_code
def yX5_modules : MethodName := ⟨RX5, "modules", "()I"⟩
abbrev cX5_kinds : ByteArray := prog_1_method_21_code
def yX5_kinds : MethodName := ⟨RX5, "kinds", "()I"⟩
abbrev cX5_clear : ByteArray := prog_1_method_22_code
def yX5_clear : MethodName := ⟨RX5, "clear", "()V"⟩
abbrev cX5_requireWithin : ByteArray := prog_1_method_23_code
def yX5_requireWithin : MethodName := ⟨RX5, "requireWithin", "(II)V"⟩
abbrev cX5_requireNet : ByteArray := prog_1_method_24_code
def yX5_requireNet : MethodName := ⟨RX5, "requireNet", "(LDesignTrees$Shell;I)V"⟩
abbrev cX5_requireRoomForModule : ByteArray := prog_1_method_25_code
def yX5_requireRoomForModule : MethodName := ⟨RX5, "requireRoomForModule", "()V"⟩
abbrev cX5_shellAt : ByteArray := prog_1_method_26_code
def yX5_shellAt : MethodName := ⟨RX5, "shellAt", "(I)LDesignTrees$Shell;"⟩
abbrev cX5_placementAt : ByteArray := prog_1_method_27_code
def yX5_placementAt : MethodName := ⟨RX5, "placementAt", "(LDesignTrees$Shell;I)LDesignTrees$Placement;"⟩
abbrev cX5_addShell : ByteArray := prog_1_method_28_code
def yX5_addShell : MethodName := ⟨RX5, "addShell", "(LDesignTrees$Inside;)LDesignTrees$Shell;"⟩
abbrev cX5_insideToChange : ByteArray := prog_1_method_29_code
def yX5_insideToChange : MethodName := ⟨RX5, "insideToChange", "(LDesignTrees$Shell;)LDesignTrees$Inside;"⟩
abbrev cX5_netAt : ByteArray := prog_1_method_30_code
def yX5_netAt : MethodName := ⟨RX5, "netAt", "(LDesignTrees$Shell;II)I"⟩
abbrev cX5_moveTo : ByteArray := prog_1_method_31_code
def yX5_moveTo : MethodName := ⟨RX5, "moveTo", "(ILDesignTrees$Shell;II)Z"⟩
abbrev cX5_placeOf : ByteArray := prog_1_method_32_code
def yX5_placeOf : MethodName := ⟨RX5, "placeOf", "(LDesignTrees$Inside;II)I"⟩
abbrev cX5_isDriver : ByteArray := prog_1_method_33_code
def yX5_isDriver : MethodName := ⟨RX5, "isDriver", "(LDesignTrees$Shell;II)Z"⟩
abbrev cX5_tally : ByteArray := prog_1_method_34_code
def yX5_tally : MethodName := ⟨RX5, "tally", "(LDesignTrees$Shell;)V"⟩
abbrev cX5_tallied : ByteArray := prog_1_method_35_code
def yX5_tallied : MethodName := ⟨RX5, "tallied", "(LDesignTrees$Shell;IZ)I"⟩
abbrev cX5_putBehindParts : ByteArray := prog_1_method_36_code
def yX5_putBehindParts : MethodName := ⟨RX5, "putBehindParts", "(LDesignTrees$Shell;LDesignTrees$Order;I)V"⟩
abbrev cX5_orderFrom : ByteArray := prog_1_method_37_code
def yX5_orderFrom : MethodName := ⟨RX5, "orderFrom", "(LDesignTrees$Shell;)V"⟩
abbrev cX5_isWithin : ByteArray := prog_1_method_38_code
def yX5_isWithin : MethodName := ⟨RX5, "isWithin", "(LDesignTrees$Shell;LDesignTrees$Shell;)Z"⟩
abbrev cX5_layersBelow : ByteArray := prog_1_method_39_code
def yX5_layersBelow : MethodName := ⟨RX5, "layersBelow", "(LDesignTrees$Shell;)I"⟩
abbrev cX5_leavesIn : ByteArray := prog_1_method_40_code
def yX5_leavesIn : MethodName := ⟨RX5, "leavesIn", "(LDesignTrees$Shell;)I"⟩
abbrev cX5_netsOfOccurrences : ByteArray := prog_1_method_41_code
def yX5_netsOfOccurrences : MethodName := ⟨RX5, "netsOfOccurrences", "(LDesignTrees$Shell;)I"⟩
abbrev cX5_layOut : ByteArray := prog_1_method_42_code
def yX5_layOut : MethodName := ⟨RX5, "layOut", "(LDesignTrees$Shell;ILDesignTrees$Layout;I)V"⟩
abbrev cX5_sortIntoKinds : ByteArray := prog_1_method_43_code
def yX5_sortIntoKinds : MethodName := ⟨RX5, "sortIntoKinds", "()I"⟩
abbrev cX5_firstAlike : ByteArray := prog_1_method_44_code
def yX5_firstAlike : MethodName := ⟨RX5, "firstAlike", "(I)LDesignTrees$Shell;"⟩
abbrev cX5_isSame : ByteArray := prog_1_method_45_code
def yX5_isSame : MethodName := ⟨RX5, "isSame", "(LDesignTrees$Shell;LDesignTrees$Shell;)Z"⟩
abbrev cX5_isSameInside : ByteArray := prog_1_method_46_code
def yX5_isSameInside : MethodName := ⟨RX5, "isSameInside", "(LDesignTrees$Inside;LDesignTrees$Inside;)Z"⟩
abbrev cX5_isSameRow : ByteArray := prog_1_method_47_code
def yX5_isSameRow : MethodName := ⟨RX5, "isSameRow", "([I[I)Z"⟩
def RX6 : String := "DesignTreesModel"
def TX6 : u_T := fun k => match k with
  | 0 => ("DesignTreesModel", "thrown", "I", false)
  | 1 => ("DesignTreesModel", "modules", "I", false)
  | 2 => ("DesignTreesModel", "ports", "[I", true)
  | 3 => ("DesignTreesModel", "widths", "[I", true)
  | 4 => ("DesignTreesModel", "outs", "[Z", true)
  | 5 => ("DesignTreesModel", "instances", "[I", true)
  | 6 => ("DesignTreesModel", "ofs", "[I", true)
  | 7 => ("DesignTreesModel", "nets", "[I", true)
  | 8 => ("DesignTreesModel", "insides", "[I", true)
  | 9 => ("DesignTreesModel", "lastInside", "I", false)
  | 10 => ("DesignTreesModel", "netOfPin", "[I", true)
  | 11 => ("DesignTreesModel", "wayLengths", "[I", true)
  | 12 => ("DesignTreesModel", "ways", "[I", true)
  | 13 => ("DesignTreesModel", "occurrences", "I", false)
  | 14 => ("DesignTreesModel", "occModule", "[I", true)
  | 15 => ("DesignTreesModel", "occParent", "[I", true)
  | 16 => ("DesignTreesModel", "occInstance", "[I", true)
  | 17 => ("DesignTreesModel", "occFirst", "[I", true)
  | 18 => ("DesignTreesModel", "leaves", "I", false)
  | 19 => ("DesignTreesModel", "leafOcc", "[I", true)
  | 20 => ("DesignTreesModel", "leafInstance", "[I", true)
  | 21 => ("DesignTreesModel", "pile", "[I", true)
  | 22 => ("DesignTreesModel", "nextOf", "[I", true)
  | 23 => ("DesignTreesModel", "label", "[I", true)
  | 24 => ("DesignTreesModel", "flatNumber", "[I", true)
  | 25 => ("DesignTreesModel", "same", "[Z", true)
  | 26 => ("DesignTreesModel", "depth", "[I", true)
  | _ => ("DesignTreesModel", "below", "[I", true)
def tyX6 : Nat → FieldType := fun k => match k with
  | 0 => .int
  | 1 => .int
  | 2 => .array .int
  | 3 => .array .int
  | 4 => .array .boolean
  | 5 => .array .int
  | 6 => .array .int
  | 7 => .array .int
  | 8 => .array .int
  | 9 => .int
  | 10 => .array .int
  | 11 => .array .int
  | 12 => .array .int
  | 13 => .int
  | 14 => .array .int
  | 15 => .array .int
  | 16 => .array .int
  | 17 => .array .int
  | 18 => .int
  | 19 => .array .int
  | 20 => .array .int
  | 21 => .array .int
  | 22 => .array .int
  | 23 => .array .int
  | 24 => .array .int
  | 25 => .array .boolean
  | 26 => .array .int
  | _ => .array .int
abbrev wsX60 : List Cond := u_ws RX6 TX6 28
theorem nmX6 : ∀ a, a < 28 → ∀ b, b < 28 → a ≠ b → (TX6 a).2.1 ≠ (TX6 b).2.1 := by decide +kernel
theorem tyX6_ok : ∀ k, k < 28 → parseFieldDescriptor (TX6 k).2.2.1 = some (tyX6 k) := by decide +kernel
abbrev cX6_init : ByteArray := prog_8_method_1_code
def yX6_init : MethodName := ⟨RX6, "<init>", "()V"⟩
abbrev cX6_thrown : ByteArray := prog_8_method_2_code
def yX6_thrown : MethodName := ⟨RX6, "thrown", "()I"⟩
abbrev cX6_isIn : ByteArray := prog_8_method_3_code
def yX6_isIn : MethodName := ⟨RX6, "isIn", "(II)Z"⟩
abbrev cX6_refused : ByteArray := prog_8_method_4_code
def yX6_refused : MethodName := ⟨RX6, "refused", "(ZZ)Z"⟩
abbrev cX6_module : ByteArray := prog_8_method_5_code
def yX6_module : MethodName := ⟨RX6, "module", "()I"⟩
abbrev cX6_begin : ByteArray := prog_8_method_6_code
def yX6_begin : MethodName := ⟨RX6, "begin", "(I)V"⟩
abbrev cX6_isUsed : ByteArray := prog_8_method_7_code
def yX6_isUsed : MethodName := ⟨RX6, "isUsed", "(I)Z"⟩
abbrev cX6_port : ByteArray := prog_8_method_8_code
def yX6_port : MethodName := ⟨RX6, "port", "(IIZ)I"⟩
abbrev cX6_ownPins : ByteArray := prog_8_method_9_code
def yX6_ownPins : MethodName := ⟨RX6, "ownPins", "(I)I"⟩
abbrev cX6_isOut : ByteArray := prog_8_method_10_code
def yX6_isOut : MethodName := ⟨RX6, "isOut", "(II)Z"⟩
abbrev cX6_isWithin : ByteArray := prog_8_method_11_code
def yX6_isWithin : MethodName := ⟨RX6, "isWithin", "(II)Z"⟩
abbrev cX6_change : ByteArray := prog_8_method_12_code
def yX6_change : MethodName := ⟨RX6, "change", "(I)V"⟩
abbrev cX6_instance : ByteArray := prog_8_method_13_code
def yX6_instance : MethodName := ⟨RX6, "instance", "(II)I"⟩
abbrev cX6_net : ByteArray := prog_8_method_14_code
def yX6_net : MethodName := ⟨RX6, "net", "(I)I"⟩
abbrev cX6_isPin : ByteArray := prog_8_method_15_code
def yX6_isPin : MethodName := ⟨RX6, "isPin", "(III)Z"⟩
abbrev cX6_at : ByteArray := prog_8_method_16_code
def yX6_at : MethodName := ⟨RX6, "at", "(III)I"⟩
abbrev cX6_join : ByteArray := prog_8_method_17_code
def yX6_join : MethodName := ⟨RX6, "join", "(IIII)Z"⟩
abbrev cX6_part : ByteArray := prog_8_method_18_code
def yX6_part : MethodName := ⟨RX6, "part", "(III)Z"⟩
abbrev cX6_netOf : ByteArray := prog_8_method_19_code
def yX6_netOf : MethodName := ⟨RX6, "netOf", "(III)I"⟩
abbrev cX6_drives : ByteArray := prog_8_method_20_code
def yX6_drives : MethodName := ⟨RX6, "drives", "(III)Z"⟩
abbrev cX6_countPins : ByteArray := prog_8_method_21_code
def yX6_countPins : MethodName := ⟨RX6, "countPins", "(IIZ)I"⟩
abbrev cX6_pins : ByteArray := prog_8_method_22_code
def yX6_pins : MethodName := ⟨RX6, "pins", "(II)I"⟩
abbrev cX6_pin : ByteArray := prog_8_method_23_code
def yX6_pin : MethodName := ⟨RX6, "pin", "(IIII)I"⟩
abbrev cX6_copy : ByteArray := prog_8_method_24_code
def yX6_copy : MethodName := ⟨RX6, "copy", "(I)I"⟩
abbrev cX6_shared : ByteArray := prog_8_method_25_code
def yX6_shared : MethodName := ⟨RX6, "shared", "(II)Z"⟩
abbrev cX6_enter : ByteArray := prog_8_method_26_code
def yX6_enter : MethodName := ⟨RX6, "enter", "(III)V"⟩
abbrev cX6_walk : ByteArray := prog_8_method_27_code
def yX6_walk : MethodName := ⟨RX6, "walk", "(I)Z"⟩
abbrev cX6_unite : ByteArray := prog_8_method_28_code
def yX6_unite : MethodName := ⟨RX6, "unite", "()Z"⟩
abbrev cX6_lower : ByteArray := prog_8_method_29_code
def yX6_lower : MethodName := ⟨RX6, "lower", "(II)Z"⟩
abbrev cX6_number : ByteArray := prog_8_method_30_code
def yX6_number : MethodName := ⟨RX6, "number", "()I"⟩
abbrev cX6_setWay : ByteArray := prog_8_method_31_code
def yX6_setWay : MethodName := ⟨RX6, "setWay", "(II)V"⟩
abbrev cX6_flat : ByteArray := prog_8_method_32_code
def yX6_flat : MethodName := ⟨RX6, "flat", "(I)I"⟩
abbrev cX6_path : ByteArray := prog_8_method_33_code
def yX6_path : MethodName := ⟨RX6, "path", "(III)I"⟩
abbrev cX6_doubled : ByteArray := prog_8_method_34_code
def yX6_doubled : MethodName := ⟨RX6, "doubled", "(II)I"⟩
abbrev cX6_open : ByteArray := prog_8_method_35_code
def yX6_open : MethodName := ⟨RX6, "open", "(II)I"⟩
abbrev cX6_looksAlike : ByteArray := prog_8_method_36_code
def yX6_looksAlike : MethodName := ⟨RX6, "looksAlike", "(II)Z"⟩
abbrev cX6_findAlike : ByteArray := prog_8_method_37_code
def yX6_findAlike : MethodName := ⟨RX6, "findAlike", "()V"⟩
abbrev cX6_alike : ByteArray := prog_8_method_38_code
def yX6_alike : MethodName := ⟨RX6, "alike", "(II)Z"⟩
abbrev cX6_kinds : ByteArray := prog_8_method_39_code
def yX6_kinds : MethodName := ⟨RX6, "kinds", "()I"⟩
abbrev cX6_measure : ByteArray := prog_8_method_40_code
def yX6_measure : MethodName := ⟨RX6, "measure", "()V"⟩
abbrev cX6_count : ByteArray := prog_8_method_41_code
def yX6_count : MethodName := ⟨RX6, "count", "(II)I"⟩
abbrev cX6_moduleOf : ByteArray := prog_8_method_42_code
def yX6_moduleOf : MethodName := ⟨RX6, "moduleOf", "(II)I"⟩
abbrev cX6_modules : ByteArray := prog_8_method_43_code
def yX6_modules : MethodName := ⟨RX6, "modules", "()I"⟩
abbrev cX6_clear : ByteArray := prog_8_method_44_code
def yX6_clear : MethodName := ⟨RX6, "clear", "()V"⟩
def RJx8e188 : String := "java/lang/Cloneable"
def RJ9 : String := "java/lang/Math"
abbrev cJ9_max_7cf53 : ByteArray := prog_14_method_65_code
def yJ9_max_7cf53 : MethodName := ⟨RJ9, "max", "(II)I"⟩
abbrev cJ9_min_7cf53 : ByteArray := prog_14_method_69_code
def yJ9_min_7cf53 : MethodName := ⟨RJ9, "min", "(II)I"⟩
def RJ10 : String := "java/lang/System"
def RJ7 : String := "java/util/Arrays"
abbrev cJ7_fill_53178 : ByteArray := prog_19_method_103_code
def yJ7_fill_53178 : MethodName := ⟨RJ7, "fill", "([II)V"⟩
abbrev cJ7_copyOf_59c91 : ByteArray := prog_19_method_123_code
def yJ7_copyOf_59c91 : MethodName := ⟨RJ7, "copyOf", "([II)[I"⟩
def RL : String := "DesignTreesLaw"
abbrev cL_module : ByteArray := method_3_code
def yL_module : MethodName := ⟨RL, "module", "(LDesignTrees;[J)I"⟩
abbrev cL_port : ByteArray := method_4_code
def yL_port : MethodName := ⟨RL, "port", "(LDesignTrees;IIZ[J)I"⟩
abbrev cL_instance : ByteArray := method_5_code
def yL_instance : MethodName := ⟨RL, "instance", "(LDesignTrees;II[J)I"⟩
abbrev cL_net : ByteArray := method_6_code
def yL_net : MethodName := ⟨RL, "net", "(LDesignTrees;I[J)I"⟩
abbrev cL_join : ByteArray := method_7_code
def yL_join : MethodName := ⟨RL, "join", "(LDesignTrees;IIII[J)I"⟩
abbrev cL_part : ByteArray := method_8_code
def yL_part : MethodName := ⟨RL, "part", "(LDesignTrees;III[J)I"⟩
abbrev cL_netOf : ByteArray := method_9_code
def yL_netOf : MethodName := ⟨RL, "netOf", "(LDesignTrees;III[J)I"⟩
abbrev cL_pins : ByteArray := method_10_code
def yL_pins : MethodName := ⟨RL, "pins", "(LDesignTrees;II[J)I"⟩
abbrev cL_pin : ByteArray := method_11_code
def yL_pin : MethodName := ⟨RL, "pin", "(LDesignTrees;IIII[J)I"⟩
abbrev cL_copy : ByteArray := method_12_code
def yL_copy : MethodName := ⟨RL, "copy", "(LDesignTrees;I[J)I"⟩
abbrev cL_shared : ByteArray := method_13_code
def yL_shared : MethodName := ⟨RL, "shared", "(LDesignTrees;II[J)I"⟩
abbrev cL_flat : ByteArray := method_14_code
def yL_flat : MethodName := ⟨RL, "flat", "(LDesignTrees;I[J)I"⟩
abbrev cL_path : ByteArray := method_15_code
def yL_path : MethodName := ⟨RL, "path", "(LDesignTrees;III[J)I"⟩
abbrev cL_doubled : ByteArray := method_16_code
def yL_doubled : MethodName := ⟨RL, "doubled", "(LDesignTrees;II[J)I"⟩
abbrev cL_open : ByteArray := method_17_code
def yL_open : MethodName := ⟨RL, "open", "(LDesignTrees;II[J)I"⟩
abbrev cL_alike : ByteArray := method_18_code
def yL_alike : MethodName := ⟨RL, "alike", "(LDesignTrees;II[J)I"⟩
abbrev cL_count : ByteArray := method_19_code
def yL_count : MethodName := ⟨RL, "count", "(LDesignTrees;II[J)I"⟩
abbrev cL_moduleOf : ByteArray := method_20_code
def yL_moduleOf : MethodName := ⟨RL, "moduleOf", "(LDesignTrees;II[J)I"⟩
abbrev cL_law : ByteArray := code
def yL_law : MethodName := ⟨RL, "law", "([I)Z"⟩
abbrev vwCl : List vw_C := [(RX0, TX0, 5), (RX1, TX1, 7), (RX2, TX2, 3), (RX3, TX3, 3), (RX4, TX4, 7), (RX5, TX5, 7), (RX6, TX6, 28)]
end
section
theorem dX0_init_0 : decode cX0_init 0 = .ok (.aload_n 0, 1) := by decide +kernel
theorem dX0_init_1 : decode cX0_init 1 = .ok (.invokespecial 3, 3) := by decide +kernel
theorem dX0_init_4 : decode cX0_init 4 = .ok (.aload_n 0, 1) := by decide +kernel
theorem dX0_init_5 : decode cX0_init 5 = .ok (.sipush 128, 3) := by decide +kernel
theorem dX0_init_8 : decode cX0_init 8 = .ok (.newarray .int, 2) := by decide +kernel
theorem dX0_init_10 : decode cX0_init 10 = .ok (.putfield 9, 3) := by decide +kernel
theorem dX0_init_13 : decode cX0_init 13 = .ok (.aload_n 0, 1) := by decide +kernel
theorem dX0_init_14 : decode cX0_init 14 = .ok (.bipush 64, 2) := by decide +kernel
theorem dX0_init_16 : decode cX0_init 16 = .ok (.anewarray 15, 3) := by decide +kernel
theorem dX0_init_19 : decode cX0_init 19 = .ok (.putfield 17, 3) := by decide +kernel
theorem dX0_init_22 : decode cX0_init 22 = .ok (.aload_n 0, 1) := by decide +kernel
theorem dX0_init_23 : decode cX0_init 23 = .ok (.iconst 0, 1) := by decide +kernel
theorem dX0_init_24 : decode cX0_init 24 = .ok (.putfield 21, 3) := by decide +kernel
theorem dX0_init_27 : decode cX0_init 27 = .ok (.aload_n 0, 1) := by decide +kernel
theorem dX0_init_28 : decode cX0_init 28 = .ok (.iconst 0, 1) := by decide +kernel
theorem dX0_init_29 : decode cX0_init 29 = .ok (.putfield 25, 3) := by decide +kernel
theorem dX0_init_32 : decode cX0_init 32 = .ok (.aload_n 0, 1) := by decide +kernel
theorem dX0_init_33 : decode cX0_init 33 = .ok (.iconst 1, 1) := by decide +kernel
theorem dX0_init_34 : decode cX0_init 34 = .ok (.putfield 28, 3) := by decide +kernel
theorem dX0_init_37 : decode cX0_init 37 = .ok (.aload_n 0, 1) := by decide +kernel
theorem dX0_init_38 : decode cX0_init 38 = .ok (.getfield 9, 3) := by decide +kernel
theorem dX0_init_41 : decode cX0_init 41 = .ok (.iconst (-1), 1) := by decide +kernel
theorem dX0_init_42 : decode cX0_init 42 = .ok (.invokestatic 31, 3) := by decide +kernel
theorem dX0_init_45 : decode cX0_init 45 = .ok (.return_, 1) := by decide +kernel
theorem dX0_isLeaf_0 : decode cX0_isLeaf 0 = .ok (.aload_n 0, 1) := by decide +kernel
theorem dX0_isLeaf_1 : decode cX0_isLeaf 1 = .ok (.getfield 21, 3) := by decide +kernel
theorem dX0_isLeaf_4 : decode cX0_isLeaf 4 = .ok (.ifCond .ne 7, 3) := by decide +kernel
theorem dX0_isLeaf_7 : decode cX0_isLeaf 7 = .ok (.iconst 1, 1) := by decide +kernel
theorem dX0_isLeaf_8 : decode cX0_isLeaf 8 = .ok (.goto 4, 3) := by decide +kernel
theorem dX0_isLeaf_11 : decode cX0_isLeaf 11 = .ok (.iconst 0, 1) := by decide +kernel
theorem dX0_isLeaf_12 : decode cX0_isLeaf 12 = .ok (.ireturn, 1) := by decide +kernel
theorem dX0_netsOf_0 : decode cX0_netsOf 0 = .ok (.iload_n 1, 1) := by decide +kernel
theorem dX0_netsOf_1 : decode cX0_netsOf 1 = .ok (.iconst (-1), 1) := by decide +kernel
theorem dX0_netsOf_2 : decode cX0_netsOf 2 = .ok (.if_icmp .ne 10, 3) := by decide +kernel
theorem dX0_netsOf_5 : decode cX0_netsOf 5 = .ok (.aload_n 0, 1) := by decide +kernel
theorem dX0_netsOf_6 : decode cX0_netsOf 6 = .ok (.getfield 9, 3) := by decide +kernel
theorem dX0_netsOf_9 : decode cX0_netsOf 9 = .ok (.goto 12, 3) := by decide +kernel
theorem dX0_netsOf_12 : decode cX0_netsOf 12 = .ok (.aload_n 0, 1) := by decide +kernel
theorem dX0_netsOf_13 : decode cX0_netsOf 13 = .ok (.getfield 17, 3) := by decide +kernel
theorem dX0_netsOf_16 : decode cX0_netsOf 16 = .ok (.iload_n 1, 1) := by decide +kernel
theorem dX0_netsOf_17 : decode cX0_netsOf 17 = .ok (.aaload, 1) := by decide +kernel
theorem dX0_netsOf_18 : decode cX0_netsOf 18 = .ok (.getfield 37, 3) := by decide +kernel
theorem dX0_netsOf_21 : decode cX0_netsOf 21 = .ok (.areturn, 1) := by decide +kernel
theorem dX0_addNet_0 : decode cX0_addNet 0 = .ok (.aload_n 0, 1) := by decide +kernel
theorem dX0_addNet_1 : decode cX0_addNet 1 = .ok (.dup, 1) := by decide +kernel
theorem dX0_addNet_2 : decode cX0_addNet 2 = .ok (.getfield 25, 3) := by decide +kernel
theorem dX0_addNet_5 : decode cX0_addNet 5 = .ok (.iconst 1, 1) := by decide +kernel
theorem dX0_addNet_6 : decode cX0_addNet 6 = .ok (.iadd, 1) := by decide +kernel
theorem dX0_addNet_7 : decode cX0_addNet 7 = .ok (.putfield 25, 3) := by decide +kernel
theorem dX0_addNet_10 : decode cX0_addNet 10 = .ok (.aload_n 0, 1) := by decide +kernel
theorem dX0_addNet_11 : decode cX0_addNet 11 = .ok (.getfield 25, 3) := by decide +kernel
theorem dX0_addNet_14 : decode cX0_addNet 14 = .ok (.iconst 1, 1) := by decide +kernel
theorem dX0_addNet_15 : decode cX0_addNet 15 = .ok (.isub, 1) := by decide +kernel
theorem dX0_addNet_16 : decode cX0_addNet 16 = .ok (.ireturn, 1) := by decide +kernel
theorem dX0_addPlacement_0 : decode cX0_addPlacement 0 = .ok (.aload_n 0, 1) := by decide +kernel
theorem dX0_addPlacement_1 : decode cX0_addPlacement 1 = .ok (.getfield 17, 3) := by decide +kernel
theorem dX0_addPlacement_4 : decode cX0_addPlacement 4 = .ok (.aload_n 0, 1) := by decide +kernel
theorem dX0_addPlacement_5 : decode cX0_addPlacement 5 = .ok (.getfield 21, 3) := by decide +kernel
theorem dX0_addPlacement_8 : decode cX0_addPlacement 8 = .ok (.aload_n 1, 1) := by decide +kernel
theorem dX0_addPlacement_9 : decode cX0_addPlacement 9 = .ok (.aastore, 1) := by decide +kernel
theorem dX0_addPlacement_10 : decode cX0_addPlacement 10 = .ok (.aload_n 0, 1) := by decide +kernel
theorem dX0_addPlacement_11 : decode cX0_addPlacement 11 = .ok (.dup, 1) := by decide +kernel
theorem dX0_addPlacement_12 : decode cX0_addPlacement 12 = .ok (.getfield 21, 3) := by decide +kernel
theorem dX0_addPlacement_15 : decode cX0_addPlacement 15 = .ok (.iconst 1, 1) := by decide +kernel
theorem dX0_addPlacement_16 : decode cX0_addPlacement 16 = .ok (.iadd, 1) := by decide +kernel
theorem dX0_addPlacement_17 : decode cX0_addPlacement 17 = .ok (.putfield 21, 3) := by decide +kernel
theorem dX0_addPlacement_20 : decode cX0_addPlacement 20 = .ok (.aload_n 0, 1) := by decide +kernel
theorem dX0_addPlacement_21 : decode cX0_addPlacement 21 = .ok (.getfield 21, 3) := by decide +kernel
theorem dX0_addPlacement_24 : decode cX0_addPlacement 24 = .ok (.iconst 1, 1) := by decide +kernel
theorem dX0_addPlacement_25 : decode cX0_addPlacement 25 = .ok (.isub, 1) := by decide +kernel
theorem dX0_addPlacement_26 : decode cX0_addPlacement 26 = .ok (.ireturn, 1) := by decide +kernel
theorem dX0_twin_0 : decode cX0_twin 0 = .ok (.new 10, 3) := by decide +kernel
theorem dX0_twin_3 : decode cX0_twin 3 = .ok (.dup, 1) := by decide +kernel
theorem dX0_twin_4 : decode cX0_twin 4 = .ok (.invokespecial 40, 3) := by decide +kernel
theorem dX0_twin_7 : decode cX0_twin 7 = .ok (.astore_n 1, 1) := by decide +kernel
theorem dX0_twin_8 : decode cX0_twin 8 = .ok (.aload_n 0, 1) := by decide +kernel
theorem dX0_twin_9 : decode cX0_twin 9 = .ok (.getfield 9, 3) := by decide +kernel
theorem dX0_twin_12 : decode cX0_twin 12 = .ok (.iconst 0, 1) := by decide +kernel
theorem dX0_twin_13 : decode cX0_twin 13 = .ok (.aload_n 1, 1) := by decide +kernel
theorem dX0_twin_14 : decode cX0_twin 14 = .ok (.getfield 9, 3) := by decide +kernel
theorem dX0_twin_17 : decode cX0_twin 17 = .ok (.iconst 0, 1) := by decide +kernel
theorem dX0_twin_18 : decode cX0_twin 18 = .ok (.sipush 128, 3) := by decide +kernel
theorem dX0_twin_21 : decode cX0_twin 21 = .ok (.invokestatic 41, 3) := by decide +kernel
theorem dX0_twin_24 : decode cX0_twin 24 = .ok (.iconst 0, 1) := by decide +kernel
theorem dX0_twin_25 : decode cX0_twin 25 = .ok (.istore_n 2, 1) := by decide +kernel
theorem dX0_twin_26 : decode cX0_twin 26 = .ok (.iload_n 2, 1) := by decide +kernel
theorem dX0_twin_27 : decode cX0_twin 27 = .ok (.aload_n 0, 1) := by decide +kernel
theorem dX0_twin_28 : decode cX0_twin 28 = .ok (.getfield 21, 3) := by decide +kernel
theorem dX0_twin_31 : decode cX0_twin 31 = .ok (.if_icmp .ge 46, 3) := by decide +kernel
theorem dX0_twin_34 : decode cX0_twin 34 = .ok (.aload_n 0, 1) := by decide +kernel
theorem dX0_twin_35 : decode cX0_twin 35 = .ok (.getfield 17, 3) := by decide +kernel
theorem dX0_twin_38 : decode cX0_twin 38 = .ok (.iload_n 2, 1) := by decide +kernel
theorem dX0_twin_39 : decode cX0_twin 39 = .ok (.aaload, 1) := by decide +kernel
theorem dX0_twin_40 : decode cX0_twin 40 = .ok (.astore_n 3, 1) := by decide +kernel
theorem dX0_twin_41 : decode cX0_twin 41 = .ok (.aload_n 1, 1) := by decide +kernel
theorem dX0_twin_42 : decode cX0_twin 42 = .ok (.new 15, 3) := by decide +kernel
theorem dX0_twin_45 : decode cX0_twin 45 = .ok (.dup, 1) := by decide +kernel
theorem dX0_twin_46 : decode cX0_twin 46 = .ok (.aload_n 3, 1) := by decide +kernel
theorem dX0_twin_47 : decode cX0_twin 47 = .ok (.getfield 47, 3) := by decide +kernel
theorem dX0_twin_50 : decode cX0_twin 50 = .ok (.aload_n 3, 1) := by decide +kernel
theorem dX0_twin_51 : decode cX0_twin 51 = .ok (.getfield 51, 3) := by decide +kernel
theorem dX0_twin_54 : decode cX0_twin 54 = .ok (.aload_n 3, 1) := by decide +kernel
theorem dX0_twin_55 : decode cX0_twin 55 = .ok (.getfield 37, 3) := by decide +kernel
theorem dX0_twin_58 : decode cX0_twin 58 = .ok (.invokevirtual 54, 3) := by decide +kernel
theorem dX0_twin_61 : decode cX0_twin 61 = .ok (.checkcast 55, 3) := by decide +kernel
theorem dX0_twin_64 : decode cX0_twin 64 = .ok (.invokespecial 59, 3) := by decide +kernel
theorem dX0_twin_67 : decode cX0_twin 67 = .ok (.invokevirtual 62, 3) := by decide +kernel
theorem dX0_twin_70 : decode cX0_twin 70 = .ok (.pop, 1) := by decide +kernel
theorem dX0_twin_71 : decode cX0_twin 71 = .ok (.iinc 2 1, 3) := by decide +kernel
theorem dX0_twin_74 : decode cX0_twin 74 = .ok (.goto (-48), 3) := by decide +kernel
theorem dX0_twin_77 : decode cX0_twin 77 = .ok (.aload_n 1, 1) := by decide +kernel
theorem dX0_twin_78 : decode cX0_twin 78 = .ok (.aload_n 0, 1) := by decide +kernel
theorem dX0_twin_79 : decode cX0_twin 79 = .ok (.getfield 25, 3) := by decide +kernel
theorem dX0_twin_82 : decode cX0_twin 82 = .ok (.putfield 25, 3) := by decide +kernel
theorem dX0_twin_85 : decode cX0_twin 85 = .ok (.aload_n 1, 1) := by decide +kernel
theorem dX0_twin_86 : decode cX0_twin 86 = .ok (.areturn, 1) := by decide +kernel
theorem dX1_init_0 : decode cX1_init 0 = .ok (.aload_n 0, 1) := by decide +kernel
theorem dX1_init_1 : decode cX1_init 1 = .ok (.invokespecial 3, 3) := by decide +kernel
theorem dX1_init_4 : decode cX1_init 4 = .ok (.aload_n 0, 1) := by decide +kernel
theorem dX1_init_5 : decode cX1_init 5 = .ok (.sipush 3000, 3) := by decide +kernel
theorem dX1_init_8 : decode cX1_init 8 = .ok (.newarray .int, 2) := by decide +kernel
theorem dX1_init_10 : decode cX1_init 10 = .ok (.putfield 9, 3) := by decide +kernel
theorem dX1_init_13 : decode cX1_init 13 = .ok (.aload_n 0, 1) := by decide +kernel
theorem dX1_init_14 : decode cX1_init 14 = .ok (.bipush 24, 2) := by decide +kernel
theorem dX1_init_16 : decode cX1_init 16 = .ok (.newarray .int, 2) := by decide +kernel
theorem dX1_init_18 : decode cX1_init 18 = .ok (.putfield 15, 3) := by decide +kernel
theorem dX1_init_21 : decode cX1_init 21 = .ok (.aload_n 0, 1) := by decide +kernel
theorem dX1_init_22 : decode cX1_init 22 = .ok (.bipush 64, 2) := by decide +kernel
theorem dX1_init_24 : decode cX1_init 24 = .ok (.anewarray 18, 3) := by decide +kernel
theorem dX1_init_27 : decode cX1_init 27 = .ok (.putfield 20, 3) := by decide +kernel
theorem dX1_init_30 : decode cX1_init 30 = .ok (.aload_n 0, 1) := by decide +kernel
theorem dX1_init_31 : decode cX1_init 31 = .ok (.bipush 64, 2) := by decide +kernel
theorem dX1_init_33 : decode cX1_init 33 = .ok (.newarray .int, 2) := by decide +kernel
theorem dX1_init_35 : decode cX1_init 35 = .ok (.putfield 24, 3) := by decide +kernel
theorem dX1_init_38 : decode cX1_init 38 = .ok (.aload_n 0, 1) := by decide +kernel
theorem dX1_init_39 : decode cX1_init 39 = .ok (.bipush 64, 2) := by decide +kernel
theorem dX1_init_41 : decode cX1_init 41 = .ok (.anewarray 27, 3) := by decide +kernel
theorem dX1_init_44 : decode cX1_init 44 = .ok (.putfield 28, 3) := by decide +kernel
theorem dX1_init_47 : decode cX1_init 47 = .ok (.aload_n 0, 1) := by decide +kernel
theorem dX1_init_48 : decode cX1_init 48 = .ok (.iconst 0, 1) := by decide +kernel
theorem dX1_init_49 : decode cX1_init 49 = .ok (.putfield 32, 3) := by decide +kernel
theorem dX1_init_52 : decode cX1_init 52 = .ok (.aload_n 0, 1) := by decide +kernel
theorem dX1_init_53 : decode cX1_init 53 = .ok (.iconst 0, 1) := by decide +kernel
theorem dX1_init_54 : decode cX1_init 54 = .ok (.putfield 36, 3) := by decide +kernel
theorem dX1_init_57 : decode cX1_init 57 = .ok (.return_, 1) := by decide +kernel
theorem dX1_restart_0 : decode cX1_restart 0 = .ok (.aload_n 0, 1) := by decide +kernel
theorem dX1_restart_1 : decode cX1_restart 1 = .ok (.iconst 0, 1) := by decide +kernel
theorem dX1_restart_2 : decode cX1_restart 2 = .ok (.putfield 32, 3) := by decide +kernel
theorem dX1_restart_5 : decode cX1_restart 5 = .ok (.aload_n 0, 1) := by decide +kernel
theorem dX1_restart_6 : decode cX1_restart 6 = .ok (.iconst 0, 1) := by decide +kernel
theorem dX1_restart_7 : decode cX1_restart 7 = .ok (.putfield 36, 3) := by decide +kernel
theorem dX1_restart_10 : decode cX1_restart 10 = .ok (.return_, 1) := by decide +kernel
theorem dX1_addNets_0 : decode cX1_addNets 0 = .ok (.aload_n 0, 1) := by decide +kernel
theorem dX1_addNets_1 : decode cX1_addNets 1 = .ok (.getfield 32, 3) := by decide +kernel
theorem dX1_addNets_4 : decode cX1_addNets 4 = .ok (.istore_n 2, 1) := by decide +kernel
theorem dX1_addNets_5 : decode cX1_addNets 5 = .ok (.iconst 0, 1) := by decide +kernel
theorem dX1_addNets_6 : decode cX1_addNets 6 = .ok (.istore_n 3, 1) := by decide +kernel
theorem dX1_addNets_7 : decode cX1_addNets 7 = .ok (.iload_n 3, 1) := by decide +kernel
theorem dX1_addNets_8 : decode cX1_addNets 8 = .ok (.iload_n 1, 1) := by decide +kernel
theorem dX1_addNets_9 : decode cX1_addNets 9 = .ok (.if_icmp .ge 32, 3) := by decide +kernel
theorem dX1_addNets_12 : decode cX1_addNets 12 = .ok (.aload_n 0, 1) := by decide +kernel
theorem dX1_addNets_13 : decode cX1_addNets 13 = .ok (.getfield 9, 3) := by decide +kernel
theorem dX1_addNets_16 : decode cX1_addNets 16 = .ok (.aload_n 0, 1) := by decide +kernel
theorem dX1_addNets_17 : decode cX1_addNets 17 = .ok (.getfield 32, 3) := by decide +kernel
theorem dX1_addNets_20 : decode cX1_addNets 20 = .ok (.aload_n 0, 1) := by decide +kernel
theorem dX1_addNets_21 : decode cX1_addNets 21 = .ok (.getfield 32, 3) := by decide +kernel
theorem dX1_addNets_24 : decode cX1_addNets 24 = .ok (.iastore, 1) := by decide +kernel
theorem dX1_addNets_25 : decode cX1_addNets 25 = .ok (.aload_n 0, 1) := by decide +kernel
theorem dX1_addNets_26 : decode cX1_addNets 26 = .ok (.dup, 1) := by decide +kernel
theorem dX1_addNets_27 : decode cX1_addNets 27 = .ok (.getfield 32, 3) := by decide +kernel
theorem dX1_addNets_30 : decode cX1_addNets 30 = .ok (.iconst 1, 1) := by decide +kernel
theorem dX1_addNets_31 : decode cX1_addNets 31 = .ok (.iadd, 1) := by decide +kernel
theorem dX1_addNets_32 : decode cX1_addNets 32 = .ok (.putfield 32, 3) := by decide +kernel
theorem dX1_addNets_35 : decode cX1_addNets 35 = .ok (.iinc 3 1, 3) := by decide +kernel
theorem dX1_addNets_38 : decode cX1_addNets 38 = .ok (.goto (-31), 3) := by decide +kernel
theorem dX1_addNets_41 : decode cX1_addNets 41 = .ok (.iload_n 2, 1) := by decide +kernel
theorem dX1_addNets_42 : decode cX1_addNets 42 = .ok (.ireturn, 1) := by decide +kernel
theorem dX1_addLeaf_0 : decode cX1_addLeaf 0 = .ok (.aload_n 0, 1) := by decide +kernel
theorem dX1_addLeaf_1 : decode cX1_addLeaf 1 = .ok (.getfield 20, 3) := by decide +kernel
theorem dX1_addLeaf_4 : decode cX1_addLeaf 4 = .ok (.aload_n 0, 1) := by decide +kernel
theorem dX1_addLeaf_5 : decode cX1_addLeaf 5 = .ok (.getfield 36, 3) := by decide +kernel
theorem dX1_addLeaf_8 : decode cX1_addLeaf 8 = .ok (.aload_n 1, 1) := by decide +kernel
theorem dX1_addLeaf_9 : decode cX1_addLeaf 9 = .ok (.aastore, 1) := by decide +kernel
theorem dX1_addLeaf_10 : decode cX1_addLeaf 10 = .ok (.aload_n 0, 1) := by decide +kernel
theorem dX1_addLeaf_11 : decode cX1_addLeaf 11 = .ok (.getfield 24, 3) := by decide +kernel
theorem dX1_addLeaf_14 : decode cX1_addLeaf 14 = .ok (.aload_n 0, 1) := by decide +kernel
theorem dX1_addLeaf_15 : decode cX1_addLeaf 15 = .ok (.getfield 36, 3) := by decide +kernel
theorem dX1_addLeaf_18 : decode cX1_addLeaf 18 = .ok (.iload_n 2, 1) := by decide +kernel
theorem dX1_addLeaf_19 : decode cX1_addLeaf 19 = .ok (.iastore, 1) := by decide +kernel
theorem dX1_addLeaf_20 : decode cX1_addLeaf 20 = .ok (.aload_n 0, 1) := by decide +kernel
theorem dX1_addLeaf_21 : decode cX1_addLeaf 21 = .ok (.getfield 28, 3) := by decide +kernel
theorem dX1_addLeaf_24 : decode cX1_addLeaf 24 = .ok (.aload_n 0, 1) := by decide +kernel
theorem dX1_addLeaf_25 : decode cX1_addLeaf 25 = .ok (.getfield 36, 3) := by decide +kernel
theorem dX1_addLeaf_28 : decode cX1_addLeaf 28 = .ok (.aload_n 0, 1) := by decide +kernel
theorem dX1_addLeaf_29 : decode cX1_addLeaf 29 = .ok (.getfield 15, 3) := by decide +kernel
theorem dX1_addLeaf_32 : decode cX1_addLeaf 32 = .ok (.iload_n 3, 1) := by decide +kernel
theorem dX1_addLeaf_33 : decode cX1_addLeaf 33 = .ok (.invokestatic 39, 3) := by decide +kernel
theorem dX1_addLeaf_36 : decode cX1_addLeaf 36 = .ok (.aastore, 1) := by decide +kernel
theorem dX1_addLeaf_37 : decode cX1_addLeaf 37 = .ok (.aload_n 0, 1) := by decide +kernel
theorem dX1_addLeaf_38 : decode cX1_addLeaf 38 = .ok (.dup, 1) := by decide +kernel
theorem dX1_addLeaf_39 : decode cX1_addLeaf 39 = .ok (.getfield 36, 3) := by decide +kernel
theorem dX1_addLeaf_42 : decode cX1_addLeaf 42 = .ok (.iconst 1, 1) := by decide +kernel
theorem dX1_addLeaf_43 : decode cX1_addLeaf 43 = .ok (.iadd, 1) := by decide +kernel
theorem dX1_addLeaf_44 : decode cX1_addLeaf 44 = .ok (.putfield 36, 3) := by decide +kernel
theorem dX1_addLeaf_47 : decode cX1_addLeaf 47 = .ok (.return_, 1) := by decide +kernel
theorem dX1_uniteOver_0 : decode cX1_uniteOver 0 = .ok (.aload_n 1, 1) := by decide +kernel
theorem dX1_uniteOver_1 : decode cX1_uniteOver 1 = .ok (.getfield 45, 3) := by decide +kernel
theorem dX1_uniteOver_4 : decode cX1_uniteOver 4 = .ok (.getfield 49, 3) := by decide +kernel
theorem dX1_uniteOver_7 : decode cX1_uniteOver 7 = .ok (.getfield 55, 3) := by decide +kernel
theorem dX1_uniteOver_10 : decode cX1_uniteOver 10 = .ok (.astore 4, 2) := by decide +kernel
theorem dX1_uniteOver_12 : decode cX1_uniteOver 12 = .ok (.iconst 0, 1) := by decide +kernel
theorem dX1_uniteOver_13 : decode cX1_uniteOver 13 = .ok (.istore 5, 2) := by decide +kernel
theorem dX1_uniteOver_15 : decode cX1_uniteOver 15 = .ok (.iload 5, 2) := by decide +kernel
theorem dX1_uniteOver_17 : decode cX1_uniteOver 17 = .ok (.aload_n 1, 1) := by decide +kernel
theorem dX1_uniteOver_18 : decode cX1_uniteOver 18 = .ok (.getfield 60, 3) := by decide +kernel
theorem dX1_uniteOver_21 : decode cX1_uniteOver 21 = .ok (.arraylength, 1) := by decide +kernel
theorem dX1_uniteOver_22 : decode cX1_uniteOver 22 = .ok (.if_icmp .ge 49, 3) := by decide +kernel
theorem dX1_uniteOver_25 : decode cX1_uniteOver 25 = .ok (.aload_n 1, 1) := by decide +kernel
theorem dX1_uniteOver_26 : decode cX1_uniteOver 26 = .ok (.getfield 60, 3) := by decide +kernel
theorem dX1_uniteOver_29 : decode cX1_uniteOver 29 = .ok (.iload 5, 2) := by decide +kernel
theorem dX1_uniteOver_31 : decode cX1_uniteOver 31 = .ok (.iaload, 1) := by decide +kernel
theorem dX1_uniteOver_32 : decode cX1_uniteOver 32 = .ok (.iconst (-1), 1) := by decide +kernel
theorem dX1_uniteOver_33 : decode cX1_uniteOver 33 = .ok (.if_icmp .eq 32, 3) := by decide +kernel
theorem dX1_uniteOver_36 : decode cX1_uniteOver 36 = .ok (.aload 4, 2) := by decide +kernel
theorem dX1_uniteOver_38 : decode cX1_uniteOver 38 = .ok (.iload 5, 2) := by decide +kernel
theorem dX1_uniteOver_40 : decode cX1_uniteOver 40 = .ok (.iaload, 1) := by decide +kernel
theorem dX1_uniteOver_41 : decode cX1_uniteOver 41 = .ok (.iconst (-1), 1) := by decide +kernel
theorem dX1_uniteOver_42 : decode cX1_uniteOver 42 = .ok (.if_icmp .eq 23, 3) := by decide +kernel
theorem dX1_uniteOver_45 : decode cX1_uniteOver 45 = .ok (.aload_n 0, 1) := by decide +kernel
theorem dX1_uniteOver_46 : decode cX1_uniteOver 46 = .ok (.iload_n 2, 1) := by decide +kernel
theorem dX1_uniteOver_47 : decode cX1_uniteOver 47 = .ok (.aload_n 1, 1) := by decide +kernel
theorem dX1_uniteOver_48 : decode cX1_uniteOver 48 = .ok (.getfield 60, 3) := by decide +kernel
theorem dX1_uniteOver_51 : decode cX1_uniteOver 51 = .ok (.iload 5, 2) := by decide +kernel
theorem dX1_uniteOver_53 : decode cX1_uniteOver 53 = .ok (.iaload, 1) := by decide +kernel
theorem dX1_uniteOver_54 : decode cX1_uniteOver 54 = .ok (.iadd, 1) := by decide +kernel
theorem dX1_uniteOver_55 : decode cX1_uniteOver 55 = .ok (.iload_n 3, 1) := by decide +kernel
theorem dX1_uniteOver_56 : decode cX1_uniteOver 56 = .ok (.aload 4, 2) := by decide +kernel
theorem dX1_uniteOver_58 : decode cX1_uniteOver 58 = .ok (.iload 5, 2) := by decide +kernel
theorem dX1_uniteOver_60 : decode cX1_uniteOver 60 = .ok (.iaload, 1) := by decide +kernel
theorem dX1_uniteOver_61 : decode cX1_uniteOver 61 = .ok (.iadd, 1) := by decide +kernel
theorem dX1_uniteOver_62 : decode cX1_uniteOver 62 = .ok (.invokevirtual 61, 3) := by decide +kernel
theorem dX1_uniteOver_65 : decode cX1_uniteOver 65 = .ok (.iinc 5 1, 3) := by decide +kernel
theorem dX1_uniteOver_68 : decode cX1_uniteOver 68 = .ok (.goto (-53), 3) := by decide +kernel
theorem dX1_uniteOver_71 : decode cX1_uniteOver 71 = .ok (.return_, 1) := by decide +kernel
theorem dX1_unite_0 : decode cX1_unite 0 = .ok (.aload_n 0, 1) := by decide +kernel
theorem dX1_unite_1 : decode cX1_unite 1 = .ok (.iload_n 1, 1) := by decide +kernel
theorem dX1_unite_2 : decode cX1_unite 2 = .ok (.invokevirtual 65, 3) := by decide +kernel
theorem dX1_unite_5 : decode cX1_unite 5 = .ok (.istore_n 3, 1) := by decide +kernel
theorem dX1_unite_6 : decode cX1_unite 6 = .ok (.aload_n 0, 1) := by decide +kernel
theorem dX1_unite_7 : decode cX1_unite 7 = .ok (.iload_n 2, 1) := by decide +kernel
theorem dX1_unite_8 : decode cX1_unite 8 = .ok (.invokevirtual 65, 3) := by decide +kernel
theorem dX1_unite_11 : decode cX1_unite 11 = .ok (.istore 4, 2) := by decide +kernel
theorem dX1_unite_13 : decode cX1_unite 13 = .ok (.aload_n 0, 1) := by decide +kernel
theorem dX1_unite_14 : decode cX1_unite 14 = .ok (.getfield 9, 3) := by decide +kernel
theorem dX1_unite_17 : decode cX1_unite 17 = .ok (.iload_n 3, 1) := by decide +kernel
theorem dX1_unite_18 : decode cX1_unite 18 = .ok (.iload 4, 2) := by decide +kernel
theorem dX1_unite_20 : decode cX1_unite 20 = .ok (.invokestatic 69, 3) := by decide +kernel
theorem dX1_unite_23 : decode cX1_unite 23 = .ok (.iload_n 3, 1) := by decide +kernel
theorem dX1_unite_24 : decode cX1_unite 24 = .ok (.iload 4, 2) := by decide +kernel
theorem dX1_unite_26 : decode cX1_unite 26 = .ok (.invokestatic 75, 3) := by decide +kernel
theorem dX1_unite_29 : decode cX1_unite 29 = .ok (.iastore, 1) := by decide +kernel
theorem dX1_unite_30 : decode cX1_unite 30 = .ok (.return_, 1) := by decide +kernel
theorem dX1_firstOf_0 : decode cX1_firstOf 0 = .ok (.iload_n 1, 1) := by decide +kernel
theorem dX1_firstOf_1 : decode cX1_firstOf 1 = .ok (.istore_n 2, 1) := by decide +kernel
theorem dX1_firstOf_2 : decode cX1_firstOf 2 = .ok (.iconst 0, 1) := by decide +kernel
theorem dX1_firstOf_3 : decode cX1_firstOf 3 = .ok (.istore_n 3, 1) := by decide +kernel
theorem dX1_firstOf_4 : decode cX1_firstOf 4 = .ok (.iload_n 3, 1) := by decide +kernel
theorem dX1_firstOf_5 : decode cX1_firstOf 5 = .ok (.sipush 3000, 3) := by decide +kernel
theorem dX1_firstOf_8 : decode cX1_firstOf 8 = .ok (.if_icmp .ge 43, 3) := by decide +kernel
theorem dX1_firstOf_11 : decode cX1_firstOf 11 = .ok (.aload_n 0, 1) := by decide +kernel
theorem dX1_firstOf_12 : decode cX1_firstOf 12 = .ok (.getfield 9, 3) := by decide +kernel
theorem dX1_firstOf_15 : decode cX1_firstOf 15 = .ok (.iload_n 2, 1) := by decide +kernel
theorem dX1_firstOf_16 : decode cX1_firstOf 16 = .ok (.iaload, 1) := by decide +kernel
theorem dX1_firstOf_17 : decode cX1_firstOf 17 = .ok (.iload_n 2, 1) := by decide +kernel
theorem dX1_firstOf_18 : decode cX1_firstOf 18 = .ok (.if_icmp .eq 33, 3) := by decide +kernel
theorem dX1_firstOf_21 : decode cX1_firstOf 21 = .ok (.aload_n 0, 1) := by decide +kernel
theorem dX1_firstOf_22 : decode cX1_firstOf 22 = .ok (.getfield 9, 3) := by decide +kernel
theorem dX1_firstOf_25 : decode cX1_firstOf 25 = .ok (.iload_n 2, 1) := by decide +kernel
theorem dX1_firstOf_26 : decode cX1_firstOf 26 = .ok (.aload_n 0, 1) := by decide +kernel
theorem dX1_firstOf_27 : decode cX1_firstOf 27 = .ok (.getfield 9, 3) := by decide +kernel
theorem dX1_firstOf_30 : decode cX1_firstOf 30 = .ok (.aload_n 0, 1) := by decide +kernel
theorem dX1_firstOf_31 : decode cX1_firstOf 31 = .ok (.getfield 9, 3) := by decide +kernel
theorem dX1_firstOf_34 : decode cX1_firstOf 34 = .ok (.iload_n 2, 1) := by decide +kernel
theorem dX1_firstOf_35 : decode cX1_firstOf 35 = .ok (.iaload, 1) := by decide +kernel
theorem dX1_firstOf_36 : decode cX1_firstOf 36 = .ok (.iaload, 1) := by decide +kernel
theorem dX1_firstOf_37 : decode cX1_firstOf 37 = .ok (.iastore, 1) := by decide +kernel
theorem dX1_firstOf_38 : decode cX1_firstOf 38 = .ok (.aload_n 0, 1) := by decide +kernel
theorem dX1_firstOf_39 : decode cX1_firstOf 39 = .ok (.getfield 9, 3) := by decide +kernel
theorem dX1_firstOf_42 : decode cX1_firstOf 42 = .ok (.iload_n 2, 1) := by decide +kernel
theorem dX1_firstOf_43 : decode cX1_firstOf 43 = .ok (.iaload, 1) := by decide +kernel
theorem dX1_firstOf_44 : decode cX1_firstOf 44 = .ok (.istore_n 2, 1) := by decide +kernel
theorem dX1_firstOf_45 : decode cX1_firstOf 45 = .ok (.iinc 3 1, 3) := by decide +kernel
theorem dX1_firstOf_48 : decode cX1_firstOf 48 = .ok (.goto (-44), 3) := by decide +kernel
theorem dX1_firstOf_51 : decode cX1_firstOf 51 = .ok (.iload_n 2, 1) := by decide +kernel
theorem dX1_firstOf_52 : decode cX1_firstOf 52 = .ok (.ireturn, 1) := by decide +kernel
theorem dX1_numberNets_0 : decode cX1_numberNets 0 = .ok (.iconst 0, 1) := by decide +kernel
theorem dX1_numberNets_1 : decode cX1_numberNets 1 = .ok (.istore_n 1, 1) := by decide +kernel
theorem dX1_numberNets_2 : decode cX1_numberNets 2 = .ok (.iconst 0, 1) := by decide +kernel
theorem dX1_numberNets_3 : decode cX1_numberNets 3 = .ok (.istore_n 2, 1) := by decide +kernel
theorem dX1_numberNets_4 : decode cX1_numberNets 4 = .ok (.iload_n 2, 1) := by decide +kernel
theorem dX1_numberNets_5 : decode cX1_numberNets 5 = .ok (.aload_n 0, 1) := by decide +kernel
theorem dX1_numberNets_6 : decode cX1_numberNets 6 = .ok (.getfield 32, 3) := by decide +kernel
theorem dX1_numberNets_9 : decode cX1_numberNets 9 = .ok (.if_icmp .ge 46, 3) := by decide +kernel
theorem dX1_numberNets_12 : decode cX1_numberNets 12 = .ok (.aload_n 0, 1) := by decide +kernel
theorem dX1_numberNets_13 : decode cX1_numberNets 13 = .ok (.getfield 9, 3) := by decide +kernel
theorem dX1_numberNets_16 : decode cX1_numberNets 16 = .ok (.iload_n 2, 1) := by decide +kernel
theorem dX1_numberNets_17 : decode cX1_numberNets 17 = .ok (.iaload, 1) := by decide +kernel
theorem dX1_numberNets_18 : decode cX1_numberNets 18 = .ok (.istore_n 3, 1) := by decide +kernel
theorem dX1_numberNets_19 : decode cX1_numberNets 19 = .ok (.iload_n 3, 1) := by decide +kernel
theorem dX1_numberNets_20 : decode cX1_numberNets 20 = .ok (.iload_n 2, 1) := by decide +kernel
theorem dX1_numberNets_21 : decode cX1_numberNets 21 = .ok (.if_icmp .ne 16, 3) := by decide +kernel
theorem dX1_numberNets_24 : decode cX1_numberNets 24 = .ok (.aload_n 0, 1) := by decide +kernel
theorem dX1_numberNets_25 : decode cX1_numberNets 25 = .ok (.getfield 9, 3) := by decide +kernel
theorem dX1_numberNets_28 : decode cX1_numberNets 28 = .ok (.iload_n 2, 1) := by decide +kernel
theorem dX1_numberNets_29 : decode cX1_numberNets 29 = .ok (.iload_n 1, 1) := by decide +kernel
theorem dX1_numberNets_30 : decode cX1_numberNets 30 = .ok (.iastore, 1) := by decide +kernel
theorem dX1_numberNets_31 : decode cX1_numberNets 31 = .ok (.iinc 1 1, 3) := by decide +kernel
theorem dX1_numberNets_34 : decode cX1_numberNets 34 = .ok (.goto 15, 3) := by decide +kernel
theorem dX1_numberNets_37 : decode cX1_numberNets 37 = .ok (.aload_n 0, 1) := by decide +kernel
theorem dX1_numberNets_38 : decode cX1_numberNets 38 = .ok (.getfield 9, 3) := by decide +kernel
theorem dX1_numberNets_41 : decode cX1_numberNets 41 = .ok (.iload_n 2, 1) := by decide +kernel
theorem dX1_numberNets_42 : decode cX1_numberNets 42 = .ok (.aload_n 0, 1) := by decide +kernel
theorem dX1_numberNets_43 : decode cX1_numberNets 43 = .ok (.getfield 9, 3) := by decide +kernel
theorem dX1_numberNets_46 : decode cX1_numberNets 46 = .ok (.iload_n 3, 1) := by decide +kernel
theorem dX1_numberNets_47 : decode cX1_numberNets 47 = .ok (.iaload, 1) := by decide +kernel
theorem dX1_numberNets_48 : decode cX1_numberNets 48 = .ok (.iastore, 1) := by decide +kernel
theorem dX1_numberNets_49 : decode cX1_numberNets 49 = .ok (.iinc 2 1, 3) := by decide +kernel
theorem dX1_numberNets_52 : decode cX1_numberNets 52 = .ok (.goto (-48), 3) := by decide +kernel
theorem dX1_numberNets_55 : decode cX1_numberNets 55 = .ok (.iload_n 1, 1) := by decide +kernel
theorem dX1_numberNets_56 : decode cX1_numberNets 56 = .ok (.ireturn, 1) := by decide +kernel
theorem dX1_insideFor_0 : decode cX1_insideFor 0 = .ok (.new 56, 3) := by decide +kernel
theorem dX1_insideFor_3 : decode cX1_insideFor 3 = .ok (.dup, 1) := by decide +kernel
theorem dX1_insideFor_4 : decode cX1_insideFor 4 = .ok (.invokespecial 78, 3) := by decide +kernel
theorem dX1_insideFor_7 : decode cX1_insideFor 7 = .ok (.astore_n 3, 1) := by decide +kernel
theorem dX1_insideFor_8 : decode cX1_insideFor 8 = .ok (.aload_n 3, 1) := by decide +kernel
theorem dX1_insideFor_9 : decode cX1_insideFor 9 = .ok (.iload_n 2, 1) := by decide +kernel
theorem dX1_insideFor_10 : decode cX1_insideFor 10 = .ok (.putfield 79, 3) := by decide +kernel
theorem dX1_insideFor_13 : decode cX1_insideFor 13 = .ok (.aload_n 0, 1) := by decide +kernel
theorem dX1_insideFor_14 : decode cX1_insideFor 14 = .ok (.aload_n 1, 1) := by decide +kernel
theorem dX1_insideFor_15 : decode cX1_insideFor 15 = .ok (.getfield 49, 3) := by decide +kernel
theorem dX1_insideFor_18 : decode cX1_insideFor 18 = .ok (.getfield 55, 3) := by decide +kernel
theorem dX1_insideFor_21 : decode cX1_insideFor 21 = .ok (.iconst 0, 1) := by decide +kernel
theorem dX1_insideFor_22 : decode cX1_insideFor 22 = .ok (.aload_n 3, 1) := by decide +kernel
theorem dX1_insideFor_23 : decode cX1_insideFor 23 = .ok (.getfield 55, 3) := by decide +kernel
theorem dX1_insideFor_26 : decode cX1_insideFor 26 = .ok (.invokevirtual 80, 3) := by decide +kernel
theorem dX1_insideFor_29 : decode cX1_insideFor 29 = .ok (.iconst 0, 1) := by decide +kernel
theorem dX1_insideFor_30 : decode cX1_insideFor 30 = .ok (.istore 4, 2) := by decide +kernel
theorem dX1_insideFor_32 : decode cX1_insideFor 32 = .ok (.iload 4, 2) := by decide +kernel
theorem dX1_insideFor_34 : decode cX1_insideFor 34 = .ok (.aload_n 0, 1) := by decide +kernel
theorem dX1_insideFor_35 : decode cX1_insideFor 35 = .ok (.getfield 36, 3) := by decide +kernel
theorem dX1_insideFor_38 : decode cX1_insideFor 38 = .ok (.if_icmp .ge 78, 3) := by decide +kernel
theorem dX1_insideFor_41 : decode cX1_insideFor 41 = .ok (.aload_n 0, 1) := by decide +kernel
theorem dX1_insideFor_42 : decode cX1_insideFor 42 = .ok (.getfield 20, 3) := by decide +kernel
theorem dX1_insideFor_45 : decode cX1_insideFor 45 = .ok (.iload 4, 2) := by decide +kernel
theorem dX1_insideFor_47 : decode cX1_insideFor 47 = .ok (.aaload, 1) := by decide +kernel
theorem dX1_insideFor_48 : decode cX1_insideFor 48 = .ok (.getfield 60, 3) := by decide +kernel
theorem dX1_insideFor_51 : decode cX1_insideFor 51 = .ok (.arraylength, 1) := by decide +kernel
theorem dX1_insideFor_52 : decode cX1_insideFor 52 = .ok (.newarray .int, 2) := by decide +kernel
theorem dX1_insideFor_54 : decode cX1_insideFor 54 = .ok (.astore 5, 2) := by decide +kernel
theorem dX1_insideFor_56 : decode cX1_insideFor 56 = .ok (.aload_n 0, 1) := by decide +kernel
theorem dX1_insideFor_57 : decode cX1_insideFor 57 = .ok (.aload_n 0, 1) := by decide +kernel
theorem dX1_insideFor_58 : decode cX1_insideFor 58 = .ok (.getfield 20, 3) := by decide +kernel
theorem dX1_insideFor_61 : decode cX1_insideFor 61 = .ok (.iload 4, 2) := by decide +kernel
theorem dX1_insideFor_63 : decode cX1_insideFor 63 = .ok (.aaload, 1) := by decide +kernel
theorem dX1_insideFor_64 : decode cX1_insideFor 64 = .ok (.getfield 60, 3) := by decide +kernel
theorem dX1_insideFor_67 : decode cX1_insideFor 67 = .ok (.aload_n 0, 1) := by decide +kernel
theorem dX1_insideFor_68 : decode cX1_insideFor 68 = .ok (.getfield 24, 3) := by decide +kernel
theorem dX1_insideFor_71 : decode cX1_insideFor 71 = .ok (.iload 4, 2) := by decide +kernel
theorem dX1_insideFor_73 : decode cX1_insideFor 73 = .ok (.iaload, 1) := by decide +kernel
theorem dX1_insideFor_74 : decode cX1_insideFor 74 = .ok (.aload 5, 2) := by decide +kernel
theorem dX1_insideFor_76 : decode cX1_insideFor 76 = .ok (.invokevirtual 80, 3) := by decide +kernel
theorem dX1_insideFor_79 : decode cX1_insideFor 79 = .ok (.aload_n 3, 1) := by decide +kernel
theorem dX1_insideFor_80 : decode cX1_insideFor 80 = .ok (.new 18, 3) := by decide +kernel
theorem dX1_insideFor_83 : decode cX1_insideFor 83 = .ok (.dup, 1) := by decide +kernel
theorem dX1_insideFor_84 : decode cX1_insideFor 84 = .ok (.aload_n 0, 1) := by decide +kernel
theorem dX1_insideFor_85 : decode cX1_insideFor 85 = .ok (.getfield 20, 3) := by decide +kernel
theorem dX1_insideFor_88 : decode cX1_insideFor 88 = .ok (.iload 4, 2) := by decide +kernel
theorem dX1_insideFor_90 : decode cX1_insideFor 90 = .ok (.aaload, 1) := by decide +kernel
theorem dX1_insideFor_91 : decode cX1_insideFor 91 = .ok (.getfield 45, 3) := by decide +kernel
theorem dX1_insideFor_94 : decode cX1_insideFor 94 = .ok (.aload_n 0, 1) := by decide +kernel
theorem dX1_insideFor_95 : decode cX1_insideFor 95 = .ok (.getfield 28, 3) := by decide +kernel
theorem dX1_insideFor_98 : decode cX1_insideFor 98 = .ok (.iload 4, 2) := by decide +kernel
theorem dX1_insideFor_100 : decode cX1_insideFor 100 = .ok (.aaload, 1) := by decide +kernel
theorem dX1_insideFor_101 : decode cX1_insideFor 101 = .ok (.aload 5, 2) := by decide +kernel
theorem dX1_insideFor_103 : decode cX1_insideFor 103 = .ok (.invokespecial 84, 3) := by decide +kernel
theorem dX1_insideFor_106 : decode cX1_insideFor 106 = .ok (.invokevirtual 87, 3) := by decide +kernel
theorem dX1_insideFor_109 : decode cX1_insideFor 109 = .ok (.pop, 1) := by decide +kernel
theorem dX1_insideFor_110 : decode cX1_insideFor 110 = .ok (.iinc 4 1, 3) := by decide +kernel
theorem dX1_insideFor_113 : decode cX1_insideFor 113 = .ok (.goto (-81), 3) := by decide +kernel
theorem dX1_insideFor_116 : decode cX1_insideFor 116 = .ok (.aload_n 3, 1) := by decide +kernel
theorem dX1_insideFor_117 : decode cX1_insideFor 117 = .ok (.areturn, 1) := by decide +kernel
theorem dX1_renumber_0 : decode cX1_renumber 0 = .ok (.iconst 0, 1) := by decide +kernel
theorem dX1_renumber_1 : decode cX1_renumber 1 = .ok (.istore 4, 2) := by decide +kernel
theorem dX1_renumber_3 : decode cX1_renumber 3 = .ok (.iload 4, 2) := by decide +kernel
theorem dX1_renumber_5 : decode cX1_renumber 5 = .ok (.aload_n 1, 1) := by decide +kernel
theorem dX1_renumber_6 : decode cX1_renumber 6 = .ok (.arraylength, 1) := by decide +kernel
theorem dX1_renumber_7 : decode cX1_renumber 7 = .ok (.if_icmp .ge 36, 3) := by decide +kernel
theorem dX1_renumber_10 : decode cX1_renumber 10 = .ok (.aload_n 3, 1) := by decide +kernel
theorem dX1_renumber_11 : decode cX1_renumber 11 = .ok (.iload 4, 2) := by decide +kernel
theorem dX1_renumber_13 : decode cX1_renumber 13 = .ok (.aload_n 1, 1) := by decide +kernel
theorem dX1_renumber_14 : decode cX1_renumber 14 = .ok (.iload 4, 2) := by decide +kernel
theorem dX1_renumber_16 : decode cX1_renumber 16 = .ok (.iaload, 1) := by decide +kernel
theorem dX1_renumber_17 : decode cX1_renumber 17 = .ok (.iconst (-1), 1) := by decide +kernel
theorem dX1_renumber_18 : decode cX1_renumber 18 = .ok (.if_icmp .ne 7, 3) := by decide +kernel
theorem dX1_renumber_21 : decode cX1_renumber 21 = .ok (.iconst (-1), 1) := by decide +kernel
theorem dX1_renumber_22 : decode cX1_renumber 22 = .ok (.goto 14, 3) := by decide +kernel
theorem dX1_renumber_25 : decode cX1_renumber 25 = .ok (.aload_n 0, 1) := by decide +kernel
theorem dX1_renumber_26 : decode cX1_renumber 26 = .ok (.getfield 9, 3) := by decide +kernel
theorem dX1_renumber_29 : decode cX1_renumber 29 = .ok (.iload_n 2, 1) := by decide +kernel
theorem dX1_renumber_30 : decode cX1_renumber 30 = .ok (.aload_n 1, 1) := by decide +kernel
theorem dX1_renumber_31 : decode cX1_renumber 31 = .ok (.iload 4, 2) := by decide +kernel
theorem dX1_renumber_33 : decode cX1_renumber 33 = .ok (.iaload, 1) := by decide +kernel
theorem dX1_renumber_34 : decode cX1_renumber 34 = .ok (.iadd, 1) := by decide +kernel
theorem dX1_renumber_35 : decode cX1_renumber 35 = .ok (.iaload, 1) := by decide +kernel
theorem dX1_renumber_36 : decode cX1_renumber 36 = .ok (.iastore, 1) := by decide +kernel
theorem dX1_renumber_37 : decode cX1_renumber 37 = .ok (.iinc 4 1, 3) := by decide +kernel
theorem dX1_renumber_40 : decode cX1_renumber 40 = .ok (.goto (-37), 3) := by decide +kernel
theorem dX1_renumber_43 : decode cX1_renumber 43 = .ok (.return_, 1) := by decide +kernel
theorem dX2_init_0 : decode cX2_init 0 = .ok (.aload_n 0, 1) := by decide +kernel
theorem dX2_init_1 : decode cX2_init 1 = .ok (.invokespecial 3, 3) := by decide +kernel
theorem dX2_init_4 : decode cX2_init 4 = .ok (.aload_n 0, 1) := by decide +kernel
theorem dX2_init_5 : decode cX2_init 5 = .ok (.bipush 24, 2) := by decide +kernel
theorem dX2_init_7 : decode cX2_init 7 = .ok (.anewarray 9, 3) := by decide +kernel
theorem dX2_init_10 : decode cX2_init 10 = .ok (.putfield 11, 3) := by decide +kernel
theorem dX2_init_13 : decode cX2_init 13 = .ok (.aload_n 0, 1) := by decide +kernel
theorem dX2_init_14 : decode cX2_init 14 = .ok (.bipush 24, 2) := by decide +kernel
theorem dX2_init_16 : decode cX2_init 16 = .ok (.newarray .boolean, 2) := by decide +kernel
theorem dX2_init_18 : decode cX2_init 18 = .ok (.putfield 17, 3) := by decide +kernel
theorem dX2_init_21 : decode cX2_init 21 = .ok (.aload_n 0, 1) := by decide +kernel
theorem dX2_init_22 : decode cX2_init 22 = .ok (.iconst 0, 1) := by decide +kernel
theorem dX2_init_23 : decode cX2_init 23 = .ok (.putfield 21, 3) := by decide +kernel
theorem dX2_init_26 : decode cX2_init 26 = .ok (.return_, 1) := by decide +kernel
theorem dX2_restart_0 : decode cX2_restart 0 = .ok (.aload_n 0, 1) := by decide +kernel
theorem dX2_restart_1 : decode cX2_restart 1 = .ok (.iconst 0, 1) := by decide +kernel
theorem dX2_restart_2 : decode cX2_restart 2 = .ok (.putfield 21, 3) := by decide +kernel
theorem dX2_restart_5 : decode cX2_restart 5 = .ok (.iconst 0, 1) := by decide +kernel
theorem dX2_restart_6 : decode cX2_restart 6 = .ok (.istore_n 1, 1) := by decide +kernel
theorem dX2_restart_7 : decode cX2_restart 7 = .ok (.iload_n 1, 1) := by decide +kernel
theorem dX2_restart_8 : decode cX2_restart 8 = .ok (.bipush 24, 2) := by decide +kernel
theorem dX2_restart_10 : decode cX2_restart 10 = .ok (.if_icmp .ge 16, 3) := by decide +kernel
theorem dX2_restart_13 : decode cX2_restart 13 = .ok (.aload_n 0, 1) := by decide +kernel
theorem dX2_restart_14 : decode cX2_restart 14 = .ok (.getfield 17, 3) := by decide +kernel
theorem dX2_restart_17 : decode cX2_restart 17 = .ok (.iload_n 1, 1) := by decide +kernel
theorem dX2_restart_18 : decode cX2_restart 18 = .ok (.iconst 0, 1) := by decide +kernel
theorem dX2_restart_19 : decode cX2_restart 19 = .ok (.bastore, 1) := by decide +kernel
theorem dX2_restart_20 : decode cX2_restart 20 = .ok (.iinc 1 1, 3) := by decide +kernel
theorem dX2_restart_23 : decode cX2_restart 23 = .ok (.goto (-16), 3) := by decide +kernel
theorem dX2_restart_26 : decode cX2_restart 26 = .ok (.return_, 1) := by decide +kernel
theorem dX2_add_0 : decode cX2_add 0 = .ok (.aload_n 0, 1) := by decide +kernel
theorem dX2_add_1 : decode cX2_add 1 = .ok (.getfield 11, 3) := by decide +kernel
theorem dX2_add_4 : decode cX2_add 4 = .ok (.aload_n 0, 1) := by decide +kernel
theorem dX2_add_5 : decode cX2_add 5 = .ok (.getfield 21, 3) := by decide +kernel
theorem dX2_add_8 : decode cX2_add 8 = .ok (.aload_n 1, 1) := by decide +kernel
theorem dX2_add_9 : decode cX2_add 9 = .ok (.aastore, 1) := by decide +kernel
theorem dX2_add_10 : decode cX2_add 10 = .ok (.aload_n 0, 1) := by decide +kernel
theorem dX2_add_11 : decode cX2_add 11 = .ok (.dup, 1) := by decide +kernel
theorem dX2_add_12 : decode cX2_add 12 = .ok (.getfield 21, 3) := by decide +kernel
theorem dX2_add_15 : decode cX2_add 15 = .ok (.iconst 1, 1) := by decide +kernel
theorem dX2_add_16 : decode cX2_add 16 = .ok (.iadd, 1) := by decide +kernel
theorem dX2_add_17 : decode cX2_add 17 = .ok (.putfield 21, 3) := by decide +kernel
theorem dX2_add_20 : decode cX2_add 20 = .ok (.return_, 1) := by decide +kernel
theorem dX3_init_0 : decode cX3_init 0 = .ok (.aload_n 0, 1) := by decide +kernel
theorem dX3_init_1 : decode cX3_init 1 = .ok (.invokespecial 1, 3) := by decide +kernel
theorem dX3_init_4 : decode cX3_init 4 = .ok (.aload_n 0, 1) := by decide +kernel
theorem dX3_init_5 : decode cX3_init 5 = .ok (.aload_n 1, 1) := by decide +kernel
theorem dX3_init_6 : decode cX3_init 6 = .ok (.putfield 7, 3) := by decide +kernel
theorem dX3_init_9 : decode cX3_init 9 = .ok (.aload_n 0, 1) := by decide +kernel
theorem dX3_init_10 : decode cX3_init 10 = .ok (.aload_n 2, 1) := by decide +kernel
theorem dX3_init_11 : decode cX3_init 11 = .ok (.putfield 13, 3) := by decide +kernel
theorem dX3_init_14 : decode cX3_init 14 = .ok (.aload_n 0, 1) := by decide +kernel
theorem dX3_init_15 : decode cX3_init 15 = .ok (.aload_n 3, 1) := by decide +kernel
theorem dX3_init_16 : decode cX3_init 16 = .ok (.putfield 17, 3) := by decide +kernel
theorem dX3_init_19 : decode cX3_init 19 = .ok (.return_, 1) := by decide +kernel
theorem dX4_init_0 : decode cX4_init 0 = .ok (.aload_n 0, 1) := by decide +kernel
theorem dX4_init_1 : decode cX4_init 1 = .ok (.invokespecial 3, 3) := by decide +kernel
theorem dX4_init_4 : decode cX4_init 4 = .ok (.aload_n 0, 1) := by decide +kernel
theorem dX4_init_5 : decode cX4_init 5 = .ok (.bipush 16, 2) := by decide +kernel
theorem dX4_init_7 : decode cX4_init 7 = .ok (.newarray .int, 2) := by decide +kernel
theorem dX4_init_9 : decode cX4_init 9 = .ok (.putfield 9, 3) := by decide +kernel
theorem dX4_init_12 : decode cX4_init 12 = .ok (.aload_n 0, 1) := by decide +kernel
theorem dX4_init_13 : decode cX4_init 13 = .ok (.sipush 128, 3) := by decide +kernel
theorem dX4_init_16 : decode cX4_init 16 = .ok (.newarray .boolean, 2) := by decide +kernel
theorem dX4_init_18 : decode cX4_init 18 = .ok (.putfield 15, 3) := by decide +kernel
theorem dX4_init_21 : decode cX4_init 21 = .ok (.aload_n 0, 1) := by decide +kernel
theorem dX4_init_22 : decode cX4_init 22 = .ok (.iconst 0, 1) := by decide +kernel
theorem dX4_init_23 : decode cX4_init 23 = .ok (.putfield 19, 3) := by decide +kernel
theorem dX4_init_26 : decode cX4_init 26 = .ok (.aload_n 0, 1) := by decide +kernel
theorem dX4_init_27 : decode cX4_init 27 = .ok (.iconst 0, 1) := by decide +kernel
theorem dX4_init_28 : decode cX4_init 28 = .ok (.putfield 23, 3) := by decide +kernel
theorem dX4_init_31 : decode cX4_init 31 = .ok (.aload_n 0, 1) := by decide +kernel
theorem dX4_init_32 : decode cX4_init 32 = .ok (.iconst 0, 1) := by decide +kernel
theorem dX4_init_33 : decode cX4_init 33 = .ok (.putfield 26, 3) := by decide +kernel
theorem dX4_init_36 : decode cX4_init 36 = .ok (.aload_n 0, 1) := by decide +kernel
theorem dX4_init_37 : decode cX4_init 37 = .ok (.iload_n 1, 1) := by decide +kernel
theorem dX4_init_38 : decode cX4_init 38 = .ok (.putfield 30, 3) := by decide +kernel
theorem dX4_init_41 : decode cX4_init 41 = .ok (.aload_n 0, 1) := by decide +kernel
theorem dX4_init_42 : decode cX4_init 42 = .ok (.aload_n 2, 1) := by decide +kernel
theorem dX4_init_43 : decode cX4_init 43 = .ok (.putfield 33, 3) := by decide +kernel
theorem dX4_init_46 : decode cX4_init 46 = .ok (.return_, 1) := by decide +kernel
theorem dX4_addPort_0 : decode cX4_addPort 0 = .ok (.iconst 0, 1) := by decide +kernel
theorem dX4_addPort_1 : decode cX4_addPort 1 = .ok (.istore_n 3, 1) := by decide +kernel
theorem dX4_addPort_2 : decode cX4_addPort 2 = .ok (.iload_n 3, 1) := by decide +kernel
theorem dX4_addPort_3 : decode cX4_addPort 3 = .ok (.iload_n 1, 1) := by decide +kernel
theorem dX4_addPort_4 : decode cX4_addPort 4 = .ok (.if_icmp .ge 21, 3) := by decide +kernel
theorem dX4_addPort_7 : decode cX4_addPort 7 = .ok (.aload_n 0, 1) := by decide +kernel
theorem dX4_addPort_8 : decode cX4_addPort 8 = .ok (.getfield 15, 3) := by decide +kernel
theorem dX4_addPort_11 : decode cX4_addPort 11 = .ok (.aload_n 0, 1) := by decide +kernel
theorem dX4_addPort_12 : decode cX4_addPort 12 = .ok (.getfield 23, 3) := by decide +kernel
theorem dX4_addPort_15 : decode cX4_addPort 15 = .ok (.iload_n 3, 1) := by decide +kernel
theorem dX4_addPort_16 : decode cX4_addPort 16 = .ok (.iadd, 1) := by decide +kernel
theorem dX4_addPort_17 : decode cX4_addPort 17 = .ok (.iload_n 2, 1) := by decide +kernel
theorem dX4_addPort_18 : decode cX4_addPort 18 = .ok (.bastore, 1) := by decide +kernel
theorem dX4_addPort_19 : decode cX4_addPort 19 = .ok (.iinc 3 1, 3) := by decide +kernel
theorem dX4_addPort_22 : decode cX4_addPort 22 = .ok (.goto (-20), 3) := by decide +kernel
theorem dX4_addPort_25 : decode cX4_addPort 25 = .ok (.aload_n 0, 1) := by decide +kernel
theorem dX4_addPort_26 : decode cX4_addPort 26 = .ok (.getfield 9, 3) := by decide +kernel
theorem dX4_addPort_29 : decode cX4_addPort 29 = .ok (.aload_n 0, 1) := by decide +kernel
theorem dX4_addPort_30 : decode cX4_addPort 30 = .ok (.getfield 19, 3) := by decide +kernel
theorem dX4_addPort_33 : decode cX4_addPort 33 = .ok (.iload_n 1, 1) := by decide +kernel
theorem dX4_addPort_34 : decode cX4_addPort 34 = .ok (.iastore, 1) := by decide +kernel
theorem dX4_addPort_35 : decode cX4_addPort 35 = .ok (.aload_n 0, 1) := by decide +kernel
theorem dX4_addPort_36 : decode cX4_addPort 36 = .ok (.dup, 1) := by decide +kernel
theorem dX4_addPort_37 : decode cX4_addPort 37 = .ok (.getfield 23, 3) := by decide +kernel
theorem dX4_addPort_40 : decode cX4_addPort 40 = .ok (.iload_n 1, 1) := by decide +kernel
theorem dX4_addPort_41 : decode cX4_addPort 41 = .ok (.iadd, 1) := by decide +kernel
theorem dX4_addPort_42 : decode cX4_addPort 42 = .ok (.putfield 23, 3) := by decide +kernel
theorem dX4_addPort_45 : decode cX4_addPort 45 = .ok (.aload_n 0, 1) := by decide +kernel
theorem dX4_addPort_46 : decode cX4_addPort 46 = .ok (.dup, 1) := by decide +kernel
theorem dX4_addPort_47 : decode cX4_addPort 47 = .ok (.getfield 19, 3) := by decide +kernel
theorem dX4_addPort_50 : decode cX4_addPort 50 = .ok (.iconst 1, 1) := by decide +kernel
theorem dX4_addPort_51 : decode cX4_addPort 51 = .ok (.iadd, 1) := by decide +kernel
theorem dX4_addPort_52 : decode cX4_addPort 52 = .ok (.putfield 19, 3) := by decide +kernel
theorem dX4_addPort_55 : decode cX4_addPort 55 = .ok (.aload_n 0, 1) := by decide +kernel
theorem dX4_addPort_56 : decode cX4_addPort 56 = .ok (.getfield 19, 3) := by decide +kernel
theorem dX4_addPort_59 : decode cX4_addPort 59 = .ok (.iconst 1, 1) := by decide +kernel
theorem dX4_addPort_60 : decode cX4_addPort 60 = .ok (.isub, 1) := by decide +kernel
theorem dX4_addPort_61 : decode cX4_addPort 61 = .ok (.ireturn, 1) := by decide +kernel
theorem dX4_takePorts_0 : decode cX4_takePorts 0 = .ok (.aload_n 1, 1) := by decide +kernel
theorem dX4_takePorts_1 : decode cX4_takePorts 1 = .ok (.getfield 9, 3) := by decide +kernel
theorem dX4_takePorts_4 : decode cX4_takePorts 4 = .ok (.iconst 0, 1) := by decide +kernel
theorem dX4_takePorts_5 : decode cX4_takePorts 5 = .ok (.aload_n 0, 1) := by decide +kernel
theorem dX4_takePorts_6 : decode cX4_takePorts 6 = .ok (.getfield 9, 3) := by decide +kernel
theorem dX4_takePorts_9 : decode cX4_takePorts 9 = .ok (.iconst 0, 1) := by decide +kernel
theorem dX4_takePorts_10 : decode cX4_takePorts 10 = .ok (.bipush 16, 2) := by decide +kernel
theorem dX4_takePorts_12 : decode cX4_takePorts 12 = .ok (.invokestatic 37, 3) := by decide +kernel
theorem dX4_takePorts_15 : decode cX4_takePorts 15 = .ok (.aload_n 1, 1) := by decide +kernel
theorem dX4_takePorts_16 : decode cX4_takePorts 16 = .ok (.getfield 15, 3) := by decide +kernel
theorem dX4_takePorts_19 : decode cX4_takePorts 19 = .ok (.iconst 0, 1) := by decide +kernel
theorem dX4_takePorts_20 : decode cX4_takePorts 20 = .ok (.aload_n 0, 1) := by decide +kernel
theorem dX4_takePorts_21 : decode cX4_takePorts 21 = .ok (.getfield 15, 3) := by decide +kernel
theorem dX4_takePorts_24 : decode cX4_takePorts 24 = .ok (.iconst 0, 1) := by decide +kernel
theorem dX4_takePorts_25 : decode cX4_takePorts 25 = .ok (.sipush 128, 3) := by decide +kernel
theorem dX4_takePorts_28 : decode cX4_takePorts 28 = .ok (.invokestatic 37, 3) := by decide +kernel
theorem dX4_takePorts_31 : decode cX4_takePorts 31 = .ok (.aload_n 0, 1) := by decide +kernel
theorem dX4_takePorts_32 : decode cX4_takePorts 32 = .ok (.aload_n 1, 1) := by decide +kernel
theorem dX4_takePorts_33 : decode cX4_takePorts 33 = .ok (.getfield 19, 3) := by decide +kernel
theorem dX4_takePorts_36 : decode cX4_takePorts 36 = .ok (.putfield 19, 3) := by decide +kernel
theorem dX4_takePorts_39 : decode cX4_takePorts 39 = .ok (.aload_n 0, 1) := by decide +kernel
theorem dX4_takePorts_40 : decode cX4_takePorts 40 = .ok (.aload_n 1, 1) := by decide +kernel
theorem dX4_takePorts_41 : decode cX4_takePorts 41 = .ok (.getfield 23, 3) := by decide +kernel
theorem dX4_takePorts_44 : decode cX4_takePorts 44 = .ok (.putfield 23, 3) := by decide +kernel
theorem dX4_takePorts_47 : decode cX4_takePorts 47 = .ok (.return_, 1) := by decide +kernel
theorem dX4_hasPortsOf_0 : decode cX4_hasPortsOf 0 = .ok (.aload_n 0, 1) := by decide +kernel
theorem dX4_hasPortsOf_1 : decode cX4_hasPortsOf 1 = .ok (.getfield 19, 3) := by decide +kernel
theorem dX4_hasPortsOf_4 : decode cX4_hasPortsOf 4 = .ok (.aload_n 1, 1) := by decide +kernel
theorem dX4_hasPortsOf_5 : decode cX4_hasPortsOf 5 = .ok (.getfield 19, 3) := by decide +kernel
theorem dX4_hasPortsOf_8 : decode cX4_hasPortsOf 8 = .ok (.if_icmp .ne 17, 3) := by decide +kernel
theorem dX4_hasPortsOf_11 : decode cX4_hasPortsOf 11 = .ok (.aload_n 0, 1) := by decide +kernel
theorem dX4_hasPortsOf_12 : decode cX4_hasPortsOf 12 = .ok (.getfield 9, 3) := by decide +kernel
theorem dX4_hasPortsOf_15 : decode cX4_hasPortsOf 15 = .ok (.aload_n 1, 1) := by decide +kernel
theorem dX4_hasPortsOf_16 : decode cX4_hasPortsOf 16 = .ok (.getfield 9, 3) := by decide +kernel
theorem dX4_hasPortsOf_19 : decode cX4_hasPortsOf 19 = .ok (.invokestatic 43, 3) := by decide +kernel
theorem dX4_hasPortsOf_22 : decode cX4_hasPortsOf 22 = .ok (.ifCond .ne 5, 3) := by decide +kernel
theorem dX4_hasPortsOf_25 : decode cX4_hasPortsOf 25 = .ok (.iconst 0, 1) := by decide +kernel
theorem dX4_hasPortsOf_26 : decode cX4_hasPortsOf 26 = .ok (.ireturn, 1) := by decide +kernel
theorem dX4_hasPortsOf_27 : decode cX4_hasPortsOf 27 = .ok (.iconst 0, 1) := by decide +kernel
theorem dX4_hasPortsOf_28 : decode cX4_hasPortsOf 28 = .ok (.istore_n 2, 1) := by decide +kernel
theorem dX4_hasPortsOf_29 : decode cX4_hasPortsOf 29 = .ok (.iload_n 2, 1) := by decide +kernel
theorem dX4_hasPortsOf_30 : decode cX4_hasPortsOf 30 = .ok (.aload_n 0, 1) := by decide +kernel
theorem dX4_hasPortsOf_31 : decode cX4_hasPortsOf 31 = .ok (.getfield 23, 3) := by decide +kernel
theorem dX4_hasPortsOf_34 : decode cX4_hasPortsOf 34 = .ok (.if_icmp .ge 26, 3) := by decide +kernel
theorem dX4_hasPortsOf_37 : decode cX4_hasPortsOf 37 = .ok (.aload_n 0, 1) := by decide +kernel
theorem dX4_hasPortsOf_38 : decode cX4_hasPortsOf 38 = .ok (.getfield 15, 3) := by decide +kernel
theorem dX4_hasPortsOf_41 : decode cX4_hasPortsOf 41 = .ok (.iload_n 2, 1) := by decide +kernel
theorem dX4_hasPortsOf_42 : decode cX4_hasPortsOf 42 = .ok (.baload, 1) := by decide +kernel
theorem dX4_hasPortsOf_43 : decode cX4_hasPortsOf 43 = .ok (.aload_n 1, 1) := by decide +kernel
theorem dX4_hasPortsOf_44 : decode cX4_hasPortsOf 44 = .ok (.getfield 15, 3) := by decide +kernel
theorem dX4_hasPortsOf_47 : decode cX4_hasPortsOf 47 = .ok (.iload_n 2, 1) := by decide +kernel
theorem dX4_hasPortsOf_48 : decode cX4_hasPortsOf 48 = .ok (.baload, 1) := by decide +kernel
theorem dX4_hasPortsOf_49 : decode cX4_hasPortsOf 49 = .ok (.if_icmp .eq 5, 3) := by decide +kernel
theorem dX4_hasPortsOf_52 : decode cX4_hasPortsOf 52 = .ok (.iconst 0, 1) := by decide +kernel
theorem dX4_hasPortsOf_53 : decode cX4_hasPortsOf 53 = .ok (.ireturn, 1) := by decide +kernel
theorem dX4_hasPortsOf_54 : decode cX4_hasPortsOf 54 = .ok (.iinc 2 1, 3) := by decide +kernel
theorem dX4_hasPortsOf_57 : decode cX4_hasPortsOf 57 = .ok (.goto (-28), 3) := by decide +kernel
theorem dX4_hasPortsOf_60 : decode cX4_hasPortsOf 60 = .ok (.iconst 1, 1) := by decide +kernel
theorem dX4_hasPortsOf_61 : decode cX4_hasPortsOf 61 = .ok (.ireturn, 1) := by decide +kernel
theorem dX5_init_0 : decode cX5_init 0 = .ok (.aload_n 0, 1) := by decide +kernel
theorem dX5_init_1 : decode cX5_init 1 = .ok (.invokespecial 3, 3) := by decide +kernel
theorem dX5_init_4 : decode cX5_init 4 = .ok (.aload_n 0, 1) := by decide +kernel
theorem dX5_init_5 : decode cX5_init 5 = .ok (.bipush 24, 2) := by decide +kernel
theorem dX5_init_7 : decode cX5_init 7 = .ok (.anewarray 9, 3) := by decide +kernel
theorem dX5_init_10 : decode cX5_init 10 = .ok (.putfield 11, 3) := by decide +kernel
theorem dX5_init_13 : decode cX5_init 13 = .ok (.aload_n 0, 1) := by decide +kernel
theorem dX5_init_14 : decode cX5_init 14 = .ok (.iconst 0, 1) := by decide +kernel
theorem dX5_init_15 : decode cX5_init 15 = .ok (.putfield 15, 3) := by decide +kernel
theorem dX5_init_18 : decode cX5_init 18 = .ok (.aload_n 0, 1) := by decide +kernel
theorem dX5_init_19 : decode cX5_init 19 = .ok (.new 19, 3) := by decide +kernel
theorem dX5_init_22 : decode cX5_init 22 = .ok (.dup, 1) := by decide +kernel
theorem dX5_init_23 : decode cX5_init 23 = .ok (.invokespecial 21, 3) := by decide +kernel
theorem dX5_init_26 : decode cX5_init 26 = .ok (.putfield 22, 3) := by decide +kernel
theorem dX5_init_29 : decode cX5_init 29 = .ok (.aload_n 0, 1) := by decide +kernel
theorem dX5_init_30 : decode cX5_init 30 = .ok (.new 26, 3) := by decide +kernel
theorem dX5_init_33 : decode cX5_init 33 = .ok (.dup, 1) := by decide +kernel
theorem dX5_init_34 : decode cX5_init 34 = .ok (.invokespecial 28, 3) := by decide +kernel
theorem dX5_init_37 : decode cX5_init 37 = .ok (.putfield 29, 3) := by decide +kernel
theorem dX5_init_40 : decode cX5_init 40 = .ok (.aload_n 0, 1) := by decide +kernel
theorem dX5_init_41 : decode cX5_init 41 = .ok (.bipush 24, 2) := by decide +kernel
theorem dX5_init_43 : decode cX5_init 43 = .ok (.newarray .int, 2) := by decide +kernel
theorem dX5_init_45 : decode cX5_init 45 = .ok (.putfield 33, 3) := by decide +kernel
theorem dX5_init_48 : decode cX5_init 48 = .ok (.aload_n 0, 1) := by decide +kernel
theorem dX5_init_49 : decode cX5_init 49 = .ok (.sipush 128, 3) := by decide +kernel
theorem dX5_init_52 : decode cX5_init 52 = .ok (.newarray .int, 2) := by decide +kernel
theorem dX5_init_54 : decode cX5_init 54 = .ok (.putfield 37, 3) := by decide +kernel
theorem dX5_init_57 : decode cX5_init 57 = .ok (.aload_n 0, 1) := by decide +kernel
theorem dX5_init_58 : decode cX5_init 58 = .ok (.sipush 128, 3) := by decide +kernel
theorem dX5_init_61 : decode cX5_init 61 = .ok (.newarray .int, 2) := by decide +kernel
theorem dX5_init_63 : decode cX5_init 63 = .ok (.putfield 40, 3) := by decide +kernel
theorem dX5_init_66 : decode cX5_init 66 = .ok (.return_, 1) := by decide +kernel
theorem dX5_module_0 : decode cX5_module 0 = .ok (.aload_n 0, 1) := by decide +kernel
theorem dX5_module_1 : decode cX5_module 1 = .ok (.invokevirtual 43, 3) := by decide +kernel
theorem dX5_module_4 : decode cX5_module 4 = .ok (.aload_n 0, 1) := by decide +kernel
theorem dX5_module_5 : decode cX5_module 5 = .ok (.new 46, 3) := by decide +kernel
theorem dX5_module_8 : decode cX5_module 8 = .ok (.dup, 1) := by decide +kernel
theorem dX5_module_9 : decode cX5_module 9 = .ok (.invokespecial 48, 3) := by decide +kernel
theorem dX5_module_12 : decode cX5_module 12 = .ok (.invokevirtual 49, 3) := by decide +kernel
theorem dX5_module_15 : decode cX5_module 15 = .ok (.getfield 53, 3) := by decide +kernel
theorem dX5_module_18 : decode cX5_module 18 = .ok (.ireturn, 1) := by decide +kernel
theorem dX5_port_0 : decode cX5_port 0 = .ok (.aload_n 0, 1) := by decide +kernel
theorem dX5_port_1 : decode cX5_port 1 = .ok (.iload_n 1, 1) := by decide +kernel
theorem dX5_port_2 : decode cX5_port 2 = .ok (.invokevirtual 56, 3) := by decide +kernel
theorem dX5_port_5 : decode cX5_port 5 = .ok (.astore 4, 2) := by decide +kernel
theorem dX5_port_7 : decode cX5_port 7 = .ok (.aload 4, 2) := by decide +kernel
theorem dX5_port_9 : decode cX5_port 9 = .ok (.getfield 60, 3) := by decide +kernel
theorem dX5_port_12 : decode cX5_port 12 = .ok (.bipush 16, 2) := by decide +kernel
theorem dX5_port_14 : decode cX5_port 14 = .ok (.if_icmp .eq 11, 3) := by decide +kernel
theorem dX5_port_17 : decode cX5_port 17 = .ok (.aload 4, 2) := by decide +kernel
theorem dX5_port_19 : decode cX5_port 19 = .ok (.getfield 63, 3) := by decide +kernel
theorem dX5_port_22 : decode cX5_port 22 = .ok (.ifCond .eq 11, 3) := by decide +kernel
theorem dX5_port_25 : decode cX5_port 25 = .ok (.new 67, 3) := by decide +kernel
theorem dX5_port_28 : decode cX5_port 28 = .ok (.dup, 1) := by decide +kernel
theorem dX5_port_29 : decode cX5_port 29 = .ok (.invokespecial 69, 3) := by decide +kernel
theorem dX5_port_32 : decode cX5_port 32 = .ok (.athrow, 1) := by decide +kernel
theorem dX5_port_33 : decode cX5_port 33 = .ok (.iload_n 2, 1) := by decide +kernel
theorem dX5_port_34 : decode cX5_port 34 = .ok (.iconst 1, 1) := by decide +kernel
theorem dX5_port_35 : decode cX5_port 35 = .ok (.if_icmp .lt 9, 3) := by decide +kernel
theorem dX5_port_38 : decode cX5_port 38 = .ok (.iload_n 2, 1) := by decide +kernel
theorem dX5_port_39 : decode cX5_port 39 = .ok (.bipush 8, 2) := by decide +kernel
theorem dX5_port_41 : decode cX5_port 41 = .ok (.if_icmp .le 11, 3) := by decide +kernel
theorem dX5_port_44 : decode cX5_port 44 = .ok (.new 70, 3) := by decide +kernel
theorem dX5_port_47 : decode cX5_port 47 = .ok (.dup, 1) := by decide +kernel
theorem dX5_port_48 : decode cX5_port 48 = .ok (.invokespecial 72, 3) := by decide +kernel
theorem dX5_port_51 : decode cX5_port 51 = .ok (.athrow, 1) := by decide +kernel
theorem dX5_port_52 : decode cX5_port 52 = .ok (.aload 4, 2) := by decide +kernel
theorem dX5_port_54 : decode cX5_port 54 = .ok (.iload_n 2, 1) := by decide +kernel
theorem dX5_port_55 : decode cX5_port 55 = .ok (.iload_n 3, 1) := by decide +kernel
theorem dX5_port_56 : decode cX5_port 56 = .ok (.invokevirtual 73, 3) := by decide +kernel
theorem dX5_port_59 : decode cX5_port 59 = .ok (.ireturn, 1) := by decide +kernel
theorem dX5_instance_0 : decode cX5_instance 0 = .ok (.aload_n 0, 1) := by decide +kernel
theorem dX5_instance_1 : decode cX5_instance 1 = .ok (.iload_n 1, 1) := by decide +kernel
theorem dX5_instance_2 : decode cX5_instance 2 = .ok (.invokevirtual 56, 3) := by decide +kernel
theorem dX5_instance_5 : decode cX5_instance 5 = .ok (.astore_n 3, 1) := by decide +kernel
theorem dX5_instance_6 : decode cX5_instance 6 = .ok (.aload_n 0, 1) := by decide +kernel
theorem dX5_instance_7 : decode cX5_instance 7 = .ok (.iload_n 2, 1) := by decide +kernel
theorem dX5_instance_8 : decode cX5_instance 8 = .ok (.invokevirtual 56, 3) := by decide +kernel
theorem dX5_instance_11 : decode cX5_instance 11 = .ok (.astore 4, 2) := by decide +kernel
theorem dX5_instance_13 : decode cX5_instance 13 = .ok (.aload_n 3, 1) := by decide +kernel
theorem dX5_instance_14 : decode cX5_instance 14 = .ok (.getfield 77, 3) := by decide +kernel
theorem dX5_instance_17 : decode cX5_instance 17 = .ok (.getfield 81, 3) := by decide +kernel
theorem dX5_instance_20 : decode cX5_instance 20 = .ok (.bipush 64, 2) := by decide +kernel
theorem dX5_instance_22 : decode cX5_instance 22 = .ok (.if_icmp .ne 11, 3) := by decide +kernel
theorem dX5_instance_25 : decode cX5_instance 25 = .ok (.new 67, 3) := by decide +kernel
theorem dX5_instance_28 : decode cX5_instance 28 = .ok (.dup, 1) := by decide +kernel
theorem dX5_instance_29 : decode cX5_instance 29 = .ok (.invokespecial 69, 3) := by decide +kernel
theorem dX5_instance_32 : decode cX5_instance 32 = .ok (.athrow, 1) := by decide +kernel
theorem dX5_instance_33 : decode cX5_instance 33 = .ok (.aload_n 0, 1) := by decide +kernel
theorem dX5_instance_34 : decode cX5_instance 34 = .ok (.aload_n 3, 1) := by decide +kernel
theorem dX5_instance_35 : decode cX5_instance 35 = .ok (.aload 4, 2) := by decide +kernel
theorem dX5_instance_37 : decode cX5_instance 37 = .ok (.invokevirtual 84, 3) := by decide +kernel
theorem dX5_instance_40 : decode cX5_instance 40 = .ok (.ifCond .eq 5, 3) := by decide +kernel
theorem dX5_instance_43 : decode cX5_instance 43 = .ok (.iconst (-1), 1) := by decide +kernel
theorem dX5_instance_44 : decode cX5_instance 44 = .ok (.ireturn, 1) := by decide +kernel
theorem dX5_instance_45 : decode cX5_instance 45 = .ok (.aload_n 3, 1) := by decide +kernel
theorem dX5_instance_46 : decode cX5_instance 46 = .ok (.invokestatic 88, 3) := by decide +kernel
theorem dX5_instance_49 : decode cX5_instance 49 = .ok (.astore 5, 2) := by decide +kernel
theorem dX5_instance_51 : decode cX5_instance 51 = .ok (.iconst 1, 1) := by decide +kernel
theorem dX5_instance_52 : decode cX5_instance 52 = .ok (.newarray .int, 2) := by decide +kernel
theorem dX5_instance_54 : decode cX5_instance 54 = .ok (.dup, 1) := by decide +kernel
theorem dX5_instance_55 : decode cX5_instance 55 = .ok (.iconst 0, 1) := by decide +kernel
theorem dX5_instance_56 : decode cX5_instance 56 = .ok (.aload 5, 2) := by decide +kernel
theorem dX5_instance_58 : decode cX5_instance 58 = .ok (.getfield 81, 3) := by decide +kernel
theorem dX5_instance_61 : decode cX5_instance 61 = .ok (.iastore, 1) := by decide +kernel
theorem dX5_instance_62 : decode cX5_instance 62 = .ok (.astore 6, 2) := by decide +kernel
theorem dX5_instance_64 : decode cX5_instance 64 = .ok (.aload 4, 2) := by decide +kernel
theorem dX5_instance_66 : decode cX5_instance 66 = .ok (.getfield 92, 3) := by decide +kernel
theorem dX5_instance_69 : decode cX5_instance 69 = .ok (.newarray .int, 2) := by decide +kernel
theorem dX5_instance_71 : decode cX5_instance 71 = .ok (.astore 7, 2) := by decide +kernel
theorem dX5_instance_73 : decode cX5_instance 73 = .ok (.aload 7, 2) := by decide +kernel
theorem dX5_instance_75 : decode cX5_instance 75 = .ok (.iconst (-1), 1) := by decide +kernel
theorem dX5_instance_76 : decode cX5_instance 76 = .ok (.invokestatic 95, 3) := by decide +kernel
theorem dX5_instance_79 : decode cX5_instance 79 = .ok (.aload 4, 2) := by decide +kernel
theorem dX5_instance_81 : decode cX5_instance 81 = .ok (.iconst 1, 1) := by decide +kernel
theorem dX5_instance_82 : decode cX5_instance 82 = .ok (.putfield 63, 3) := by decide +kernel
theorem dX5_instance_85 : decode cX5_instance 85 = .ok (.aload 5, 2) := by decide +kernel
theorem dX5_instance_87 : decode cX5_instance 87 = .ok (.new 101, 3) := by decide +kernel
theorem dX5_instance_90 : decode cX5_instance 90 = .ok (.dup, 1) := by decide +kernel
theorem dX5_instance_91 : decode cX5_instance 91 = .ok (.aload 4, 2) := by decide +kernel
theorem dX5_instance_93 : decode cX5_instance 93 = .ok (.aload 6, 2) := by decide +kernel
theorem dX5_instance_95 : decode cX5_instance 95 = .ok (.aload 7, 2) := by decide +kernel
theorem dX5_instance_97 : decode cX5_instance 97 = .ok (.invokespecial 103, 3) := by decide +kernel
theorem dX5_instance_100 : decode cX5_instance 100 = .ok (.invokevirtual 106, 3) := by decide +kernel
theorem dX5_instance_103 : decode cX5_instance 103 = .ok (.ireturn, 1) := by decide +kernel
theorem dX5_net_0 : decode cX5_net 0 = .ok (.aload_n 0, 1) := by decide +kernel
theorem dX5_net_1 : decode cX5_net 1 = .ok (.iload_n 1, 1) := by decide +kernel
theorem dX5_net_2 : decode cX5_net 2 = .ok (.invokevirtual 56, 3) := by decide +kernel
theorem dX5_net_5 : decode cX5_net 5 = .ok (.astore_n 2, 1) := by decide +kernel
theorem dX5_net_6 : decode cX5_net 6 = .ok (.aload_n 2, 1) := by decide +kernel
theorem dX5_net_7 : decode cX5_net 7 = .ok (.getfield 77, 3) := by decide +kernel
theorem dX5_net_10 : decode cX5_net 10 = .ok (.getfield 110, 3) := by decide +kernel
theorem dX5_net_13 : decode cX5_net 13 = .ok (.sipush 128, 3) := by decide +kernel
theorem dX5_net_16 : decode cX5_net 16 = .ok (.if_icmp .ne 11, 3) := by decide +kernel
theorem dX5_net_19 : decode cX5_net 19 = .ok (.new 67, 3) := by decide +kernel
theorem dX5_net_22 : decode cX5_net 22 = .ok (.dup, 1) := by decide +kernel
theorem dX5_net_23 : decode cX5_net 23 = .ok (.invokespecial 69, 3) := by decide +kernel
theorem dX5_net_26 : decode cX5_net 26 = .ok (.athrow, 1) := by decide +kernel
theorem dX5_net_27 : decode cX5_net 27 = .ok (.aload_n 2, 1) := by decide +kernel
theorem dX5_net_28 : decode cX5_net 28 = .ok (.invokestatic 88, 3) := by decide +kernel
theorem dX5_net_31 : decode cX5_net 31 = .ok (.invokevirtual 113, 3) := by decide +kernel
theorem dX5_net_34 : decode cX5_net 34 = .ok (.ireturn, 1) := by decide +kernel
theorem dX5_join_0 : decode cX5_join 0 = .ok (.aload_n 0, 1) := by decide +kernel
theorem dX5_join_1 : decode cX5_join 1 = .ok (.iload_n 1, 1) := by decide +kernel
theorem dX5_join_2 : decode cX5_join 2 = .ok (.invokevirtual 56, 3) := by decide +kernel
theorem dX5_join_5 : decode cX5_join 5 = .ok (.astore 5, 2) := by decide +kernel
theorem dX5_join_7 : decode cX5_join 7 = .ok (.aload 5, 2) := by decide +kernel
theorem dX5_join_9 : decode cX5_join 9 = .ok (.iload_n 2, 1) := by decide +kernel
theorem dX5_join_10 : decode cX5_join 10 = .ok (.invokestatic 117, 3) := by decide +kernel
theorem dX5_join_13 : decode cX5_join 13 = .ok (.iload_n 2, 1) := by decide +kernel
theorem dX5_join_14 : decode cX5_join 14 = .ok (.aload 5, 2) := by decide +kernel
theorem dX5_join_16 : decode cX5_join 16 = .ok (.iload_n 3, 1) := by decide +kernel
theorem dX5_join_17 : decode cX5_join 17 = .ok (.iload 4, 2) := by decide +kernel
theorem dX5_join_19 : decode cX5_join 19 = .ok (.invokestatic 121, 3) := by decide +kernel
theorem dX5_join_22 : decode cX5_join 22 = .ok (.ireturn, 1) := by decide +kernel
theorem dX5_part_0 : decode cX5_part 0 = .ok (.iconst (-1), 1) := by decide +kernel
theorem dX5_part_1 : decode cX5_part 1 = .ok (.aload_n 0, 1) := by decide +kernel
theorem dX5_part_2 : decode cX5_part 2 = .ok (.iload_n 1, 1) := by decide +kernel
theorem dX5_part_3 : decode cX5_part 3 = .ok (.invokevirtual 56, 3) := by decide +kernel
theorem dX5_part_6 : decode cX5_part 6 = .ok (.iload_n 2, 1) := by decide +kernel
theorem dX5_part_7 : decode cX5_part 7 = .ok (.iload_n 3, 1) := by decide +kernel
theorem dX5_part_8 : decode cX5_part 8 = .ok (.invokestatic 121, 3) := by decide +kernel
theorem dX5_part_11 : decode cX5_part 11 = .ok (.ireturn, 1) := by decide +kernel
theorem dX5_netOf_0 : decode cX5_netOf 0 = .ok (.aload_n 0, 1) := by decide +kernel
theorem dX5_netOf_1 : decode cX5_netOf 1 = .ok (.iload_n 1, 1) := by decide +kernel
theorem dX5_netOf_2 : decode cX5_netOf 2 = .ok (.invokevirtual 56, 3) := by decide +kernel
theorem dX5_netOf_5 : decode cX5_netOf 5 = .ok (.iload_n 2, 1) := by decide +kernel
theorem dX5_netOf_6 : decode cX5_netOf 6 = .ok (.iload_n 3, 1) := by decide +kernel
theorem dX5_netOf_7 : decode cX5_netOf 7 = .ok (.invokestatic 125, 3) := by decide +kernel
theorem dX5_netOf_10 : decode cX5_netOf 10 = .ok (.ireturn, 1) := by decide +kernel
theorem dX5_pins_0 : decode cX5_pins 0 = .ok (.aload_n 0, 1) := by decide +kernel
theorem dX5_pins_1 : decode cX5_pins 1 = .ok (.iload_n 1, 1) := by decide +kernel
theorem dX5_pins_2 : decode cX5_pins 2 = .ok (.invokevirtual 56, 3) := by decide +kernel
theorem dX5_pins_5 : decode cX5_pins 5 = .ok (.astore_n 3, 1) := by decide +kernel
theorem dX5_pins_6 : decode cX5_pins 6 = .ok (.aload_n 3, 1) := by decide +kernel
theorem dX5_pins_7 : decode cX5_pins 7 = .ok (.iload_n 2, 1) := by decide +kernel
theorem dX5_pins_8 : decode cX5_pins 8 = .ok (.invokestatic 117, 3) := by decide +kernel
theorem dX5_pins_11 : decode cX5_pins 11 = .ok (.iconst 0, 1) := by decide +kernel
theorem dX5_pins_12 : decode cX5_pins 12 = .ok (.istore 4, 2) := by decide +kernel
theorem dX5_pins_14 : decode cX5_pins 14 = .ok (.iconst (-1), 1) := by decide +kernel
theorem dX5_pins_15 : decode cX5_pins 15 = .ok (.istore 5, 2) := by decide +kernel
theorem dX5_pins_17 : decode cX5_pins 17 = .ok (.iload 5, 2) := by decide +kernel
theorem dX5_pins_19 : decode cX5_pins 19 = .ok (.aload_n 3, 1) := by decide +kernel
theorem dX5_pins_20 : decode cX5_pins 20 = .ok (.getfield 77, 3) := by decide +kernel
theorem dX5_pins_23 : decode cX5_pins 23 = .ok (.getfield 81, 3) := by decide +kernel
theorem dX5_pins_26 : decode cX5_pins 26 = .ok (.if_icmp .ge 57, 3) := by decide +kernel
theorem dX5_pins_29 : decode cX5_pins 29 = .ok (.aload_n 3, 1) := by decide +kernel
theorem dX5_pins_30 : decode cX5_pins 30 = .ok (.getfield 77, 3) := by decide +kernel
theorem dX5_pins_33 : decode cX5_pins 33 = .ok (.iload 5, 2) := by decide +kernel
theorem dX5_pins_35 : decode cX5_pins 35 = .ok (.invokevirtual 129, 3) := by decide +kernel
theorem dX5_pins_38 : decode cX5_pins 38 = .ok (.astore 6, 2) := by decide +kernel
theorem dX5_pins_40 : decode cX5_pins 40 = .ok (.aload 6, 2) := by decide +kernel
theorem dX5_pins_42 : decode cX5_pins 42 = .ok (.arraylength, 1) := by decide +kernel
theorem dX5_pins_43 : decode cX5_pins 43 = .ok (.istore 7, 2) := by decide +kernel
theorem dX5_pins_45 : decode cX5_pins 45 = .ok (.iconst 0, 1) := by decide +kernel
theorem dX5_pins_46 : decode cX5_pins 46 = .ok (.istore 8, 2) := by decide +kernel
theorem dX5_pins_48 : decode cX5_pins 48 = .ok (.iload 8, 2) := by decide +kernel
theorem dX5_pins_50 : decode cX5_pins 50 = .ok (.iload 7, 2) := by decide +kernel
theorem dX5_pins_52 : decode cX5_pins 52 = .ok (.if_icmp .ge 25, 3) := by decide +kernel
theorem dX5_pins_55 : decode cX5_pins 55 = .ok (.aload 6, 2) := by decide +kernel
theorem dX5_pins_57 : decode cX5_pins 57 = .ok (.iload 8, 2) := by decide +kernel
theorem dX5_pins_59 : decode cX5_pins 59 = .ok (.iaload, 1) := by decide +kernel
theorem dX5_pins_60 : decode cX5_pins 60 = .ok (.istore 9, 2) := by decide +kernel
theorem dX5_pins_62 : decode cX5_pins 62 = .ok (.iload 9, 2) := by decide +kernel
theorem dX5_pins_64 : decode cX5_pins 64 = .ok (.iload_n 2, 1) := by decide +kernel
theorem dX5_pins_65 : decode cX5_pins 65 = .ok (.if_icmp .ne 6, 3) := by decide +kernel
theorem dX5_pins_68 : decode cX5_pins 68 = .ok (.iinc 4 1, 3) := by decide +kernel
theorem dX5_pins_71 : decode cX5_pins 71 = .ok (.iinc 8 1, 3) := by decide +kernel
theorem dX5_pins_74 : decode cX5_pins 74 = .ok (.goto (-26), 3) := by decide +kernel
theorem dX5_pins_77 : decode cX5_pins 77 = .ok (.iinc 5 1, 3) := by decide +kernel
theorem dX5_pins_80 : decode cX5_pins 80 = .ok (.goto (-63), 3) := by decide +kernel
theorem dX5_pins_83 : decode cX5_pins 83 = .ok (.iload 4, 2) := by decide +kernel
theorem dX5_pins_85 : decode cX5_pins 85 = .ok (.ireturn, 1) := by decide +kernel
theorem dX5_pin_0 : decode cX5_pin 0 = .ok (.aload_n 0, 1) := by decide +kernel
theorem dX5_pin_1 : decode cX5_pin 1 = .ok (.iload_n 1, 1) := by decide +kernel
theorem dX5_pin_2 : decode cX5_pin 2 = .ok (.invokevirtual 56, 3) := by decide +kernel
theorem dX5_pin_5 : decode cX5_pin 5 = .ok (.astore 5, 2) := by decide +kernel
theorem dX5_pin_7 : decode cX5_pin 7 = .ok (.aload 5, 2) := by decide +kernel
theorem dX5_pin_9 : decode cX5_pin 9 = .ok (.iload_n 2, 1) := by decide +kernel
theorem dX5_pin_10 : decode cX5_pin 10 = .ok (.invokestatic 117, 3) := by decide +kernel
theorem dX5_pin_13 : decode cX5_pin 13 = .ok (.iload 4, 2) := by decide +kernel
theorem dX5_pin_15 : decode cX5_pin 15 = .ok (.iconst 3, 1) := by decide +kernel
theorem dX5_pin_16 : decode cX5_pin 16 = .ok (.invokestatic 133, 3) := by decide +kernel
theorem dX5_pin_19 : decode cX5_pin 19 = .ok (.aload 5, 2) := by decide +kernel
theorem dX5_pin_21 : decode cX5_pin 21 = .ok (.getfield 77, 3) := by decide +kernel
theorem dX5_pin_24 : decode cX5_pin 24 = .ok (.iload_n 2, 1) := by decide +kernel
theorem dX5_pin_25 : decode cX5_pin 25 = .ok (.iload_n 3, 1) := by decide +kernel
theorem dX5_pin_26 : decode cX5_pin 26 = .ok (.invokestatic 137, 3) := by decide +kernel
theorem dX5_pin_29 : decode cX5_pin 29 = .ok (.istore 6, 2) := by decide +kernel
theorem dX5_pin_31 : decode cX5_pin 31 = .ok (.iload 6, 2) := by decide +kernel
theorem dX5_pin_33 : decode cX5_pin 33 = .ok (.iconst (-1), 1) := by decide +kernel
theorem dX5_pin_34 : decode cX5_pin 34 = .ok (.if_icmp .ne 11, 3) := by decide +kernel
theorem dX5_pin_37 : decode cX5_pin 37 = .ok (.new 141, 3) := by decide +kernel
theorem dX5_pin_40 : decode cX5_pin 40 = .ok (.dup, 1) := by decide +kernel
theorem dX5_pin_41 : decode cX5_pin 41 = .ok (.invokespecial 143, 3) := by decide +kernel
theorem dX5_pin_44 : decode cX5_pin 44 = .ok (.athrow, 1) := by decide +kernel
theorem dX5_pin_45 : decode cX5_pin 45 = .ok (.iload 6, 2) := by decide +kernel
theorem dX5_pin_47 : decode cX5_pin 47 = .ok (.sipush 128, 3) := by decide +kernel
theorem dX5_pin_50 : decode cX5_pin 50 = .ok (.idiv, 1) := by decide +kernel
theorem dX5_pin_51 : decode cX5_pin 51 = .ok (.iconst 1, 1) := by decide +kernel
theorem dX5_pin_52 : decode cX5_pin 52 = .ok (.isub, 1) := by decide +kernel
theorem dX5_pin_53 : decode cX5_pin 53 = .ok (.istore 7, 2) := by decide +kernel
theorem dX5_pin_55 : decode cX5_pin 55 = .ok (.iload 6, 2) := by decide +kernel
theorem dX5_pin_57 : decode cX5_pin 57 = .ok (.sipush 128, 3) := by decide +kernel
theorem dX5_pin_60 : decode cX5_pin 60 = .ok (.irem, 1) := by decide +kernel
theorem dX5_pin_61 : decode cX5_pin 61 = .ok (.istore 8, 2) := by decide +kernel
theorem dX5_pin_63 : decode cX5_pin 63 = .ok (.iload 4, 2) := by decide +kernel
theorem dX5_pin_65 : decode cX5_pin 65 = .ok (.ifCond .ne 6, 3) := by decide +kernel
theorem dX5_pin_68 : decode cX5_pin 68 = .ok (.iload 7, 2) := by decide +kernel
theorem dX5_pin_70 : decode cX5_pin 70 = .ok (.ireturn, 1) := by decide +kernel
theorem dX5_pin_71 : decode cX5_pin 71 = .ok (.iload 4, 2) := by decide +kernel
theorem dX5_pin_73 : decode cX5_pin 73 = .ok (.iconst 1, 1) := by decide +kernel
theorem dX5_pin_74 : decode cX5_pin 74 = .ok (.if_icmp .ne 6, 3) := by decide +kernel
theorem dX5_pin_77 : decode cX5_pin 77 = .ok (.iload 8, 2) := by decide +kernel
theorem dX5_pin_79 : decode cX5_pin 79 = .ok (.ireturn, 1) := by decide +kernel
theorem dX5_pin_80 : decode cX5_pin 80 = .ok (.aload 5, 2) := by decide +kernel
theorem dX5_pin_82 : decode cX5_pin 82 = .ok (.iload 7, 2) := by decide +kernel
theorem dX5_pin_84 : decode cX5_pin 84 = .ok (.iload 8, 2) := by decide +kernel
theorem dX5_pin_86 : decode cX5_pin 86 = .ok (.invokestatic 144, 3) := by decide +kernel
theorem dX5_pin_89 : decode cX5_pin 89 = .ok (.ifCond .eq 7, 3) := by decide +kernel
theorem dX5_pin_92 : decode cX5_pin 92 = .ok (.iconst 1, 1) := by decide +kernel
theorem dX5_pin_93 : decode cX5_pin 93 = .ok (.goto 4, 3) := by decide +kernel
theorem dX5_pin_96 : decode cX5_pin 96 = .ok (.iconst 0, 1) := by decide +kernel
theorem dX5_pin_97 : decode cX5_pin 97 = .ok (.ireturn, 1) := by decide +kernel
theorem dX5_copy_0 : decode cX5_copy 0 = .ok (.aload_n 0, 1) := by decide +kernel
theorem dX5_copy_1 : decode cX5_copy 1 = .ok (.iload_n 1, 1) := by decide +kernel
theorem dX5_copy_2 : decode cX5_copy 2 = .ok (.invokevirtual 56, 3) := by decide +kernel
theorem dX5_copy_5 : decode cX5_copy 5 = .ok (.astore_n 2, 1) := by decide +kernel
theorem dX5_copy_6 : decode cX5_copy 6 = .ok (.aload_n 0, 1) := by decide +kernel
theorem dX5_copy_7 : decode cX5_copy 7 = .ok (.invokevirtual 43, 3) := by decide +kernel
theorem dX5_copy_10 : decode cX5_copy 10 = .ok (.aload_n 2, 1) := by decide +kernel
theorem dX5_copy_11 : decode cX5_copy 11 = .ok (.getfield 77, 3) := by decide +kernel
theorem dX5_copy_14 : decode cX5_copy 14 = .ok (.dup, 1) := by decide +kernel
theorem dX5_copy_15 : decode cX5_copy 15 = .ok (.getfield 148, 3) := by decide +kernel
theorem dX5_copy_18 : decode cX5_copy 18 = .ok (.iconst 1, 1) := by decide +kernel
theorem dX5_copy_19 : decode cX5_copy 19 = .ok (.iadd, 1) := by decide +kernel
theorem dX5_copy_20 : decode cX5_copy 20 = .ok (.putfield 148, 3) := by decide +kernel
theorem dX5_copy_23 : decode cX5_copy 23 = .ok (.aload_n 0, 1) := by decide +kernel
theorem dX5_copy_24 : decode cX5_copy 24 = .ok (.aload_n 2, 1) := by decide +kernel
theorem dX5_copy_25 : decode cX5_copy 25 = .ok (.getfield 77, 3) := by decide +kernel
theorem dX5_copy_28 : decode cX5_copy 28 = .ok (.invokevirtual 49, 3) := by decide +kernel
theorem dX5_copy_31 : decode cX5_copy 31 = .ok (.astore_n 3, 1) := by decide +kernel
theorem dX5_copy_32 : decode cX5_copy 32 = .ok (.aload_n 3, 1) := by decide +kernel
theorem dX5_copy_33 : decode cX5_copy 33 = .ok (.aload_n 2, 1) := by decide +kernel
theorem dX5_copy_34 : decode cX5_copy 34 = .ok (.invokevirtual 151, 3) := by decide +kernel
theorem dX5_copy_37 : decode cX5_copy 37 = .ok (.aload_n 3, 1) := by decide +kernel
theorem dX5_copy_38 : decode cX5_copy 38 = .ok (.getfield 53, 3) := by decide +kernel
theorem dX5_copy_41 : decode cX5_copy 41 = .ok (.ireturn, 1) := by decide +kernel
theorem dX5_shared_0 : decode cX5_shared 0 = .ok (.aload_n 0, 1) := by decide +kernel
theorem dX5_shared_1 : decode cX5_shared 1 = .ok (.iload_n 1, 1) := by decide +kernel
theorem dX5_shared_2 : decode cX5_shared 2 = .ok (.invokevirtual 56, 3) := by decide +kernel
theorem dX5_shared_5 : decode cX5_shared 5 = .ok (.getfield 77, 3) := by decide +kernel
theorem dX5_shared_8 : decode cX5_shared 8 = .ok (.aload_n 0, 1) := by decide +kernel
theorem dX5_shared_9 : decode cX5_shared 9 = .ok (.iload_n 2, 1) := by decide +kernel
theorem dX5_shared_10 : decode cX5_shared 10 = .ok (.invokevirtual 56, 3) := by decide +kernel
theorem dX5_shared_13 : decode cX5_shared 13 = .ok (.getfield 77, 3) := by decide +kernel
theorem dX5_shared_16 : decode cX5_shared 16 = .ok (.if_acmp .ne 7, 3) := by decide +kernel
theorem dX5_shared_19 : decode cX5_shared 19 = .ok (.iconst 1, 1) := by decide +kernel
theorem dX5_shared_20 : decode cX5_shared 20 = .ok (.goto 4, 3) := by decide +kernel
theorem dX5_shared_23 : decode cX5_shared 23 = .ok (.iconst 0, 1) := by decide +kernel
theorem dX5_shared_24 : decode cX5_shared 24 = .ok (.ireturn, 1) := by decide +kernel
theorem dX5_flat_0 : decode cX5_flat 0 = .ok (.aload_n 0, 1) := by decide +kernel
theorem dX5_flat_1 : decode cX5_flat 1 = .ok (.iload_n 1, 1) := by decide +kernel
theorem dX5_flat_2 : decode cX5_flat 2 = .ok (.invokevirtual 56, 3) := by decide +kernel
theorem dX5_flat_5 : decode cX5_flat 5 = .ok (.astore_n 2, 1) := by decide +kernel
theorem dX5_flat_6 : decode cX5_flat 6 = .ok (.aload_n 0, 1) := by decide +kernel
theorem dX5_flat_7 : decode cX5_flat 7 = .ok (.invokevirtual 43, 3) := by decide +kernel
theorem dX5_flat_10 : decode cX5_flat 10 = .ok (.aload_n 0, 1) := by decide +kernel
theorem dX5_flat_11 : decode cX5_flat 11 = .ok (.aload_n 2, 1) := by decide +kernel
theorem dX5_flat_12 : decode cX5_flat 12 = .ok (.invokevirtual 155, 3) := by decide +kernel
theorem dX5_flat_15 : decode cX5_flat 15 = .ok (.bipush 64, 2) := by decide +kernel
theorem dX5_flat_17 : decode cX5_flat 17 = .ok (.if_icmp .gt 14, 3) := by decide +kernel
theorem dX5_flat_20 : decode cX5_flat 20 = .ok (.aload_n 0, 1) := by decide +kernel
theorem dX5_flat_21 : decode cX5_flat 21 = .ok (.aload_n 2, 1) := by decide +kernel
theorem dX5_flat_22 : decode cX5_flat 22 = .ok (.invokevirtual 159, 3) := by decide +kernel
theorem dX5_flat_25 : decode cX5_flat 25 = .ok (.sipush 3000, 3) := by decide +kernel
theorem dX5_flat_28 : decode cX5_flat 28 = .ok (.if_icmp .le 11, 3) := by decide +kernel
theorem dX5_flat_31 : decode cX5_flat 31 = .ok (.new 162, 3) := by decide +kernel
theorem dX5_flat_34 : decode cX5_flat 34 = .ok (.dup, 1) := by decide +kernel
theorem dX5_flat_35 : decode cX5_flat 35 = .ok (.invokespecial 164, 3) := by decide +kernel
theorem dX5_flat_38 : decode cX5_flat 38 = .ok (.athrow, 1) := by decide +kernel
theorem dX5_flat_39 : decode cX5_flat 39 = .ok (.aload_n 0, 1) := by decide +kernel
theorem dX5_flat_40 : decode cX5_flat 40 = .ok (.getfield 29, 3) := by decide +kernel
theorem dX5_flat_43 : decode cX5_flat 43 = .ok (.invokevirtual 165, 3) := by decide +kernel
theorem dX5_flat_46 : decode cX5_flat 46 = .ok (.aload_n 2, 1) := by decide +kernel
theorem dX5_flat_47 : decode cX5_flat 47 = .ok (.aload_n 0, 1) := by decide +kernel
theorem dX5_flat_48 : decode cX5_flat 48 = .ok (.getfield 29, 3) := by decide +kernel
theorem dX5_flat_51 : decode cX5_flat 51 = .ok (.aload_n 2, 1) := by decide +kernel
theorem dX5_flat_52 : decode cX5_flat 52 = .ok (.getfield 77, 3) := by decide +kernel
theorem dX5_flat_55 : decode cX5_flat 55 = .ok (.getfield 110, 3) := by decide +kernel
theorem dX5_flat_58 : decode cX5_flat 58 = .ok (.invokevirtual 168, 3) := by decide +kernel
theorem dX5_flat_61 : decode cX5_flat 61 = .ok (.aload_n 0, 1) := by decide +kernel
theorem dX5_flat_62 : decode cX5_flat 62 = .ok (.getfield 29, 3) := by decide +kernel
theorem dX5_flat_65 : decode cX5_flat 65 = .ok (.iconst 0, 1) := by decide +kernel
theorem dX5_flat_66 : decode cX5_flat 66 = .ok (.invokestatic 172, 3) := by decide +kernel
theorem dX5_flat_69 : decode cX5_flat 69 = .ok (.aload_n 0, 1) := by decide +kernel
theorem dX5_flat_70 : decode cX5_flat 70 = .ok (.getfield 29, 3) := by decide +kernel
theorem dX5_flat_73 : decode cX5_flat 73 = .ok (.invokevirtual 176, 3) := by decide +kernel
theorem dX5_flat_76 : decode cX5_flat 76 = .ok (.istore_n 3, 1) := by decide +kernel
theorem dX5_flat_77 : decode cX5_flat 77 = .ok (.iload_n 3, 1) := by decide +kernel
theorem dX5_flat_78 : decode cX5_flat 78 = .ok (.sipush 128, 3) := by decide +kernel
theorem dX5_flat_81 : decode cX5_flat 81 = .ok (.if_icmp .le 11, 3) := by decide +kernel
theorem dX5_flat_84 : decode cX5_flat 84 = .ok (.new 162, 3) := by decide +kernel
theorem dX5_flat_87 : decode cX5_flat 87 = .ok (.dup, 1) := by decide +kernel
theorem dX5_flat_88 : decode cX5_flat 88 = .ok (.invokespecial 164, 3) := by decide +kernel
theorem dX5_flat_91 : decode cX5_flat 91 = .ok (.athrow, 1) := by decide +kernel
theorem dX5_flat_92 : decode cX5_flat 92 = .ok (.aload_n 0, 1) := by decide +kernel
theorem dX5_flat_93 : decode cX5_flat 93 = .ok (.aload_n 0, 1) := by decide +kernel
theorem dX5_flat_94 : decode cX5_flat 94 = .ok (.getfield 29, 3) := by decide +kernel
theorem dX5_flat_97 : decode cX5_flat 97 = .ok (.aload_n 2, 1) := by decide +kernel
theorem dX5_flat_98 : decode cX5_flat 98 = .ok (.iload_n 3, 1) := by decide +kernel
theorem dX5_flat_99 : decode cX5_flat 99 = .ok (.invokevirtual 179, 3) := by decide +kernel
theorem dX5_flat_102 : decode cX5_flat 102 = .ok (.invokevirtual 49, 3) := by decide +kernel
theorem dX5_flat_105 : decode cX5_flat 105 = .ok (.astore 4, 2) := by decide +kernel
theorem dX5_flat_107 : decode cX5_flat 107 = .ok (.aload 4, 2) := by decide +kernel
theorem dX5_flat_109 : decode cX5_flat 109 = .ok (.aload_n 2, 1) := by decide +kernel
theorem dX5_flat_110 : decode cX5_flat 110 = .ok (.invokevirtual 151, 3) := by decide +kernel
theorem dX5_flat_113 : decode cX5_flat 113 = .ok (.aload 4, 2) := by decide +kernel
theorem dX5_flat_115 : decode cX5_flat 115 = .ok (.getfield 53, 3) := by decide +kernel
theorem dX5_flat_118 : decode cX5_flat 118 = .ok (.ireturn, 1) := by decide +kernel
theorem dX5_path_0 : decode cX5_path 0 = .ok (.aload_n 0, 1) := by decide +kernel
theorem dX5_path_1 : decode cX5_path 1 = .ok (.iload_n 1, 1) := by decide +kernel
theorem dX5_path_2 : decode cX5_path 2 = .ok (.invokevirtual 56, 3) := by decide +kernel
theorem dX5_path_5 : decode cX5_path 5 = .ok (.iload_n 2, 1) := by decide +kernel
theorem dX5_path_6 : decode cX5_path 6 = .ok (.invokestatic 183, 3) := by decide +kernel
theorem dX5_path_9 : decode cX5_path 9 = .ok (.getfield 187, 3) := by decide +kernel
theorem dX5_path_12 : decode cX5_path 12 = .ok (.astore 4, 2) := by decide +kernel
theorem dX5_path_14 : decode cX5_path 14 = .ok (.iload_n 3, 1) := by decide +kernel
theorem dX5_path_15 : decode cX5_path 15 = .ok (.ifCond .ge 11, 3) := by decide +kernel
theorem dX5_path_18 : decode cX5_path 18 = .ok (.new 141, 3) := by decide +kernel
theorem dX5_path_21 : decode cX5_path 21 = .ok (.dup, 1) := by decide +kernel
theorem dX5_path_22 : decode cX5_path 22 = .ok (.invokespecial 143, 3) := by decide +kernel
theorem dX5_path_25 : decode cX5_path 25 = .ok (.athrow, 1) := by decide +kernel
theorem dX5_path_26 : decode cX5_path 26 = .ok (.iload_n 3, 1) := by decide +kernel
theorem dX5_path_27 : decode cX5_path 27 = .ok (.aload 4, 2) := by decide +kernel
theorem dX5_path_29 : decode cX5_path 29 = .ok (.arraylength, 1) := by decide +kernel
theorem dX5_path_30 : decode cX5_path 30 = .ok (.if_icmp .ge 10, 3) := by decide +kernel
theorem dX5_path_33 : decode cX5_path 33 = .ok (.aload 4, 2) := by decide +kernel
theorem dX5_path_35 : decode cX5_path 35 = .ok (.iload_n 3, 1) := by decide +kernel
theorem dX5_path_36 : decode cX5_path 36 = .ok (.iaload, 1) := by decide +kernel
theorem dX5_path_37 : decode cX5_path 37 = .ok (.goto 4, 3) := by decide +kernel
theorem dX5_path_40 : decode cX5_path 40 = .ok (.iconst (-1), 1) := by decide +kernel
theorem dX5_path_41 : decode cX5_path 41 = .ok (.ireturn, 1) := by decide +kernel
theorem dX5_doubled_0 : decode cX5_doubled 0 = .ok (.aload_n 0, 1) := by decide +kernel
theorem dX5_doubled_1 : decode cX5_doubled 1 = .ok (.aload_n 0, 1) := by decide +kernel
theorem dX5_doubled_2 : decode cX5_doubled 2 = .ok (.iload_n 1, 1) := by decide +kernel
theorem dX5_doubled_3 : decode cX5_doubled 3 = .ok (.invokevirtual 56, 3) := by decide +kernel
theorem dX5_doubled_6 : decode cX5_doubled 6 = .ok (.iload_n 2, 1) := by decide +kernel
theorem dX5_doubled_7 : decode cX5_doubled 7 = .ok (.iconst 1, 1) := by decide +kernel
theorem dX5_doubled_8 : decode cX5_doubled 8 = .ok (.invokevirtual 190, 3) := by decide +kernel
theorem dX5_doubled_11 : decode cX5_doubled 11 = .ok (.ireturn, 1) := by decide +kernel
theorem dX5_open_0 : decode cX5_open 0 = .ok (.aload_n 0, 1) := by decide +kernel
theorem dX5_open_1 : decode cX5_open 1 = .ok (.aload_n 0, 1) := by decide +kernel
theorem dX5_open_2 : decode cX5_open 2 = .ok (.iload_n 1, 1) := by decide +kernel
theorem dX5_open_3 : decode cX5_open 3 = .ok (.invokevirtual 56, 3) := by decide +kernel
theorem dX5_open_6 : decode cX5_open 6 = .ok (.iload_n 2, 1) := by decide +kernel
theorem dX5_open_7 : decode cX5_open 7 = .ok (.iconst 0, 1) := by decide +kernel
theorem dX5_open_8 : decode cX5_open 8 = .ok (.invokevirtual 190, 3) := by decide +kernel
theorem dX5_open_11 : decode cX5_open 11 = .ok (.ireturn, 1) := by decide +kernel
theorem dX5_alike_0 : decode cX5_alike 0 = .ok (.aload_n 0, 1) := by decide +kernel
theorem dX5_alike_1 : decode cX5_alike 1 = .ok (.iload_n 1, 1) := by decide +kernel
theorem dX5_alike_2 : decode cX5_alike 2 = .ok (.invokevirtual 56, 3) := by decide +kernel
theorem dX5_alike_5 : decode cX5_alike 5 = .ok (.astore_n 3, 1) := by decide +kernel
theorem dX5_alike_6 : decode cX5_alike 6 = .ok (.aload_n 0, 1) := by decide +kernel
theorem dX5_alike_7 : decode cX5_alike 7 = .ok (.iload_n 2, 1) := by decide +kernel
theorem dX5_alike_8 : decode cX5_alike 8 = .ok (.invokevirtual 56, 3) := by decide +kernel
theorem dX5_alike_11 : decode cX5_alike 11 = .ok (.astore 4, 2) := by decide +kernel
theorem dX5_alike_13 : decode cX5_alike 13 = .ok (.aload_n 0, 1) := by decide +kernel
theorem dX5_alike_14 : decode cX5_alike 14 = .ok (.getfield 22, 3) := by decide +kernel
theorem dX5_alike_17 : decode cX5_alike 17 = .ok (.invokevirtual 194, 3) := by decide +kernel
theorem dX5_alike_20 : decode cX5_alike 20 = .ok (.aload_n 3, 1) := by decide +kernel
theorem dX5_alike_21 : decode cX5_alike 21 = .ok (.aload_n 0, 1) := by decide +kernel
theorem dX5_alike_22 : decode cX5_alike 22 = .ok (.getfield 22, 3) := by decide +kernel
theorem dX5_alike_25 : decode cX5_alike 25 = .ok (.iconst 0, 1) := by decide +kernel
theorem dX5_alike_26 : decode cX5_alike 26 = .ok (.invokestatic 195, 3) := by decide +kernel
theorem dX5_alike_29 : decode cX5_alike 29 = .ok (.aload 4, 2) := by decide +kernel
theorem dX5_alike_31 : decode cX5_alike 31 = .ok (.aload_n 0, 1) := by decide +kernel
theorem dX5_alike_32 : decode cX5_alike 32 = .ok (.getfield 22, 3) := by decide +kernel
theorem dX5_alike_35 : decode cX5_alike 35 = .ok (.iconst 0, 1) := by decide +kernel
theorem dX5_alike_36 : decode cX5_alike 36 = .ok (.invokestatic 195, 3) := by decide +kernel
theorem dX5_alike_39 : decode cX5_alike 39 = .ok (.aload_n 0, 1) := by decide +kernel
theorem dX5_alike_40 : decode cX5_alike 40 = .ok (.invokevirtual 199, 3) := by decide +kernel
theorem dX5_alike_43 : decode cX5_alike 43 = .ok (.pop, 1) := by decide +kernel
theorem dX5_alike_44 : decode cX5_alike 44 = .ok (.aload_n 0, 1) := by decide +kernel
theorem dX5_alike_45 : decode cX5_alike 45 = .ok (.getfield 33, 3) := by decide +kernel
theorem dX5_alike_48 : decode cX5_alike 48 = .ok (.aload_n 3, 1) := by decide +kernel
theorem dX5_alike_49 : decode cX5_alike 49 = .ok (.getfield 53, 3) := by decide +kernel
theorem dX5_alike_52 : decode cX5_alike 52 = .ok (.iaload, 1) := by decide +kernel
theorem dX5_alike_53 : decode cX5_alike 53 = .ok (.aload_n 0, 1) := by decide +kernel
theorem dX5_alike_54 : decode cX5_alike 54 = .ok (.getfield 33, 3) := by decide +kernel
theorem dX5_alike_57 : decode cX5_alike 57 = .ok (.aload 4, 2) := by decide +kernel
theorem dX5_alike_59 : decode cX5_alike 59 = .ok (.getfield 53, 3) := by decide +kernel
theorem dX5_alike_62 : decode cX5_alike 62 = .ok (.iaload, 1) := by decide +kernel
theorem dX5_alike_63 : decode cX5_alike 63 = .ok (.if_icmp .ne 7, 3) := by decide +kernel
theorem dX5_alike_66 : decode cX5_alike 66 = .ok (.iconst 1, 1) := by decide +kernel
theorem dX5_alike_67 : decode cX5_alike 67 = .ok (.goto 4, 3) := by decide +kernel
theorem dX5_alike_70 : decode cX5_alike 70 = .ok (.iconst 0, 1) := by decide +kernel
theorem dX5_alike_71 : decode cX5_alike 71 = .ok (.ireturn, 1) := by decide +kernel
theorem dX5_count_0 : decode cX5_count 0 = .ok (.aload_n 0, 1) := by decide +kernel
theorem dX5_count_1 : decode cX5_count 1 = .ok (.iload_n 1, 1) := by decide +kernel
theorem dX5_count_2 : decode cX5_count 2 = .ok (.invokevirtual 56, 3) := by decide +kernel
theorem dX5_count_5 : decode cX5_count 5 = .ok (.astore_n 3, 1) := by decide +kernel
theorem dX5_count_6 : decode cX5_count 6 = .ok (.iload_n 2, 1) := by decide +kernel
theorem dX5_count_7 : decode cX5_count 7 = .ok (.tableswitch 75 0 5 #[37, 42, 50, 58, 63, 69], 37) := by decide +kernel
theorem dX5_count_44 : decode cX5_count 44 = .ok (.aload_n 3, 1) := by decide +kernel
theorem dX5_count_45 : decode cX5_count 45 = .ok (.getfield 60, 3) := by decide +kernel
theorem dX5_count_48 : decode cX5_count 48 = .ok (.ireturn, 1) := by decide +kernel
theorem dX5_count_49 : decode cX5_count 49 = .ok (.aload_n 3, 1) := by decide +kernel
theorem dX5_count_50 : decode cX5_count 50 = .ok (.getfield 77, 3) := by decide +kernel
theorem dX5_count_53 : decode cX5_count 53 = .ok (.getfield 81, 3) := by decide +kernel
theorem dX5_count_56 : decode cX5_count 56 = .ok (.ireturn, 1) := by decide +kernel
theorem dX5_count_57 : decode cX5_count 57 = .ok (.aload_n 3, 1) := by decide +kernel
theorem dX5_count_58 : decode cX5_count 58 = .ok (.getfield 77, 3) := by decide +kernel
theorem dX5_count_61 : decode cX5_count 61 = .ok (.getfield 110, 3) := by decide +kernel
theorem dX5_count_64 : decode cX5_count 64 = .ok (.ireturn, 1) := by decide +kernel
theorem dX5_count_65 : decode cX5_count 65 = .ok (.aload_n 3, 1) := by decide +kernel
theorem dX5_count_66 : decode cX5_count 66 = .ok (.getfield 92, 3) := by decide +kernel
theorem dX5_count_69 : decode cX5_count 69 = .ok (.ireturn, 1) := by decide +kernel
theorem dX5_count_70 : decode cX5_count 70 = .ok (.aload_n 0, 1) := by decide +kernel
theorem dX5_count_71 : decode cX5_count 71 = .ok (.aload_n 3, 1) := by decide +kernel
theorem dX5_count_72 : decode cX5_count 72 = .ok (.invokevirtual 202, 3) := by decide +kernel
theorem dX5_count_75 : decode cX5_count 75 = .ok (.ireturn, 1) := by decide +kernel
theorem dX5_count_76 : decode cX5_count 76 = .ok (.aload_n 0, 1) := by decide +kernel
theorem dX5_count_77 : decode cX5_count 77 = .ok (.aload_n 3, 1) := by decide +kernel
theorem dX5_count_78 : decode cX5_count 78 = .ok (.invokevirtual 155, 3) := by decide +kernel
theorem dX5_count_81 : decode cX5_count 81 = .ok (.ireturn, 1) := by decide +kernel
theorem dX5_count_82 : decode cX5_count 82 = .ok (.new 141, 3) := by decide +kernel
theorem dX5_count_85 : decode cX5_count 85 = .ok (.dup, 1) := by decide +kernel
theorem dX5_count_86 : decode cX5_count 86 = .ok (.invokespecial 143, 3) := by decide +kernel
theorem dX5_count_89 : decode cX5_count 89 = .ok (.athrow, 1) := by decide +kernel
theorem dX5_moduleOf_0 : decode cX5_moduleOf 0 = .ok (.aload_n 0, 1) := by decide +kernel
theorem dX5_moduleOf_1 : decode cX5_moduleOf 1 = .ok (.iload_n 1, 1) := by decide +kernel
theorem dX5_moduleOf_2 : decode cX5_moduleOf 2 = .ok (.invokevirtual 56, 3) := by decide +kernel
theorem dX5_moduleOf_5 : decode cX5_moduleOf 5 = .ok (.iload_n 2, 1) := by decide +kernel
theorem dX5_moduleOf_6 : decode cX5_moduleOf 6 = .ok (.invokestatic 183, 3) := by decide +kernel
theorem dX5_moduleOf_9 : decode cX5_moduleOf 9 = .ok (.getfield 205, 3) := by decide +kernel
theorem dX5_moduleOf_12 : decode cX5_moduleOf 12 = .ok (.getfield 53, 3) := by decide +kernel
theorem dX5_moduleOf_15 : decode cX5_moduleOf 15 = .ok (.ireturn, 1) := by decide +kernel
theorem dX5_modules_0 : decode cX5_modules 0 = .ok (.aload_n 0, 1) := by decide +kernel
theorem dX5_modules_1 : decode cX5_modules 1 = .ok (.getfield 15, 3) := by decide +kernel
theorem dX5_modules_4 : decode cX5_modules 4 = .ok (.ireturn, 1) := by decide +kernel
theorem dX5_kinds_0 : decode cX5_kinds 0 = .ok (.aload_n 0, 1) := by decide +kernel
theorem dX5_kinds_1 : decode cX5_kinds 1 = .ok (.getfield 22, 3) := by decide +kernel
theorem dX5_kinds_4 : decode cX5_kinds 4 = .ok (.invokevirtual 194, 3) := by decide +kernel
theorem dX5_kinds_7 : decode cX5_kinds 7 = .ok (.iconst 0, 1) := by decide +kernel
theorem dX5_kinds_8 : decode cX5_kinds 8 = .ok (.istore_n 1, 1) := by decide +kernel
theorem dX5_kinds_9 : decode cX5_kinds 9 = .ok (.iload_n 1, 1) := by decide +kernel
theorem dX5_kinds_10 : decode cX5_kinds 10 = .ok (.aload_n 0, 1) := by decide +kernel
theorem dX5_kinds_11 : decode cX5_kinds 11 = .ok (.getfield 15, 3) := by decide +kernel
theorem dX5_kinds_14 : decode cX5_kinds 14 = .ok (.if_icmp .ge 23, 3) := by decide +kernel
theorem dX5_kinds_17 : decode cX5_kinds 17 = .ok (.aload_n 0, 1) := by decide +kernel
theorem dX5_kinds_18 : decode cX5_kinds 18 = .ok (.getfield 11, 3) := by decide +kernel
theorem dX5_kinds_21 : decode cX5_kinds 21 = .ok (.iload_n 1, 1) := by decide +kernel
theorem dX5_kinds_22 : decode cX5_kinds 22 = .ok (.aaload, 1) := by decide +kernel
theorem dX5_kinds_23 : decode cX5_kinds 23 = .ok (.aload_n 0, 1) := by decide +kernel
theorem dX5_kinds_24 : decode cX5_kinds 24 = .ok (.getfield 22, 3) := by decide +kernel
theorem dX5_kinds_27 : decode cX5_kinds 27 = .ok (.iconst 0, 1) := by decide +kernel
theorem dX5_kinds_28 : decode cX5_kinds 28 = .ok (.invokestatic 195, 3) := by decide +kernel
theorem dX5_kinds_31 : decode cX5_kinds 31 = .ok (.iinc 1 1, 3) := by decide +kernel
theorem dX5_kinds_34 : decode cX5_kinds 34 = .ok (.goto (-25), 3) := by decide +kernel
theorem dX5_kinds_37 : decode cX5_kinds 37 = .ok (.aload_n 0, 1) := by decide +kernel
theorem dX5_kinds_38 : decode cX5_kinds 38 = .ok (.invokevirtual 199, 3) := by decide +kernel
theorem dX5_kinds_41 : decode cX5_kinds 41 = .ok (.ireturn, 1) := by decide +kernel
theorem dX5_clear_0 : decode cX5_clear 0 = .ok (.aload_n 0, 1) := by decide +kernel
theorem dX5_clear_1 : decode cX5_clear 1 = .ok (.iconst 0, 1) := by decide +kernel
theorem dX5_clear_2 : decode cX5_clear 2 = .ok (.putfield 15, 3) := by decide +kernel
theorem dX5_clear_5 : decode cX5_clear 5 = .ok (.return_, 1) := by decide +kernel
theorem dX5_requireWithin_0 : decode cX5_requireWithin 0 = .ok (.iload_n 0, 1) := by decide +kernel
theorem dX5_requireWithin_1 : decode cX5_requireWithin 1 = .ok (.ifCond .lt 8, 3) := by decide +kernel
theorem dX5_requireWithin_4 : decode cX5_requireWithin 4 = .ok (.iload_n 0, 1) := by decide +kernel
theorem dX5_requireWithin_5 : decode cX5_requireWithin 5 = .ok (.iload_n 1, 1) := by decide +kernel
theorem dX5_requireWithin_6 : decode cX5_requireWithin 6 = .ok (.if_icmp .lt 11, 3) := by decide +kernel
theorem dX5_requireWithin_9 : decode cX5_requireWithin 9 = .ok (.new 141, 3) := by decide +kernel
theorem dX5_requireWithin_12 : decode cX5_requireWithin 12 = .ok (.dup, 1) := by decide +kernel
theorem dX5_requireWithin_13 : decode cX5_requireWithin 13 = .ok (.invokespecial 143, 3) := by decide +kernel
theorem dX5_requireWithin_16 : decode cX5_requireWithin 16 = .ok (.athrow, 1) := by decide +kernel
theorem dX5_requireWithin_17 : decode cX5_requireWithin 17 = .ok (.return_, 1) := by decide +kernel
theorem dX5_requireNet_0 : decode cX5_requireNet 0 = .ok (.iload_n 1, 1) := by decide +kernel
theorem dX5_requireNet_1 : decode cX5_requireNet 1 = .ok (.aload_n 0, 1) := by decide +kernel
theorem dX5_requireNet_2 : decode cX5_requireNet 2 = .ok (.getfield 77, 3) := by decide +kernel
theorem dX5_requireNet_5 : decode cX5_requireNet 5 = .ok (.getfield 110, 3) := by decide +kernel
theorem dX5_requireNet_8 : decode cX5_requireNet 8 = .ok (.invokestatic 133, 3) := by decide +kernel
theorem dX5_requireNet_11 : decode cX5_requireNet 11 = .ok (.return_, 1) := by decide +kernel
theorem dX5_requireRoomForModule_0 : decode cX5_requireRoomForModule 0 = .ok (.aload_n 0, 1) := by decide +kernel
theorem dX5_requireRoomForModule_1 : decode cX5_requireRoomForModule 1 = .ok (.getfield 15, 3) := by decide +kernel
theorem dX5_requireRoomForModule_4 : decode cX5_requireRoomForModule 4 = .ok (.bipush 24, 2) := by decide +kernel
theorem dX5_requireRoomForModule_6 : decode cX5_requireRoomForModule 6 = .ok (.if_icmp .ne 11, 3) := by decide +kernel
theorem dX5_requireRoomForModule_9 : decode cX5_requireRoomForModule 9 = .ok (.new 67, 3) := by decide +kernel
theorem dX5_requireRoomForModule_12 : decode cX5_requireRoomForModule 12 = .ok (.dup, 1) := by decide +kernel
theorem dX5_requireRoomForModule_13 : decode cX5_requireRoomForModule 13 = .ok (.invokespecial 69, 3) := by decide +kernel
theorem dX5_requireRoomForModule_16 : decode cX5_requireRoomForModule 16 = .ok (.athrow, 1) := by decide +kernel
theorem dX5_requireRoomForModule_17 : decode cX5_requireRoomForModule 17 = .ok (.return_, 1) := by decide +kernel
theorem dX5_shellAt_0 : decode cX5_shellAt 0 = .ok (.iload_n 1, 1) := by decide +kernel
theorem dX5_shellAt_1 : decode cX5_shellAt 1 = .ok (.aload_n 0, 1) := by decide +kernel
theorem dX5_shellAt_2 : decode cX5_shellAt 2 = .ok (.getfield 15, 3) := by decide +kernel
theorem dX5_shellAt_5 : decode cX5_shellAt 5 = .ok (.invokestatic 133, 3) := by decide +kernel
theorem dX5_shellAt_8 : decode cX5_shellAt 8 = .ok (.aload_n 0, 1) := by decide +kernel
theorem dX5_shellAt_9 : decode cX5_shellAt 9 = .ok (.getfield 11, 3) := by decide +kernel
theorem dX5_shellAt_12 : decode cX5_shellAt 12 = .ok (.iload_n 1, 1) := by decide +kernel
theorem dX5_shellAt_13 : decode cX5_shellAt 13 = .ok (.aaload, 1) := by decide +kernel
theorem dX5_shellAt_14 : decode cX5_shellAt 14 = .ok (.areturn, 1) := by decide +kernel
theorem dX5_placementAt_0 : decode cX5_placementAt 0 = .ok (.iload_n 1, 1) := by decide +kernel
theorem dX5_placementAt_1 : decode cX5_placementAt 1 = .ok (.aload_n 0, 1) := by decide +kernel
theorem dX5_placementAt_2 : decode cX5_placementAt 2 = .ok (.getfield 77, 3) := by decide +kernel
theorem dX5_placementAt_5 : decode cX5_placementAt 5 = .ok (.getfield 81, 3) := by decide +kernel
theorem dX5_placementAt_8 : decode cX5_placementAt 8 = .ok (.invokestatic 133, 3) := by decide +kernel
theorem dX5_placementAt_11 : decode cX5_placementAt 11 = .ok (.aload_n 0, 1) := by decide +kernel
theorem dX5_placementAt_12 : decode cX5_placementAt 12 = .ok (.getfield 77, 3) := by decide +kernel
theorem dX5_placementAt_15 : decode cX5_placementAt 15 = .ok (.getfield 209, 3) := by decide +kernel
theorem dX5_placementAt_18 : decode cX5_placementAt 18 = .ok (.iload_n 1, 1) := by decide +kernel
theorem dX5_placementAt_19 : decode cX5_placementAt 19 = .ok (.aaload, 1) := by decide +kernel
theorem dX5_placementAt_20 : decode cX5_placementAt 20 = .ok (.areturn, 1) := by decide +kernel
theorem dX5_addShell_0 : decode cX5_addShell 0 = .ok (.new 9, 3) := by decide +kernel
theorem dX5_addShell_3 : decode cX5_addShell 3 = .ok (.dup, 1) := by decide +kernel
theorem dX5_addShell_4 : decode cX5_addShell 4 = .ok (.aload_n 0, 1) := by decide +kernel
theorem dX5_addShell_5 : decode cX5_addShell 5 = .ok (.getfield 15, 3) := by decide +kernel
theorem dX5_addShell_8 : decode cX5_addShell 8 = .ok (.aload_n 1, 1) := by decide +kernel
theorem dX5_addShell_9 : decode cX5_addShell 9 = .ok (.invokespecial 213, 3) := by decide +kernel
theorem dX5_addShell_12 : decode cX5_addShell 12 = .ok (.astore_n 2, 1) := by decide +kernel
theorem dX5_addShell_13 : decode cX5_addShell 13 = .ok (.aload_n 0, 1) := by decide +kernel
theorem dX5_addShell_14 : decode cX5_addShell 14 = .ok (.getfield 11, 3) := by decide +kernel
theorem dX5_addShell_17 : decode cX5_addShell 17 = .ok (.aload_n 0, 1) := by decide +kernel
theorem dX5_addShell_18 : decode cX5_addShell 18 = .ok (.getfield 15, 3) := by decide +kernel
theorem dX5_addShell_21 : decode cX5_addShell 21 = .ok (.aload_n 2, 1) := by decide +kernel
theorem dX5_addShell_22 : decode cX5_addShell 22 = .ok (.aastore, 1) := by decide +kernel
theorem dX5_addShell_23 : decode cX5_addShell 23 = .ok (.aload_n 0, 1) := by decide +kernel
theorem dX5_addShell_24 : decode cX5_addShell 24 = .ok (.dup, 1) := by decide +kernel
theorem dX5_addShell_25 : decode cX5_addShell 25 = .ok (.getfield 15, 3) := by decide +kernel
theorem dX5_addShell_28 : decode cX5_addShell 28 = .ok (.iconst 1, 1) := by decide +kernel
theorem dX5_addShell_29 : decode cX5_addShell 29 = .ok (.iadd, 1) := by decide +kernel
theorem dX5_addShell_30 : decode cX5_addShell 30 = .ok (.putfield 15, 3) := by decide +kernel
theorem dX5_addShell_33 : decode cX5_addShell 33 = .ok (.aload_n 2, 1) := by decide +kernel
theorem dX5_addShell_34 : decode cX5_addShell 34 = .ok (.areturn, 1) := by decide +kernel
theorem dX5_insideToChange_0 : decode cX5_insideToChange 0 = .ok (.aload_n 0, 1) := by decide +kernel
theorem dX5_insideToChange_1 : decode cX5_insideToChange 1 = .ok (.getfield 77, 3) := by decide +kernel
theorem dX5_insideToChange_4 : decode cX5_insideToChange 4 = .ok (.getfield 148, 3) := by decide +kernel
theorem dX5_insideToChange_7 : decode cX5_insideToChange 7 = .ok (.iconst 1, 1) := by decide +kernel
theorem dX5_insideToChange_8 : decode cX5_insideToChange 8 = .ok (.if_icmp .le 27, 3) := by decide +kernel
theorem dX5_insideToChange_11 : decode cX5_insideToChange 11 = .ok (.aload_n 0, 1) := by decide +kernel
theorem dX5_insideToChange_12 : decode cX5_insideToChange 12 = .ok (.getfield 77, 3) := by decide +kernel
theorem dX5_insideToChange_15 : decode cX5_insideToChange 15 = .ok (.dup, 1) := by decide +kernel
theorem dX5_insideToChange_16 : decode cX5_insideToChange 16 = .ok (.getfield 148, 3) := by decide +kernel
theorem dX5_insideToChange_19 : decode cX5_insideToChange 19 = .ok (.iconst 1, 1) := by decide +kernel
theorem dX5_insideToChange_20 : decode cX5_insideToChange 20 = .ok (.isub, 1) := by decide +kernel
theorem dX5_insideToChange_21 : decode cX5_insideToChange 21 = .ok (.putfield 148, 3) := by decide +kernel
theorem dX5_insideToChange_24 : decode cX5_insideToChange 24 = .ok (.aload_n 0, 1) := by decide +kernel
theorem dX5_insideToChange_25 : decode cX5_insideToChange 25 = .ok (.aload_n 0, 1) := by decide +kernel
theorem dX5_insideToChange_26 : decode cX5_insideToChange 26 = .ok (.getfield 77, 3) := by decide +kernel
theorem dX5_insideToChange_29 : decode cX5_insideToChange 29 = .ok (.invokevirtual 216, 3) := by decide +kernel
theorem dX5_insideToChange_32 : decode cX5_insideToChange 32 = .ok (.putfield 77, 3) := by decide +kernel
theorem dX5_insideToChange_35 : decode cX5_insideToChange 35 = .ok (.aload_n 0, 1) := by decide +kernel
theorem dX5_insideToChange_36 : decode cX5_insideToChange 36 = .ok (.getfield 77, 3) := by decide +kernel
theorem dX5_insideToChange_39 : decode cX5_insideToChange 39 = .ok (.areturn, 1) := by decide +kernel
theorem dX5_netAt_0 : decode cX5_netAt 0 = .ok (.iload_n 1, 1) := by decide +kernel
theorem dX5_netAt_1 : decode cX5_netAt 1 = .ok (.iconst (-1), 1) := by decide +kernel
theorem dX5_netAt_2 : decode cX5_netAt 2 = .ok (.if_icmp .ne 10, 3) := by decide +kernel
theorem dX5_netAt_5 : decode cX5_netAt 5 = .ok (.aload_n 0, 1) := by decide +kernel
theorem dX5_netAt_6 : decode cX5_netAt 6 = .ok (.getfield 92, 3) := by decide +kernel
theorem dX5_netAt_9 : decode cX5_netAt 9 = .ok (.goto 12, 3) := by decide +kernel
theorem dX5_netAt_12 : decode cX5_netAt 12 = .ok (.aload_n 0, 1) := by decide +kernel
theorem dX5_netAt_13 : decode cX5_netAt 13 = .ok (.iload_n 1, 1) := by decide +kernel
theorem dX5_netAt_14 : decode cX5_netAt 14 = .ok (.invokestatic 183, 3) := by decide +kernel
theorem dX5_netAt_17 : decode cX5_netAt 17 = .ok (.getfield 220, 3) := by decide +kernel
theorem dX5_netAt_20 : decode cX5_netAt 20 = .ok (.arraylength, 1) := by decide +kernel
theorem dX5_netAt_21 : decode cX5_netAt 21 = .ok (.istore_n 3, 1) := by decide +kernel
theorem dX5_netAt_22 : decode cX5_netAt 22 = .ok (.iload_n 2, 1) := by decide +kernel
theorem dX5_netAt_23 : decode cX5_netAt 23 = .ok (.iload_n 3, 1) := by decide +kernel
theorem dX5_netAt_24 : decode cX5_netAt 24 = .ok (.invokestatic 133, 3) := by decide +kernel
theorem dX5_netAt_27 : decode cX5_netAt 27 = .ok (.aload_n 0, 1) := by decide +kernel
theorem dX5_netAt_28 : decode cX5_netAt 28 = .ok (.getfield 77, 3) := by decide +kernel
theorem dX5_netAt_31 : decode cX5_netAt 31 = .ok (.iload_n 1, 1) := by decide +kernel
theorem dX5_netAt_32 : decode cX5_netAt 32 = .ok (.invokevirtual 129, 3) := by decide +kernel
theorem dX5_netAt_35 : decode cX5_netAt 35 = .ok (.iload_n 2, 1) := by decide +kernel
theorem dX5_netAt_36 : decode cX5_netAt 36 = .ok (.iaload, 1) := by decide +kernel
theorem dX5_netAt_37 : decode cX5_netAt 37 = .ok (.ireturn, 1) := by decide +kernel
theorem dX5_moveTo_0 : decode cX5_moveTo 0 = .ok (.aload_n 1, 1) := by decide +kernel
theorem dX5_moveTo_1 : decode cX5_moveTo 1 = .ok (.iload_n 2, 1) := by decide +kernel
theorem dX5_moveTo_2 : decode cX5_moveTo 2 = .ok (.iload_n 3, 1) := by decide +kernel
theorem dX5_moveTo_3 : decode cX5_moveTo 3 = .ok (.invokestatic 125, 3) := by decide +kernel
theorem dX5_moveTo_6 : decode cX5_moveTo 6 = .ok (.iload_n 0, 1) := by decide +kernel
theorem dX5_moveTo_7 : decode cX5_moveTo 7 = .ok (.if_icmp .ne 5, 3) := by decide +kernel
theorem dX5_moveTo_10 : decode cX5_moveTo 10 = .ok (.iconst 0, 1) := by decide +kernel
theorem dX5_moveTo_11 : decode cX5_moveTo 11 = .ok (.ireturn, 1) := by decide +kernel
theorem dX5_moveTo_12 : decode cX5_moveTo 12 = .ok (.aload_n 1, 1) := by decide +kernel
theorem dX5_moveTo_13 : decode cX5_moveTo 13 = .ok (.invokestatic 88, 3) := by decide +kernel
theorem dX5_moveTo_16 : decode cX5_moveTo 16 = .ok (.iload_n 2, 1) := by decide +kernel
theorem dX5_moveTo_17 : decode cX5_moveTo 17 = .ok (.invokevirtual 129, 3) := by decide +kernel
theorem dX5_moveTo_20 : decode cX5_moveTo 20 = .ok (.iload_n 3, 1) := by decide +kernel
theorem dX5_moveTo_21 : decode cX5_moveTo 21 = .ok (.iload_n 0, 1) := by decide +kernel
theorem dX5_moveTo_22 : decode cX5_moveTo 22 = .ok (.iastore, 1) := by decide +kernel
theorem dX5_moveTo_23 : decode cX5_moveTo 23 = .ok (.iconst 1, 1) := by decide +kernel
theorem dX5_moveTo_24 : decode cX5_moveTo 24 = .ok (.ireturn, 1) := by decide +kernel
theorem dX5_placeOf_0 : decode cX5_placeOf 0 = .ok (.iload_n 2, 1) := by decide +kernel
theorem dX5_placeOf_1 : decode cX5_placeOf 1 = .ok (.istore_n 3, 1) := by decide +kernel
theorem dX5_placeOf_2 : decode cX5_placeOf 2 = .ok (.iconst (-1), 1) := by decide +kernel
theorem dX5_placeOf_3 : decode cX5_placeOf 3 = .ok (.istore 4, 2) := by decide +kernel
theorem dX5_placeOf_5 : decode cX5_placeOf 5 = .ok (.iload 4, 2) := by decide +kernel
theorem dX5_placeOf_7 : decode cX5_placeOf 7 = .ok (.aload_n 0, 1) := by decide +kernel
theorem dX5_placeOf_8 : decode cX5_placeOf 8 = .ok (.getfield 81, 3) := by decide +kernel
theorem dX5_placeOf_11 : decode cX5_placeOf 11 = .ok (.if_icmp .ge 62, 3) := by decide +kernel
theorem dX5_placeOf_14 : decode cX5_placeOf 14 = .ok (.aload_n 0, 1) := by decide +kernel
theorem dX5_placeOf_15 : decode cX5_placeOf 15 = .ok (.iload 4, 2) := by decide +kernel
theorem dX5_placeOf_17 : decode cX5_placeOf 17 = .ok (.invokevirtual 129, 3) := by decide +kernel
theorem dX5_placeOf_20 : decode cX5_placeOf 20 = .ok (.astore 5, 2) := by decide +kernel
theorem dX5_placeOf_22 : decode cX5_placeOf 22 = .ok (.iconst 0, 1) := by decide +kernel
theorem dX5_placeOf_23 : decode cX5_placeOf 23 = .ok (.istore 6, 2) := by decide +kernel
theorem dX5_placeOf_25 : decode cX5_placeOf 25 = .ok (.iload 6, 2) := by decide +kernel
theorem dX5_placeOf_27 : decode cX5_placeOf 27 = .ok (.aload 5, 2) := by decide +kernel
theorem dX5_placeOf_29 : decode cX5_placeOf 29 = .ok (.arraylength, 1) := by decide +kernel
theorem dX5_placeOf_30 : decode cX5_placeOf 30 = .ok (.if_icmp .ge 37, 3) := by decide +kernel
theorem dX5_placeOf_33 : decode cX5_placeOf 33 = .ok (.aload 5, 2) := by decide +kernel
theorem dX5_placeOf_35 : decode cX5_placeOf 35 = .ok (.iload 6, 2) := by decide +kernel
theorem dX5_placeOf_37 : decode cX5_placeOf 37 = .ok (.iaload, 1) := by decide +kernel
theorem dX5_placeOf_38 : decode cX5_placeOf 38 = .ok (.iload_n 1, 1) := by decide +kernel
theorem dX5_placeOf_39 : decode cX5_placeOf 39 = .ok (.if_icmp .ne 22, 3) := by decide +kernel
theorem dX5_placeOf_42 : decode cX5_placeOf 42 = .ok (.iload_n 3, 1) := by decide +kernel
theorem dX5_placeOf_43 : decode cX5_placeOf 43 = .ok (.ifCond .ne 15, 3) := by decide +kernel
theorem dX5_placeOf_46 : decode cX5_placeOf 46 = .ok (.iload 4, 2) := by decide +kernel
theorem dX5_placeOf_48 : decode cX5_placeOf 48 = .ok (.iconst 1, 1) := by decide +kernel
theorem dX5_placeOf_49 : decode cX5_placeOf 49 = .ok (.iadd, 1) := by decide +kernel
theorem dX5_placeOf_50 : decode cX5_placeOf 50 = .ok (.sipush 128, 3) := by decide +kernel
theorem dX5_placeOf_53 : decode cX5_placeOf 53 = .ok (.imul, 1) := by decide +kernel
theorem dX5_placeOf_54 : decode cX5_placeOf 54 = .ok (.iload 6, 2) := by decide +kernel
theorem dX5_placeOf_56 : decode cX5_placeOf 56 = .ok (.iadd, 1) := by decide +kernel
theorem dX5_placeOf_57 : decode cX5_placeOf 57 = .ok (.ireturn, 1) := by decide +kernel
theorem dX5_placeOf_58 : decode cX5_placeOf 58 = .ok (.iinc 3 (-1), 3) := by decide +kernel
theorem dX5_placeOf_61 : decode cX5_placeOf 61 = .ok (.iinc 6 1, 3) := by decide +kernel
theorem dX5_placeOf_64 : decode cX5_placeOf 64 = .ok (.goto (-39), 3) := by decide +kernel
theorem dX5_placeOf_67 : decode cX5_placeOf 67 = .ok (.iinc 4 1, 3) := by decide +kernel
theorem dX5_placeOf_70 : decode cX5_placeOf 70 = .ok (.goto (-65), 3) := by decide +kernel
theorem dX5_placeOf_73 : decode cX5_placeOf 73 = .ok (.iconst (-1), 1) := by decide +kernel
theorem dX5_placeOf_74 : decode cX5_placeOf 74 = .ok (.ireturn, 1) := by decide +kernel
theorem dX5_isDriver_0 : decode cX5_isDriver 0 = .ok (.iload_n 1, 1) := by decide +kernel
theorem dX5_isDriver_1 : decode cX5_isDriver 1 = .ok (.iconst (-1), 1) := by decide +kernel
theorem dX5_isDriver_2 : decode cX5_isDriver 2 = .ok (.if_icmp .ne 20, 3) := by decide +kernel
theorem dX5_isDriver_5 : decode cX5_isDriver 5 = .ok (.aload_n 0, 1) := by decide +kernel
theorem dX5_isDriver_6 : decode cX5_isDriver 6 = .ok (.getfield 223, 3) := by decide +kernel
theorem dX5_isDriver_9 : decode cX5_isDriver 9 = .ok (.iload_n 2, 1) := by decide +kernel
theorem dX5_isDriver_10 : decode cX5_isDriver 10 = .ok (.baload, 1) := by decide +kernel
theorem dX5_isDriver_11 : decode cX5_isDriver 11 = .ok (.ifCond .ne 7, 3) := by decide +kernel
theorem dX5_isDriver_14 : decode cX5_isDriver 14 = .ok (.iconst 1, 1) := by decide +kernel
theorem dX5_isDriver_15 : decode cX5_isDriver 15 = .ok (.goto 24, 3) := by decide +kernel
theorem dX5_isDriver_18 : decode cX5_isDriver 18 = .ok (.iconst 0, 1) := by decide +kernel
theorem dX5_isDriver_19 : decode cX5_isDriver 19 = .ok (.goto 20, 3) := by decide +kernel
theorem dX5_isDriver_22 : decode cX5_isDriver 22 = .ok (.aload_n 0, 1) := by decide +kernel
theorem dX5_isDriver_23 : decode cX5_isDriver 23 = .ok (.getfield 77, 3) := by decide +kernel
theorem dX5_isDriver_26 : decode cX5_isDriver 26 = .ok (.getfield 209, 3) := by decide +kernel
theorem dX5_isDriver_29 : decode cX5_isDriver 29 = .ok (.iload_n 1, 1) := by decide +kernel
theorem dX5_isDriver_30 : decode cX5_isDriver 30 = .ok (.aaload, 1) := by decide +kernel
theorem dX5_isDriver_31 : decode cX5_isDriver 31 = .ok (.getfield 205, 3) := by decide +kernel
theorem dX5_isDriver_34 : decode cX5_isDriver 34 = .ok (.getfield 223, 3) := by decide +kernel
theorem dX5_isDriver_37 : decode cX5_isDriver 37 = .ok (.iload_n 2, 1) := by decide +kernel
theorem dX5_isDriver_38 : decode cX5_isDriver 38 = .ok (.baload, 1) := by decide +kernel
theorem dX5_isDriver_39 : decode cX5_isDriver 39 = .ok (.ireturn, 1) := by decide +kernel
theorem dX5_tally_0 : decode cX5_tally 0 = .ok (.aload_n 0, 1) := by decide +kernel
theorem dX5_tally_1 : decode cX5_tally 1 = .ok (.getfield 37, 3) := by decide +kernel
theorem dX5_tally_4 : decode cX5_tally 4 = .ok (.iconst 0, 1) := by decide +kernel
theorem dX5_tally_5 : decode cX5_tally 5 = .ok (.invokestatic 95, 3) := by decide +kernel
theorem dX5_tally_8 : decode cX5_tally 8 = .ok (.aload_n 0, 1) := by decide +kernel
theorem dX5_tally_9 : decode cX5_tally 9 = .ok (.getfield 40, 3) := by decide +kernel
theorem dX5_tally_12 : decode cX5_tally 12 = .ok (.iconst 0, 1) := by decide +kernel
theorem dX5_tally_13 : decode cX5_tally 13 = .ok (.invokestatic 95, 3) := by decide +kernel
theorem dX5_tally_16 : decode cX5_tally 16 = .ok (.iconst (-1), 1) := by decide +kernel
theorem dX5_tally_17 : decode cX5_tally 17 = .ok (.istore_n 2, 1) := by decide +kernel
theorem dX5_tally_18 : decode cX5_tally 18 = .ok (.iload_n 2, 1) := by decide +kernel
theorem dX5_tally_19 : decode cX5_tally 19 = .ok (.aload_n 1, 1) := by decide +kernel
theorem dX5_tally_20 : decode cX5_tally 20 = .ok (.getfield 77, 3) := by decide +kernel
theorem dX5_tally_23 : decode cX5_tally 23 = .ok (.getfield 81, 3) := by decide +kernel
theorem dX5_tally_26 : decode cX5_tally 26 = .ok (.if_icmp .ge 82, 3) := by decide +kernel
theorem dX5_tally_29 : decode cX5_tally 29 = .ok (.aload_n 1, 1) := by decide +kernel
theorem dX5_tally_30 : decode cX5_tally 30 = .ok (.getfield 77, 3) := by decide +kernel
theorem dX5_tally_33 : decode cX5_tally 33 = .ok (.iload_n 2, 1) := by decide +kernel
theorem dX5_tally_34 : decode cX5_tally 34 = .ok (.invokevirtual 129, 3) := by decide +kernel
theorem dX5_tally_37 : decode cX5_tally 37 = .ok (.astore_n 3, 1) := by decide +kernel
theorem dX5_tally_38 : decode cX5_tally 38 = .ok (.iconst 0, 1) := by decide +kernel
theorem dX5_tally_39 : decode cX5_tally 39 = .ok (.istore 4, 2) := by decide +kernel
theorem dX5_tally_41 : decode cX5_tally 41 = .ok (.iload 4, 2) := by decide +kernel
theorem dX5_tally_43 : decode cX5_tally 43 = .ok (.aload_n 3, 1) := by decide +kernel
theorem dX5_tally_44 : decode cX5_tally 44 = .ok (.arraylength, 1) := by decide +kernel
theorem dX5_tally_45 : decode cX5_tally 45 = .ok (.if_icmp .ge 57, 3) := by decide +kernel
theorem dX5_tally_48 : decode cX5_tally 48 = .ok (.aload_n 3, 1) := by decide +kernel
theorem dX5_tally_49 : decode cX5_tally 49 = .ok (.iload 4, 2) := by decide +kernel
theorem dX5_tally_51 : decode cX5_tally 51 = .ok (.iaload, 1) := by decide +kernel
theorem dX5_tally_52 : decode cX5_tally 52 = .ok (.iconst (-1), 1) := by decide +kernel
theorem dX5_tally_53 : decode cX5_tally 53 = .ok (.if_icmp .eq 43, 3) := by decide +kernel
theorem dX5_tally_56 : decode cX5_tally 56 = .ok (.aload_n 0, 1) := by decide +kernel
theorem dX5_tally_57 : decode cX5_tally 57 = .ok (.getfield 37, 3) := by decide +kernel
theorem dX5_tally_60 : decode cX5_tally 60 = .ok (.aload_n 3, 1) := by decide +kernel
theorem dX5_tally_61 : decode cX5_tally 61 = .ok (.iload 4, 2) := by decide +kernel
theorem dX5_tally_63 : decode cX5_tally 63 = .ok (.iaload, 1) := by decide +kernel
theorem dX5_tally_64 : decode cX5_tally 64 = .ok (.dup2, 1) := by decide +kernel
theorem dX5_tally_65 : decode cX5_tally 65 = .ok (.iaload, 1) := by decide +kernel
theorem dX5_tally_66 : decode cX5_tally 66 = .ok (.iconst 1, 1) := by decide +kernel
theorem dX5_tally_67 : decode cX5_tally 67 = .ok (.iadd, 1) := by decide +kernel
theorem dX5_tally_68 : decode cX5_tally 68 = .ok (.iastore, 1) := by decide +kernel
theorem dX5_tally_69 : decode cX5_tally 69 = .ok (.aload_n 0, 1) := by decide +kernel
theorem dX5_tally_70 : decode cX5_tally 70 = .ok (.getfield 40, 3) := by decide +kernel
theorem dX5_tally_73 : decode cX5_tally 73 = .ok (.aload_n 3, 1) := by decide +kernel
theorem dX5_tally_74 : decode cX5_tally 74 = .ok (.iload 4, 2) := by decide +kernel
theorem dX5_tally_76 : decode cX5_tally 76 = .ok (.iaload, 1) := by decide +kernel
theorem dX5_tally_77 : decode cX5_tally 77 = .ok (.dup2, 1) := by decide +kernel
theorem dX5_tally_78 : decode cX5_tally 78 = .ok (.iaload, 1) := by decide +kernel
theorem dX5_tally_79 : decode cX5_tally 79 = .ok (.aload_n 1, 1) := by decide +kernel
theorem dX5_tally_80 : decode cX5_tally 80 = .ok (.iload_n 2, 1) := by decide +kernel
theorem dX5_tally_81 : decode cX5_tally 81 = .ok (.iload 4, 2) := by decide +kernel
theorem dX5_tally_83 : decode cX5_tally 83 = .ok (.invokestatic 144, 3) := by decide +kernel
theorem dX5_tally_86 : decode cX5_tally 86 = .ok (.ifCond .eq 7, 3) := by decide +kernel
theorem dX5_tally_89 : decode cX5_tally 89 = .ok (.iconst 1, 1) := by decide +kernel
theorem dX5_tally_90 : decode cX5_tally 90 = .ok (.goto 4, 3) := by decide +kernel
theorem dX5_tally_93 : decode cX5_tally 93 = .ok (.iconst 0, 1) := by decide +kernel
theorem dX5_tally_94 : decode cX5_tally 94 = .ok (.iadd, 1) := by decide +kernel
theorem dX5_tally_95 : decode cX5_tally 95 = .ok (.iastore, 1) := by decide +kernel
theorem dX5_tally_96 : decode cX5_tally 96 = .ok (.iinc 4 1, 3) := by decide +kernel
theorem dX5_tally_99 : decode cX5_tally 99 = .ok (.goto (-58), 3) := by decide +kernel
theorem dX5_tally_102 : decode cX5_tally 102 = .ok (.iinc 2 1, 3) := by decide +kernel
theorem dX5_tally_105 : decode cX5_tally 105 = .ok (.goto (-87), 3) := by decide +kernel
theorem dX5_tally_108 : decode cX5_tally 108 = .ok (.return_, 1) := by decide +kernel
theorem dX5_tallied_0 : decode cX5_tallied 0 = .ok (.iload_n 2, 1) := by decide +kernel
theorem dX5_tallied_1 : decode cX5_tallied 1 = .ok (.ifCond .ge 11, 3) := by decide +kernel
theorem dX5_tallied_4 : decode cX5_tallied 4 = .ok (.new 141, 3) := by decide +kernel
theorem dX5_tallied_7 : decode cX5_tallied 7 = .ok (.dup, 1) := by decide +kernel
theorem dX5_tallied_8 : decode cX5_tallied 8 = .ok (.invokespecial 143, 3) := by decide +kernel
theorem dX5_tallied_11 : decode cX5_tallied 11 = .ok (.athrow, 1) := by decide +kernel
theorem dX5_tallied_12 : decode cX5_tallied 12 = .ok (.aload_n 0, 1) := by decide +kernel
theorem dX5_tallied_13 : decode cX5_tallied 13 = .ok (.aload_n 1, 1) := by decide +kernel
theorem dX5_tallied_14 : decode cX5_tallied 14 = .ok (.invokevirtual 227, 3) := by decide +kernel
theorem dX5_tallied_17 : decode cX5_tallied 17 = .ok (.iload_n 2, 1) := by decide +kernel
theorem dX5_tallied_18 : decode cX5_tallied 18 = .ok (.istore 4, 2) := by decide +kernel
theorem dX5_tallied_20 : decode cX5_tallied 20 = .ok (.iconst 0, 1) := by decide +kernel
theorem dX5_tallied_21 : decode cX5_tallied 21 = .ok (.istore 5, 2) := by decide +kernel
theorem dX5_tallied_23 : decode cX5_tallied 23 = .ok (.iload 5, 2) := by decide +kernel
theorem dX5_tallied_25 : decode cX5_tallied 25 = .ok (.aload_n 1, 1) := by decide +kernel
theorem dX5_tallied_26 : decode cX5_tallied 26 = .ok (.getfield 77, 3) := by decide +kernel
theorem dX5_tallied_29 : decode cX5_tallied 29 = .ok (.getfield 110, 3) := by decide +kernel
theorem dX5_tallied_32 : decode cX5_tallied 32 = .ok (.if_icmp .ge 70, 3) := by decide +kernel
theorem dX5_tallied_35 : decode cX5_tallied 35 = .ok (.aload_n 0, 1) := by decide +kernel
theorem dX5_tallied_36 : decode cX5_tallied 36 = .ok (.getfield 37, 3) := by decide +kernel
theorem dX5_tallied_39 : decode cX5_tallied 39 = .ok (.iload 5, 2) := by decide +kernel
theorem dX5_tallied_41 : decode cX5_tallied 41 = .ok (.iaload, 1) := by decide +kernel
theorem dX5_tallied_42 : decode cX5_tallied 42 = .ok (.ifCond .le 17, 3) := by decide +kernel
theorem dX5_tallied_45 : decode cX5_tallied 45 = .ok (.aload_n 0, 1) := by decide +kernel
theorem dX5_tallied_46 : decode cX5_tallied 46 = .ok (.getfield 40, 3) := by decide +kernel
theorem dX5_tallied_49 : decode cX5_tallied 49 = .ok (.iload 5, 2) := by decide +kernel
theorem dX5_tallied_51 : decode cX5_tallied 51 = .ok (.iaload, 1) := by decide +kernel
theorem dX5_tallied_52 : decode cX5_tallied 52 = .ok (.ifCond .ne 7, 3) := by decide +kernel
theorem dX5_tallied_55 : decode cX5_tallied 55 = .ok (.iconst 1, 1) := by decide +kernel
theorem dX5_tallied_56 : decode cX5_tallied 56 = .ok (.goto 4, 3) := by decide +kernel
theorem dX5_tallied_59 : decode cX5_tallied 59 = .ok (.iconst 0, 1) := by decide +kernel
theorem dX5_tallied_60 : decode cX5_tallied 60 = .ok (.istore 6, 2) := by decide +kernel
theorem dX5_tallied_62 : decode cX5_tallied 62 = .ok (.iload_n 3, 1) := by decide +kernel
theorem dX5_tallied_63 : decode cX5_tallied 63 = .ok (.ifCond .eq 17, 3) := by decide +kernel
theorem dX5_tallied_66 : decode cX5_tallied 66 = .ok (.aload_n 0, 1) := by decide +kernel
theorem dX5_tallied_67 : decode cX5_tallied 67 = .ok (.getfield 40, 3) := by decide +kernel
theorem dX5_tallied_70 : decode cX5_tallied 70 = .ok (.iload 5, 2) := by decide +kernel
theorem dX5_tallied_72 : decode cX5_tallied 72 = .ok (.iaload, 1) := by decide +kernel
theorem dX5_tallied_73 : decode cX5_tallied 73 = .ok (.iconst 2, 1) := by decide +kernel
theorem dX5_tallied_74 : decode cX5_tallied 74 = .ok (.if_icmp .lt 22, 3) := by decide +kernel
theorem dX5_tallied_77 : decode cX5_tallied 77 = .ok (.goto 8, 3) := by decide +kernel
theorem dX5_tallied_80 : decode cX5_tallied 80 = .ok (.iload 6, 2) := by decide +kernel
theorem dX5_tallied_82 : decode cX5_tallied 82 = .ok (.ifCond .eq 14, 3) := by decide +kernel
theorem dX5_tallied_85 : decode cX5_tallied 85 = .ok (.iload 4, 2) := by decide +kernel
theorem dX5_tallied_87 : decode cX5_tallied 87 = .ok (.ifCond .ne 6, 3) := by decide +kernel
theorem dX5_tallied_90 : decode cX5_tallied 90 = .ok (.iload 5, 2) := by decide +kernel
theorem dX5_tallied_92 : decode cX5_tallied 92 = .ok (.ireturn, 1) := by decide +kernel
theorem dX5_tallied_93 : decode cX5_tallied 93 = .ok (.iinc 4 (-1), 3) := by decide +kernel
theorem dX5_tallied_96 : decode cX5_tallied 96 = .ok (.iinc 5 1, 3) := by decide +kernel
theorem dX5_tallied_99 : decode cX5_tallied 99 = .ok (.goto (-76), 3) := by decide +kernel
theorem dX5_tallied_102 : decode cX5_tallied 102 = .ok (.iconst (-1), 1) := by decide +kernel
theorem dX5_tallied_103 : decode cX5_tallied 103 = .ok (.ireturn, 1) := by decide +kernel
theorem dX5_putBehindParts_0 : decode cX5_putBehindParts 0 = .ok (.iload_n 2, 1) := by decide +kernel
theorem dX5_putBehindParts_1 : decode cX5_putBehindParts 1 = .ok (.bipush 24, 2) := by decide +kernel
theorem dX5_putBehindParts_3 : decode cX5_putBehindParts 3 = .ok (.if_icmp .ge 15, 3) := by decide +kernel
theorem dX5_putBehindParts_6 : decode cX5_putBehindParts 6 = .ok (.aload_n 1, 1) := by decide +kernel
theorem dX5_putBehindParts_7 : decode cX5_putBehindParts 7 = .ok (.getfield 230, 3) := by decide +kernel
theorem dX5_putBehindParts_10 : decode cX5_putBehindParts 10 = .ok (.aload_n 0, 1) := by decide +kernel
theorem dX5_putBehindParts_11 : decode cX5_putBehindParts 11 = .ok (.getfield 53, 3) := by decide +kernel
theorem dX5_putBehindParts_14 : decode cX5_putBehindParts 14 = .ok (.baload, 1) := by decide +kernel
theorem dX5_putBehindParts_15 : decode cX5_putBehindParts 15 = .ok (.ifCond .eq 4, 3) := by decide +kernel
theorem dX5_putBehindParts_18 : decode cX5_putBehindParts 18 = .ok (.return_, 1) := by decide +kernel
theorem dX5_putBehindParts_19 : decode cX5_putBehindParts 19 = .ok (.aload_n 1, 1) := by decide +kernel
theorem dX5_putBehindParts_20 : decode cX5_putBehindParts 20 = .ok (.getfield 230, 3) := by decide +kernel
theorem dX5_putBehindParts_23 : decode cX5_putBehindParts 23 = .ok (.aload_n 0, 1) := by decide +kernel
theorem dX5_putBehindParts_24 : decode cX5_putBehindParts 24 = .ok (.getfield 53, 3) := by decide +kernel
theorem dX5_putBehindParts_27 : decode cX5_putBehindParts 27 = .ok (.iconst 1, 1) := by decide +kernel
theorem dX5_putBehindParts_28 : decode cX5_putBehindParts 28 = .ok (.bastore, 1) := by decide +kernel
theorem dX5_putBehindParts_29 : decode cX5_putBehindParts 29 = .ok (.iconst 0, 1) := by decide +kernel
theorem dX5_putBehindParts_30 : decode cX5_putBehindParts 30 = .ok (.istore_n 3, 1) := by decide +kernel
theorem dX5_putBehindParts_31 : decode cX5_putBehindParts 31 = .ok (.iload_n 3, 1) := by decide +kernel
theorem dX5_putBehindParts_32 : decode cX5_putBehindParts 32 = .ok (.aload_n 0, 1) := by decide +kernel
theorem dX5_putBehindParts_33 : decode cX5_putBehindParts 33 = .ok (.getfield 77, 3) := by decide +kernel
theorem dX5_putBehindParts_36 : decode cX5_putBehindParts 36 = .ok (.getfield 81, 3) := by decide +kernel
theorem dX5_putBehindParts_39 : decode cX5_putBehindParts 39 = .ok (.if_icmp .ge 28, 3) := by decide +kernel
theorem dX5_putBehindParts_42 : decode cX5_putBehindParts 42 = .ok (.aload_n 0, 1) := by decide +kernel
theorem dX5_putBehindParts_43 : decode cX5_putBehindParts 43 = .ok (.getfield 77, 3) := by decide +kernel
theorem dX5_putBehindParts_46 : decode cX5_putBehindParts 46 = .ok (.getfield 209, 3) := by decide +kernel
theorem dX5_putBehindParts_49 : decode cX5_putBehindParts 49 = .ok (.iload_n 3, 1) := by decide +kernel
theorem dX5_putBehindParts_50 : decode cX5_putBehindParts 50 = .ok (.aaload, 1) := by decide +kernel
theorem dX5_putBehindParts_51 : decode cX5_putBehindParts 51 = .ok (.getfield 205, 3) := by decide +kernel
theorem dX5_putBehindParts_54 : decode cX5_putBehindParts 54 = .ok (.aload_n 1, 1) := by decide +kernel
theorem dX5_putBehindParts_55 : decode cX5_putBehindParts 55 = .ok (.iload_n 2, 1) := by decide +kernel
theorem dX5_putBehindParts_56 : decode cX5_putBehindParts 56 = .ok (.iconst 1, 1) := by decide +kernel
theorem dX5_putBehindParts_57 : decode cX5_putBehindParts 57 = .ok (.iadd, 1) := by decide +kernel
theorem dX5_putBehindParts_58 : decode cX5_putBehindParts 58 = .ok (.invokestatic 195, 3) := by decide +kernel
theorem dX5_putBehindParts_61 : decode cX5_putBehindParts 61 = .ok (.iinc 3 1, 3) := by decide +kernel
theorem dX5_putBehindParts_64 : decode cX5_putBehindParts 64 = .ok (.goto (-33), 3) := by decide +kernel
theorem dX5_putBehindParts_67 : decode cX5_putBehindParts 67 = .ok (.aload_n 1, 1) := by decide +kernel
theorem dX5_putBehindParts_68 : decode cX5_putBehindParts 68 = .ok (.aload_n 0, 1) := by decide +kernel
theorem dX5_putBehindParts_69 : decode cX5_putBehindParts 69 = .ok (.invokevirtual 233, 3) := by decide +kernel
theorem dX5_putBehindParts_72 : decode cX5_putBehindParts 72 = .ok (.return_, 1) := by decide +kernel
theorem dX5_orderFrom_0 : decode cX5_orderFrom 0 = .ok (.aload_n 0, 1) := by decide +kernel
theorem dX5_orderFrom_1 : decode cX5_orderFrom 1 = .ok (.getfield 22, 3) := by decide +kernel
theorem dX5_orderFrom_4 : decode cX5_orderFrom 4 = .ok (.invokevirtual 194, 3) := by decide +kernel
theorem dX5_orderFrom_7 : decode cX5_orderFrom 7 = .ok (.aload_n 1, 1) := by decide +kernel
theorem dX5_orderFrom_8 : decode cX5_orderFrom 8 = .ok (.aload_n 0, 1) := by decide +kernel
theorem dX5_orderFrom_9 : decode cX5_orderFrom 9 = .ok (.getfield 22, 3) := by decide +kernel
theorem dX5_orderFrom_12 : decode cX5_orderFrom 12 = .ok (.iconst 0, 1) := by decide +kernel
theorem dX5_orderFrom_13 : decode cX5_orderFrom 13 = .ok (.invokestatic 195, 3) := by decide +kernel
theorem dX5_orderFrom_16 : decode cX5_orderFrom 16 = .ok (.return_, 1) := by decide +kernel
theorem dX5_isWithin_0 : decode cX5_isWithin 0 = .ok (.aload_n 0, 1) := by decide +kernel
theorem dX5_isWithin_1 : decode cX5_isWithin 1 = .ok (.aload_n 2, 1) := by decide +kernel
theorem dX5_isWithin_2 : decode cX5_isWithin 2 = .ok (.invokevirtual 236, 3) := by decide +kernel
theorem dX5_isWithin_5 : decode cX5_isWithin 5 = .ok (.aload_n 0, 1) := by decide +kernel
theorem dX5_isWithin_6 : decode cX5_isWithin 6 = .ok (.getfield 22, 3) := by decide +kernel
theorem dX5_isWithin_9 : decode cX5_isWithin 9 = .ok (.getfield 230, 3) := by decide +kernel
theorem dX5_isWithin_12 : decode cX5_isWithin 12 = .ok (.aload_n 1, 1) := by decide +kernel
theorem dX5_isWithin_13 : decode cX5_isWithin 13 = .ok (.getfield 53, 3) := by decide +kernel
theorem dX5_isWithin_16 : decode cX5_isWithin 16 = .ok (.baload, 1) := by decide +kernel
theorem dX5_isWithin_17 : decode cX5_isWithin 17 = .ok (.ireturn, 1) := by decide +kernel
theorem dX5_layersBelow_0 : decode cX5_layersBelow 0 = .ok (.aload_n 0, 1) := by decide +kernel
theorem dX5_layersBelow_1 : decode cX5_layersBelow 1 = .ok (.aload_n 1, 1) := by decide +kernel
theorem dX5_layersBelow_2 : decode cX5_layersBelow 2 = .ok (.invokevirtual 236, 3) := by decide +kernel
theorem dX5_layersBelow_5 : decode cX5_layersBelow 5 = .ok (.iconst 0, 1) := by decide +kernel
theorem dX5_layersBelow_6 : decode cX5_layersBelow 6 = .ok (.istore_n 2, 1) := by decide +kernel
theorem dX5_layersBelow_7 : decode cX5_layersBelow 7 = .ok (.iload_n 2, 1) := by decide +kernel
theorem dX5_layersBelow_8 : decode cX5_layersBelow 8 = .ok (.aload_n 0, 1) := by decide +kernel
theorem dX5_layersBelow_9 : decode cX5_layersBelow 9 = .ok (.getfield 22, 3) := by decide +kernel
theorem dX5_layersBelow_12 : decode cX5_layersBelow 12 = .ok (.getfield 239, 3) := by decide +kernel
theorem dX5_layersBelow_15 : decode cX5_layersBelow 15 = .ok (.if_icmp .ge 89, 3) := by decide +kernel
theorem dX5_layersBelow_18 : decode cX5_layersBelow 18 = .ok (.aload_n 0, 1) := by decide +kernel
theorem dX5_layersBelow_19 : decode cX5_layersBelow 19 = .ok (.getfield 22, 3) := by decide +kernel
theorem dX5_layersBelow_22 : decode cX5_layersBelow 22 = .ok (.getfield 242, 3) := by decide +kernel
theorem dX5_layersBelow_25 : decode cX5_layersBelow 25 = .ok (.iload_n 2, 1) := by decide +kernel
theorem dX5_layersBelow_26 : decode cX5_layersBelow 26 = .ok (.aaload, 1) := by decide +kernel
theorem dX5_layersBelow_27 : decode cX5_layersBelow 27 = .ok (.getfield 77, 3) := by decide +kernel
theorem dX5_layersBelow_30 : decode cX5_layersBelow 30 = .ok (.astore_n 3, 1) := by decide +kernel
theorem dX5_layersBelow_31 : decode cX5_layersBelow 31 = .ok (.iconst 0, 1) := by decide +kernel
theorem dX5_layersBelow_32 : decode cX5_layersBelow 32 = .ok (.istore 4, 2) := by decide +kernel
theorem dX5_layersBelow_34 : decode cX5_layersBelow 34 = .ok (.iconst 0, 1) := by decide +kernel
theorem dX5_layersBelow_35 : decode cX5_layersBelow 35 = .ok (.istore 5, 2) := by decide +kernel
theorem dX5_layersBelow_37 : decode cX5_layersBelow 37 = .ok (.iload 5, 2) := by decide +kernel
theorem dX5_layersBelow_39 : decode cX5_layersBelow 39 = .ok (.aload_n 3, 1) := by decide +kernel
theorem dX5_layersBelow_40 : decode cX5_layersBelow 40 = .ok (.getfield 81, 3) := by decide +kernel
theorem dX5_layersBelow_43 : decode cX5_layersBelow 43 = .ok (.if_icmp .ge 36, 3) := by decide +kernel
theorem dX5_layersBelow_46 : decode cX5_layersBelow 46 = .ok (.iload 4, 2) := by decide +kernel
theorem dX5_layersBelow_48 : decode cX5_layersBelow 48 = .ok (.iconst 1, 1) := by decide +kernel
theorem dX5_layersBelow_49 : decode cX5_layersBelow 49 = .ok (.aload_n 0, 1) := by decide +kernel
theorem dX5_layersBelow_50 : decode cX5_layersBelow 50 = .ok (.getfield 33, 3) := by decide +kernel
theorem dX5_layersBelow_53 : decode cX5_layersBelow 53 = .ok (.aload_n 3, 1) := by decide +kernel
theorem dX5_layersBelow_54 : decode cX5_layersBelow 54 = .ok (.getfield 209, 3) := by decide +kernel
theorem dX5_layersBelow_57 : decode cX5_layersBelow 57 = .ok (.iload 5, 2) := by decide +kernel
theorem dX5_layersBelow_59 : decode cX5_layersBelow 59 = .ok (.aaload, 1) := by decide +kernel
theorem dX5_layersBelow_60 : decode cX5_layersBelow 60 = .ok (.getfield 205, 3) := by decide +kernel
theorem dX5_layersBelow_63 : decode cX5_layersBelow 63 = .ok (.getfield 53, 3) := by decide +kernel
theorem dX5_layersBelow_66 : decode cX5_layersBelow 66 = .ok (.iaload, 1) := by decide +kernel
theorem dX5_layersBelow_67 : decode cX5_layersBelow 67 = .ok (.iadd, 1) := by decide +kernel
theorem dX5_layersBelow_68 : decode cX5_layersBelow 68 = .ok (.invokestatic 245, 3) := by decide +kernel
theorem dX5_layersBelow_71 : decode cX5_layersBelow 71 = .ok (.istore 4, 2) := by decide +kernel
theorem dX5_layersBelow_73 : decode cX5_layersBelow 73 = .ok (.iinc 5 1, 3) := by decide +kernel
theorem dX5_layersBelow_76 : decode cX5_layersBelow 76 = .ok (.goto (-39), 3) := by decide +kernel
theorem dX5_layersBelow_79 : decode cX5_layersBelow 79 = .ok (.aload_n 0, 1) := by decide +kernel
theorem dX5_layersBelow_80 : decode cX5_layersBelow 80 = .ok (.getfield 33, 3) := by decide +kernel
theorem dX5_layersBelow_83 : decode cX5_layersBelow 83 = .ok (.aload_n 0, 1) := by decide +kernel
theorem dX5_layersBelow_84 : decode cX5_layersBelow 84 = .ok (.getfield 22, 3) := by decide +kernel
theorem dX5_layersBelow_87 : decode cX5_layersBelow 87 = .ok (.getfield 242, 3) := by decide +kernel
theorem dX5_layersBelow_90 : decode cX5_layersBelow 90 = .ok (.iload_n 2, 1) := by decide +kernel
theorem dX5_layersBelow_91 : decode cX5_layersBelow 91 = .ok (.aaload, 1) := by decide +kernel
theorem dX5_layersBelow_92 : decode cX5_layersBelow 92 = .ok (.getfield 53, 3) := by decide +kernel
theorem dX5_layersBelow_95 : decode cX5_layersBelow 95 = .ok (.iload 4, 2) := by decide +kernel
theorem dX5_layersBelow_97 : decode cX5_layersBelow 97 = .ok (.iastore, 1) := by decide +kernel
theorem dX5_layersBelow_98 : decode cX5_layersBelow 98 = .ok (.iinc 2 1, 3) := by decide +kernel
theorem dX5_layersBelow_101 : decode cX5_layersBelow 101 = .ok (.goto (-94), 3) := by decide +kernel
theorem dX5_layersBelow_104 : decode cX5_layersBelow 104 = .ok (.aload_n 0, 1) := by decide +kernel
theorem dX5_layersBelow_105 : decode cX5_layersBelow 105 = .ok (.getfield 33, 3) := by decide +kernel
theorem dX5_layersBelow_108 : decode cX5_layersBelow 108 = .ok (.aload_n 1, 1) := by decide +kernel
theorem dX5_layersBelow_109 : decode cX5_layersBelow 109 = .ok (.getfield 53, 3) := by decide +kernel
theorem dX5_layersBelow_112 : decode cX5_layersBelow 112 = .ok (.iaload, 1) := by decide +kernel
theorem dX5_layersBelow_113 : decode cX5_layersBelow 113 = .ok (.ireturn, 1) := by decide +kernel
theorem dX5_leavesIn_0 : decode cX5_leavesIn 0 = .ok (.aload_n 0, 1) := by decide +kernel
theorem dX5_leavesIn_1 : decode cX5_leavesIn 1 = .ok (.aload_n 1, 1) := by decide +kernel
theorem dX5_leavesIn_2 : decode cX5_leavesIn 2 = .ok (.invokevirtual 236, 3) := by decide +kernel
theorem dX5_leavesIn_5 : decode cX5_leavesIn 5 = .ok (.iconst 0, 1) := by decide +kernel
theorem dX5_leavesIn_6 : decode cX5_leavesIn 6 = .ok (.istore_n 2, 1) := by decide +kernel
theorem dX5_leavesIn_7 : decode cX5_leavesIn 7 = .ok (.iload_n 2, 1) := by decide +kernel
theorem dX5_leavesIn_8 : decode cX5_leavesIn 8 = .ok (.aload_n 0, 1) := by decide +kernel
theorem dX5_leavesIn_9 : decode cX5_leavesIn 9 = .ok (.getfield 22, 3) := by decide +kernel
theorem dX5_leavesIn_12 : decode cX5_leavesIn 12 = .ok (.getfield 239, 3) := by decide +kernel
theorem dX5_leavesIn_15 : decode cX5_leavesIn 15 = .ok (.if_icmp .ge 101, 3) := by decide +kernel
theorem dX5_leavesIn_18 : decode cX5_leavesIn 18 = .ok (.aload_n 0, 1) := by decide +kernel
theorem dX5_leavesIn_19 : decode cX5_leavesIn 19 = .ok (.getfield 22, 3) := by decide +kernel
theorem dX5_leavesIn_22 : decode cX5_leavesIn 22 = .ok (.getfield 242, 3) := by decide +kernel
theorem dX5_leavesIn_25 : decode cX5_leavesIn 25 = .ok (.iload_n 2, 1) := by decide +kernel
theorem dX5_leavesIn_26 : decode cX5_leavesIn 26 = .ok (.aaload, 1) := by decide +kernel
theorem dX5_leavesIn_27 : decode cX5_leavesIn 27 = .ok (.getfield 77, 3) := by decide +kernel
theorem dX5_leavesIn_30 : decode cX5_leavesIn 30 = .ok (.astore_n 3, 1) := by decide +kernel
theorem dX5_leavesIn_31 : decode cX5_leavesIn 31 = .ok (.aload_n 3, 1) := by decide +kernel
theorem dX5_leavesIn_32 : decode cX5_leavesIn 32 = .ok (.invokevirtual 251, 3) := by decide +kernel
theorem dX5_leavesIn_35 : decode cX5_leavesIn 35 = .ok (.ifCond .eq 7, 3) := by decide +kernel
theorem dX5_leavesIn_38 : decode cX5_leavesIn 38 = .ok (.iconst 1, 1) := by decide +kernel
theorem dX5_leavesIn_39 : decode cX5_leavesIn 39 = .ok (.goto 4, 3) := by decide +kernel
theorem dX5_leavesIn_42 : decode cX5_leavesIn 42 = .ok (.iconst 0, 1) := by decide +kernel
theorem dX5_leavesIn_43 : decode cX5_leavesIn 43 = .ok (.istore 4, 2) := by decide +kernel
theorem dX5_leavesIn_45 : decode cX5_leavesIn 45 = .ok (.iconst 0, 1) := by decide +kernel
theorem dX5_leavesIn_46 : decode cX5_leavesIn 46 = .ok (.istore 5, 2) := by decide +kernel
theorem dX5_leavesIn_48 : decode cX5_leavesIn 48 = .ok (.iload 5, 2) := by decide +kernel
theorem dX5_leavesIn_50 : decode cX5_leavesIn 50 = .ok (.aload_n 3, 1) := by decide +kernel
theorem dX5_leavesIn_51 : decode cX5_leavesIn 51 = .ok (.getfield 81, 3) := by decide +kernel
theorem dX5_leavesIn_54 : decode cX5_leavesIn 54 = .ok (.if_icmp .ge 32, 3) := by decide +kernel
theorem dX5_leavesIn_57 : decode cX5_leavesIn 57 = .ok (.iload 4, 2) := by decide +kernel
theorem dX5_leavesIn_59 : decode cX5_leavesIn 59 = .ok (.aload_n 0, 1) := by decide +kernel
theorem dX5_leavesIn_60 : decode cX5_leavesIn 60 = .ok (.getfield 33, 3) := by decide +kernel
theorem dX5_leavesIn_63 : decode cX5_leavesIn 63 = .ok (.aload_n 3, 1) := by decide +kernel
theorem dX5_leavesIn_64 : decode cX5_leavesIn 64 = .ok (.getfield 209, 3) := by decide +kernel
theorem dX5_leavesIn_67 : decode cX5_leavesIn 67 = .ok (.iload 5, 2) := by decide +kernel
theorem dX5_leavesIn_69 : decode cX5_leavesIn 69 = .ok (.aaload, 1) := by decide +kernel
theorem dX5_leavesIn_70 : decode cX5_leavesIn 70 = .ok (.getfield 205, 3) := by decide +kernel
theorem dX5_leavesIn_73 : decode cX5_leavesIn 73 = .ok (.getfield 53, 3) := by decide +kernel
theorem dX5_leavesIn_76 : decode cX5_leavesIn 76 = .ok (.iaload, 1) := by decide +kernel
theorem dX5_leavesIn_77 : decode cX5_leavesIn 77 = .ok (.iadd, 1) := by decide +kernel
theorem dX5_leavesIn_78 : decode cX5_leavesIn 78 = .ok (.istore 4, 2) := by decide +kernel
theorem dX5_leavesIn_80 : decode cX5_leavesIn 80 = .ok (.iinc 5 1, 3) := by decide +kernel
theorem dX5_leavesIn_83 : decode cX5_leavesIn 83 = .ok (.goto (-35), 3) := by decide +kernel
theorem dX5_leavesIn_86 : decode cX5_leavesIn 86 = .ok (.aload_n 0, 1) := by decide +kernel
theorem dX5_leavesIn_87 : decode cX5_leavesIn 87 = .ok (.getfield 33, 3) := by decide +kernel
theorem dX5_leavesIn_90 : decode cX5_leavesIn 90 = .ok (.aload_n 0, 1) := by decide +kernel
theorem dX5_leavesIn_91 : decode cX5_leavesIn 91 = .ok (.getfield 22, 3) := by decide +kernel
theorem dX5_leavesIn_94 : decode cX5_leavesIn 94 = .ok (.getfield 242, 3) := by decide +kernel
theorem dX5_leavesIn_97 : decode cX5_leavesIn 97 = .ok (.iload_n 2, 1) := by decide +kernel
theorem dX5_leavesIn_98 : decode cX5_leavesIn 98 = .ok (.aaload, 1) := by decide +kernel
theorem dX5_leavesIn_99 : decode cX5_leavesIn 99 = .ok (.getfield 53, 3) := by decide +kernel
theorem dX5_leavesIn_102 : decode cX5_leavesIn 102 = .ok (.iload 4, 2) := by decide +kernel
theorem dX5_leavesIn_104 : decode cX5_leavesIn 104 = .ok (.ldc 255, 2) := by decide +kernel
theorem dX5_leavesIn_106 : decode cX5_leavesIn 106 = .ok (.invokestatic 256, 3) := by decide +kernel
theorem dX5_leavesIn_109 : decode cX5_leavesIn 109 = .ok (.iastore, 1) := by decide +kernel
theorem dX5_leavesIn_110 : decode cX5_leavesIn 110 = .ok (.iinc 2 1, 3) := by decide +kernel
theorem dX5_leavesIn_113 : decode cX5_leavesIn 113 = .ok (.goto (-106), 3) := by decide +kernel
theorem dX5_leavesIn_116 : decode cX5_leavesIn 116 = .ok (.aload_n 0, 1) := by decide +kernel
theorem dX5_leavesIn_117 : decode cX5_leavesIn 117 = .ok (.getfield 33, 3) := by decide +kernel
theorem dX5_leavesIn_120 : decode cX5_leavesIn 120 = .ok (.aload_n 1, 1) := by decide +kernel
theorem dX5_leavesIn_121 : decode cX5_leavesIn 121 = .ok (.getfield 53, 3) := by decide +kernel
theorem dX5_leavesIn_124 : decode cX5_leavesIn 124 = .ok (.iaload, 1) := by decide +kernel
theorem dX5_leavesIn_125 : decode cX5_leavesIn 125 = .ok (.ireturn, 1) := by decide +kernel
theorem dX5_netsOfOccurrences_0 : decode cX5_netsOfOccurrences 0 = .ok (.aload_n 0, 1) := by decide +kernel
theorem dX5_netsOfOccurrences_1 : decode cX5_netsOfOccurrences 1 = .ok (.aload_n 1, 1) := by decide +kernel
theorem dX5_netsOfOccurrences_2 : decode cX5_netsOfOccurrences 2 = .ok (.invokevirtual 236, 3) := by decide +kernel
theorem dX5_netsOfOccurrences_5 : decode cX5_netsOfOccurrences 5 = .ok (.iconst 0, 1) := by decide +kernel
theorem dX5_netsOfOccurrences_6 : decode cX5_netsOfOccurrences 6 = .ok (.istore_n 2, 1) := by decide +kernel
theorem dX5_netsOfOccurrences_7 : decode cX5_netsOfOccurrences 7 = .ok (.iload_n 2, 1) := by decide +kernel
theorem dX5_netsOfOccurrences_8 : decode cX5_netsOfOccurrences 8 = .ok (.aload_n 0, 1) := by decide +kernel
theorem dX5_netsOfOccurrences_9 : decode cX5_netsOfOccurrences 9 = .ok (.getfield 22, 3) := by decide +kernel
theorem dX5_netsOfOccurrences_12 : decode cX5_netsOfOccurrences 12 = .ok (.getfield 239, 3) := by decide +kernel
theorem dX5_netsOfOccurrences_15 : decode cX5_netsOfOccurrences 15 = .ok (.if_icmp .ge 113, 3) := by decide +kernel
theorem dX5_netsOfOccurrences_18 : decode cX5_netsOfOccurrences 18 = .ok (.aload_n 0, 1) := by decide +kernel
theorem dX5_netsOfOccurrences_19 : decode cX5_netsOfOccurrences 19 = .ok (.getfield 22, 3) := by decide +kernel
theorem dX5_netsOfOccurrences_22 : decode cX5_netsOfOccurrences 22 = .ok (.getfield 242, 3) := by decide +kernel
theorem dX5_netsOfOccurrences_25 : decode cX5_netsOfOccurrences 25 = .ok (.iload_n 2, 1) := by decide +kernel
theorem dX5_netsOfOccurrences_26 : decode cX5_netsOfOccurrences 26 = .ok (.aaload, 1) := by decide +kernel
theorem dX5_netsOfOccurrences_27 : decode cX5_netsOfOccurrences 27 = .ok (.getfield 77, 3) := by decide +kernel
theorem dX5_netsOfOccurrences_30 : decode cX5_netsOfOccurrences 30 = .ok (.astore_n 3, 1) := by decide +kernel
theorem dX5_netsOfOccurrences_31 : decode cX5_netsOfOccurrences 31 = .ok (.aload_n 3, 1) := by decide +kernel
theorem dX5_netsOfOccurrences_32 : decode cX5_netsOfOccurrences 32 = .ok (.getfield 110, 3) := by decide +kernel
theorem dX5_netsOfOccurrences_35 : decode cX5_netsOfOccurrences 35 = .ok (.istore 4, 2) := by decide +kernel
theorem dX5_netsOfOccurrences_37 : decode cX5_netsOfOccurrences 37 = .ok (.iconst 0, 1) := by decide +kernel
theorem dX5_netsOfOccurrences_38 : decode cX5_netsOfOccurrences 38 = .ok (.istore 5, 2) := by decide +kernel
theorem dX5_netsOfOccurrences_40 : decode cX5_netsOfOccurrences 40 = .ok (.iload 5, 2) := by decide +kernel
theorem dX5_netsOfOccurrences_42 : decode cX5_netsOfOccurrences 42 = .ok (.aload_n 3, 1) := by decide +kernel
theorem dX5_netsOfOccurrences_43 : decode cX5_netsOfOccurrences 43 = .ok (.getfield 81, 3) := by decide +kernel
theorem dX5_netsOfOccurrences_46 : decode cX5_netsOfOccurrences 46 = .ok (.if_icmp .ge 51, 3) := by decide +kernel
theorem dX5_netsOfOccurrences_49 : decode cX5_netsOfOccurrences 49 = .ok (.aload_n 3, 1) := by decide +kernel
theorem dX5_netsOfOccurrences_50 : decode cX5_netsOfOccurrences 50 = .ok (.getfield 209, 3) := by decide +kernel
theorem dX5_netsOfOccurrences_53 : decode cX5_netsOfOccurrences 53 = .ok (.iload 5, 2) := by decide +kernel
theorem dX5_netsOfOccurrences_55 : decode cX5_netsOfOccurrences 55 = .ok (.aaload, 1) := by decide +kernel
theorem dX5_netsOfOccurrences_56 : decode cX5_netsOfOccurrences 56 = .ok (.getfield 205, 3) := by decide +kernel
theorem dX5_netsOfOccurrences_59 : decode cX5_netsOfOccurrences 59 = .ok (.astore 6, 2) := by decide +kernel
theorem dX5_netsOfOccurrences_61 : decode cX5_netsOfOccurrences 61 = .ok (.iload 4, 2) := by decide +kernel
theorem dX5_netsOfOccurrences_63 : decode cX5_netsOfOccurrences 63 = .ok (.aload 6, 2) := by decide +kernel
theorem dX5_netsOfOccurrences_65 : decode cX5_netsOfOccurrences 65 = .ok (.getfield 77, 3) := by decide +kernel
theorem dX5_netsOfOccurrences_68 : decode cX5_netsOfOccurrences 68 = .ok (.invokevirtual 251, 3) := by decide +kernel
theorem dX5_netsOfOccurrences_71 : decode cX5_netsOfOccurrences 71 = .ok (.ifCond .eq 7, 3) := by decide +kernel
theorem dX5_netsOfOccurrences_74 : decode cX5_netsOfOccurrences 74 = .ok (.iconst 0, 1) := by decide +kernel
theorem dX5_netsOfOccurrences_75 : decode cX5_netsOfOccurrences 75 = .ok (.goto 13, 3) := by decide +kernel
theorem dX5_netsOfOccurrences_78 : decode cX5_netsOfOccurrences 78 = .ok (.aload_n 0, 1) := by decide +kernel
theorem dX5_netsOfOccurrences_79 : decode cX5_netsOfOccurrences 79 = .ok (.getfield 33, 3) := by decide +kernel
theorem dX5_netsOfOccurrences_82 : decode cX5_netsOfOccurrences 82 = .ok (.aload 6, 2) := by decide +kernel
theorem dX5_netsOfOccurrences_84 : decode cX5_netsOfOccurrences 84 = .ok (.getfield 53, 3) := by decide +kernel
theorem dX5_netsOfOccurrences_87 : decode cX5_netsOfOccurrences 87 = .ok (.iaload, 1) := by decide +kernel
theorem dX5_netsOfOccurrences_88 : decode cX5_netsOfOccurrences 88 = .ok (.iadd, 1) := by decide +kernel
theorem dX5_netsOfOccurrences_89 : decode cX5_netsOfOccurrences 89 = .ok (.istore 4, 2) := by decide +kernel
theorem dX5_netsOfOccurrences_91 : decode cX5_netsOfOccurrences 91 = .ok (.iinc 5 1, 3) := by decide +kernel
theorem dX5_netsOfOccurrences_94 : decode cX5_netsOfOccurrences 94 = .ok (.goto (-54), 3) := by decide +kernel
theorem dX5_netsOfOccurrences_97 : decode cX5_netsOfOccurrences 97 = .ok (.aload_n 0, 1) := by decide +kernel
theorem dX5_netsOfOccurrences_98 : decode cX5_netsOfOccurrences 98 = .ok (.getfield 33, 3) := by decide +kernel
theorem dX5_netsOfOccurrences_101 : decode cX5_netsOfOccurrences 101 = .ok (.aload_n 0, 1) := by decide +kernel
theorem dX5_netsOfOccurrences_102 : decode cX5_netsOfOccurrences 102 = .ok (.getfield 22, 3) := by decide +kernel
theorem dX5_netsOfOccurrences_105 : decode cX5_netsOfOccurrences 105 = .ok (.getfield 242, 3) := by decide +kernel
theorem dX5_netsOfOccurrences_108 : decode cX5_netsOfOccurrences 108 = .ok (.iload_n 2, 1) := by decide +kernel
theorem dX5_netsOfOccurrences_109 : decode cX5_netsOfOccurrences 109 = .ok (.aaload, 1) := by decide +kernel
theorem dX5_netsOfOccurrences_110 : decode cX5_netsOfOccurrences 110 = .ok (.getfield 53, 3) := by decide +kernel
theorem dX5_netsOfOccurrences_113 : decode cX5_netsOfOccurrences 113 = .ok (.iload 4, 2) := by decide +kernel
theorem dX5_netsOfOccurrences_115 : decode cX5_netsOfOccurrences 115 = .ok (.sipush 3001, 3) := by decide +kernel
theorem dX5_netsOfOccurrences_118 : decode cX5_netsOfOccurrences 118 = .ok (.invokestatic 256, 3) := by decide +kernel
theorem dX5_netsOfOccurrences_121 : decode cX5_netsOfOccurrences 121 = .ok (.iastore, 1) := by decide +kernel
theorem dX5_netsOfOccurrences_122 : decode cX5_netsOfOccurrences 122 = .ok (.iinc 2 1, 3) := by decide +kernel
theorem dX5_netsOfOccurrences_125 : decode cX5_netsOfOccurrences 125 = .ok (.goto (-118), 3) := by decide +kernel
theorem dX5_netsOfOccurrences_128 : decode cX5_netsOfOccurrences 128 = .ok (.aload_n 0, 1) := by decide +kernel
theorem dX5_netsOfOccurrences_129 : decode cX5_netsOfOccurrences 129 = .ok (.getfield 33, 3) := by decide +kernel
theorem dX5_netsOfOccurrences_132 : decode cX5_netsOfOccurrences 132 = .ok (.aload_n 1, 1) := by decide +kernel
theorem dX5_netsOfOccurrences_133 : decode cX5_netsOfOccurrences 133 = .ok (.getfield 53, 3) := by decide +kernel
theorem dX5_netsOfOccurrences_136 : decode cX5_netsOfOccurrences 136 = .ok (.iaload, 1) := by decide +kernel
theorem dX5_netsOfOccurrences_137 : decode cX5_netsOfOccurrences 137 = .ok (.ireturn, 1) := by decide +kernel
theorem dX5_layOut_0 : decode cX5_layOut 0 = .ok (.iload_n 3, 1) := by decide +kernel
theorem dX5_layOut_1 : decode cX5_layOut 1 = .ok (.bipush 24, 2) := by decide +kernel
theorem dX5_layOut_3 : decode cX5_layOut 3 = .ok (.if_icmp .lt 4, 3) := by decide +kernel
theorem dX5_layOut_6 : decode cX5_layOut 6 = .ok (.return_, 1) := by decide +kernel
theorem dX5_layOut_7 : decode cX5_layOut 7 = .ok (.iconst 0, 1) := by decide +kernel
theorem dX5_layOut_8 : decode cX5_layOut 8 = .ok (.istore 4, 2) := by decide +kernel
theorem dX5_layOut_10 : decode cX5_layOut 10 = .ok (.iload 4, 2) := by decide +kernel
theorem dX5_layOut_12 : decode cX5_layOut 12 = .ok (.aload_n 0, 1) := by decide +kernel
theorem dX5_layOut_13 : decode cX5_layOut 13 = .ok (.getfield 77, 3) := by decide +kernel
theorem dX5_layOut_16 : decode cX5_layOut 16 = .ok (.getfield 81, 3) := by decide +kernel
theorem dX5_layOut_19 : decode cX5_layOut 19 = .ok (.if_icmp .ge 94, 3) := by decide +kernel
theorem dX5_layOut_22 : decode cX5_layOut 22 = .ok (.aload_n 0, 1) := by decide +kernel
theorem dX5_layOut_23 : decode cX5_layOut 23 = .ok (.getfield 77, 3) := by decide +kernel
theorem dX5_layOut_26 : decode cX5_layOut 26 = .ok (.getfield 209, 3) := by decide +kernel
theorem dX5_layOut_29 : decode cX5_layOut 29 = .ok (.iload 4, 2) := by decide +kernel
theorem dX5_layOut_31 : decode cX5_layOut 31 = .ok (.aaload, 1) := by decide +kernel
theorem dX5_layOut_32 : decode cX5_layOut 32 = .ok (.astore 5, 2) := by decide +kernel
theorem dX5_layOut_34 : decode cX5_layOut 34 = .ok (.aload 5, 2) := by decide +kernel
theorem dX5_layOut_36 : decode cX5_layOut 36 = .ok (.getfield 205, 3) := by decide +kernel
theorem dX5_layOut_39 : decode cX5_layOut 39 = .ok (.getfield 77, 3) := by decide +kernel
theorem dX5_layOut_42 : decode cX5_layOut 42 = .ok (.astore 6, 2) := by decide +kernel
theorem dX5_layOut_44 : decode cX5_layOut 44 = .ok (.aload_n 2, 1) := by decide +kernel
theorem dX5_layOut_45 : decode cX5_layOut 45 = .ok (.getfield 259, 3) := by decide +kernel
theorem dX5_layOut_48 : decode cX5_layOut 48 = .ok (.iload_n 3, 1) := by decide +kernel
theorem dX5_layOut_49 : decode cX5_layOut 49 = .ok (.iload 4, 2) := by decide +kernel
theorem dX5_layOut_51 : decode cX5_layOut 51 = .ok (.iastore, 1) := by decide +kernel
theorem dX5_layOut_52 : decode cX5_layOut 52 = .ok (.aload 6, 2) := by decide +kernel
theorem dX5_layOut_54 : decode cX5_layOut 54 = .ok (.invokevirtual 251, 3) := by decide +kernel
theorem dX5_layOut_57 : decode cX5_layOut 57 = .ok (.ifCond .eq 16, 3) := by decide +kernel
theorem dX5_layOut_60 : decode cX5_layOut 60 = .ok (.aload_n 2, 1) := by decide +kernel
theorem dX5_layOut_61 : decode cX5_layOut 61 = .ok (.aload 5, 2) := by decide +kernel
theorem dX5_layOut_63 : decode cX5_layOut 63 = .ok (.iload_n 1, 1) := by decide +kernel
theorem dX5_layOut_64 : decode cX5_layOut 64 = .ok (.iload_n 3, 1) := by decide +kernel
theorem dX5_layOut_65 : decode cX5_layOut 65 = .ok (.iconst 1, 1) := by decide +kernel
theorem dX5_layOut_66 : decode cX5_layOut 66 = .ok (.iadd, 1) := by decide +kernel
theorem dX5_layOut_67 : decode cX5_layOut 67 = .ok (.invokevirtual 260, 3) := by decide +kernel
theorem dX5_layOut_70 : decode cX5_layOut 70 = .ok (.goto 37, 3) := by decide +kernel
theorem dX5_layOut_73 : decode cX5_layOut 73 = .ok (.aload_n 2, 1) := by decide +kernel
theorem dX5_layOut_74 : decode cX5_layOut 74 = .ok (.aload 6, 2) := by decide +kernel
theorem dX5_layOut_76 : decode cX5_layOut 76 = .ok (.getfield 110, 3) := by decide +kernel
theorem dX5_layOut_79 : decode cX5_layOut 79 = .ok (.invokevirtual 168, 3) := by decide +kernel
theorem dX5_layOut_82 : decode cX5_layOut 82 = .ok (.istore 7, 2) := by decide +kernel
theorem dX5_layOut_84 : decode cX5_layOut 84 = .ok (.aload_n 2, 1) := by decide +kernel
theorem dX5_layOut_85 : decode cX5_layOut 85 = .ok (.aload 5, 2) := by decide +kernel
theorem dX5_layOut_87 : decode cX5_layOut 87 = .ok (.iload_n 1, 1) := by decide +kernel
theorem dX5_layOut_88 : decode cX5_layOut 88 = .ok (.iload 7, 2) := by decide +kernel
theorem dX5_layOut_90 : decode cX5_layOut 90 = .ok (.invokevirtual 264, 3) := by decide +kernel
theorem dX5_layOut_93 : decode cX5_layOut 93 = .ok (.aload 5, 2) := by decide +kernel
theorem dX5_layOut_95 : decode cX5_layOut 95 = .ok (.getfield 205, 3) := by decide +kernel
theorem dX5_layOut_98 : decode cX5_layOut 98 = .ok (.iload 7, 2) := by decide +kernel
theorem dX5_layOut_100 : decode cX5_layOut 100 = .ok (.aload_n 2, 1) := by decide +kernel
theorem dX5_layOut_101 : decode cX5_layOut 101 = .ok (.iload_n 3, 1) := by decide +kernel
theorem dX5_layOut_102 : decode cX5_layOut 102 = .ok (.iconst 1, 1) := by decide +kernel
theorem dX5_layOut_103 : decode cX5_layOut 103 = .ok (.iadd, 1) := by decide +kernel
theorem dX5_layOut_104 : decode cX5_layOut 104 = .ok (.invokestatic 172, 3) := by decide +kernel
theorem dX5_layOut_107 : decode cX5_layOut 107 = .ok (.iinc 4 1, 3) := by decide +kernel
theorem dX5_layOut_110 : decode cX5_layOut 110 = .ok (.goto (-100), 3) := by decide +kernel
theorem dX5_layOut_113 : decode cX5_layOut 113 = .ok (.return_, 1) := by decide +kernel
theorem dX5_sortIntoKinds_0 : decode cX5_sortIntoKinds 0 = .ok (.iconst 0, 1) := by decide +kernel
theorem dX5_sortIntoKinds_1 : decode cX5_sortIntoKinds 1 = .ok (.istore_n 1, 1) := by decide +kernel
theorem dX5_sortIntoKinds_2 : decode cX5_sortIntoKinds 2 = .ok (.iconst 0, 1) := by decide +kernel
theorem dX5_sortIntoKinds_3 : decode cX5_sortIntoKinds 3 = .ok (.istore_n 2, 1) := by decide +kernel
theorem dX5_sortIntoKinds_4 : decode cX5_sortIntoKinds 4 = .ok (.iload_n 2, 1) := by decide +kernel
theorem dX5_sortIntoKinds_5 : decode cX5_sortIntoKinds 5 = .ok (.aload_n 0, 1) := by decide +kernel
theorem dX5_sortIntoKinds_6 : decode cX5_sortIntoKinds 6 = .ok (.getfield 22, 3) := by decide +kernel
theorem dX5_sortIntoKinds_9 : decode cX5_sortIntoKinds 9 = .ok (.getfield 239, 3) := by decide +kernel
theorem dX5_sortIntoKinds_12 : decode cX5_sortIntoKinds 12 = .ok (.if_icmp .ge 49, 3) := by decide +kernel
theorem dX5_sortIntoKinds_15 : decode cX5_sortIntoKinds 15 = .ok (.aload_n 0, 1) := by decide +kernel
theorem dX5_sortIntoKinds_16 : decode cX5_sortIntoKinds 16 = .ok (.getfield 22, 3) := by decide +kernel
theorem dX5_sortIntoKinds_19 : decode cX5_sortIntoKinds 19 = .ok (.getfield 242, 3) := by decide +kernel
theorem dX5_sortIntoKinds_22 : decode cX5_sortIntoKinds 22 = .ok (.iload_n 2, 1) := by decide +kernel
theorem dX5_sortIntoKinds_23 : decode cX5_sortIntoKinds 23 = .ok (.aaload, 1) := by decide +kernel
theorem dX5_sortIntoKinds_24 : decode cX5_sortIntoKinds 24 = .ok (.astore_n 3, 1) := by decide +kernel
theorem dX5_sortIntoKinds_25 : decode cX5_sortIntoKinds 25 = .ok (.aload_n 0, 1) := by decide +kernel
theorem dX5_sortIntoKinds_26 : decode cX5_sortIntoKinds 26 = .ok (.iload_n 2, 1) := by decide +kernel
theorem dX5_sortIntoKinds_27 : decode cX5_sortIntoKinds 27 = .ok (.invokevirtual 267, 3) := by decide +kernel
theorem dX5_sortIntoKinds_30 : decode cX5_sortIntoKinds 30 = .ok (.astore 4, 2) := by decide +kernel
theorem dX5_sortIntoKinds_32 : decode cX5_sortIntoKinds 32 = .ok (.aload_n 0, 1) := by decide +kernel
theorem dX5_sortIntoKinds_33 : decode cX5_sortIntoKinds 33 = .ok (.getfield 33, 3) := by decide +kernel
theorem dX5_sortIntoKinds_36 : decode cX5_sortIntoKinds 36 = .ok (.aload_n 3, 1) := by decide +kernel
theorem dX5_sortIntoKinds_37 : decode cX5_sortIntoKinds 37 = .ok (.getfield 53, 3) := by decide +kernel
theorem dX5_sortIntoKinds_40 : decode cX5_sortIntoKinds 40 = .ok (.aload 4, 2) := by decide +kernel
theorem dX5_sortIntoKinds_42 : decode cX5_sortIntoKinds 42 = .ok (.getfield 53, 3) := by decide +kernel
theorem dX5_sortIntoKinds_45 : decode cX5_sortIntoKinds 45 = .ok (.iastore, 1) := by decide +kernel
theorem dX5_sortIntoKinds_46 : decode cX5_sortIntoKinds 46 = .ok (.aload 4, 2) := by decide +kernel
theorem dX5_sortIntoKinds_48 : decode cX5_sortIntoKinds 48 = .ok (.aload_n 3, 1) := by decide +kernel
theorem dX5_sortIntoKinds_49 : decode cX5_sortIntoKinds 49 = .ok (.if_acmp .ne 6, 3) := by decide +kernel
theorem dX5_sortIntoKinds_52 : decode cX5_sortIntoKinds 52 = .ok (.iinc 1 1, 3) := by decide +kernel
theorem dX5_sortIntoKinds_55 : decode cX5_sortIntoKinds 55 = .ok (.iinc 2 1, 3) := by decide +kernel
theorem dX5_sortIntoKinds_58 : decode cX5_sortIntoKinds 58 = .ok (.goto (-54), 3) := by decide +kernel
theorem dX5_sortIntoKinds_61 : decode cX5_sortIntoKinds 61 = .ok (.iload_n 1, 1) := by decide +kernel
theorem dX5_sortIntoKinds_62 : decode cX5_sortIntoKinds 62 = .ok (.ireturn, 1) := by decide +kernel
theorem dX5_firstAlike_0 : decode cX5_firstAlike 0 = .ok (.aload_n 0, 1) := by decide +kernel
theorem dX5_firstAlike_1 : decode cX5_firstAlike 1 = .ok (.getfield 22, 3) := by decide +kernel
theorem dX5_firstAlike_4 : decode cX5_firstAlike 4 = .ok (.getfield 242, 3) := by decide +kernel
theorem dX5_firstAlike_7 : decode cX5_firstAlike 7 = .ok (.iload_n 1, 1) := by decide +kernel
theorem dX5_firstAlike_8 : decode cX5_firstAlike 8 = .ok (.aaload, 1) := by decide +kernel
theorem dX5_firstAlike_9 : decode cX5_firstAlike 9 = .ok (.astore_n 2, 1) := by decide +kernel
theorem dX5_firstAlike_10 : decode cX5_firstAlike 10 = .ok (.iconst 0, 1) := by decide +kernel
theorem dX5_firstAlike_11 : decode cX5_firstAlike 11 = .ok (.istore_n 3, 1) := by decide +kernel
theorem dX5_firstAlike_12 : decode cX5_firstAlike 12 = .ok (.iload_n 3, 1) := by decide +kernel
theorem dX5_firstAlike_13 : decode cX5_firstAlike 13 = .ok (.iload_n 1, 1) := by decide +kernel
theorem dX5_firstAlike_14 : decode cX5_firstAlike 14 = .ok (.if_icmp .ge 51, 3) := by decide +kernel
theorem dX5_firstAlike_17 : decode cX5_firstAlike 17 = .ok (.aload_n 0, 1) := by decide +kernel
theorem dX5_firstAlike_18 : decode cX5_firstAlike 18 = .ok (.getfield 22, 3) := by decide +kernel
theorem dX5_firstAlike_21 : decode cX5_firstAlike 21 = .ok (.getfield 242, 3) := by decide +kernel
theorem dX5_firstAlike_24 : decode cX5_firstAlike 24 = .ok (.iload_n 3, 1) := by decide +kernel
theorem dX5_firstAlike_25 : decode cX5_firstAlike 25 = .ok (.aaload, 1) := by decide +kernel
theorem dX5_firstAlike_26 : decode cX5_firstAlike 26 = .ok (.astore 4, 2) := by decide +kernel
theorem dX5_firstAlike_28 : decode cX5_firstAlike 28 = .ok (.aload_n 0, 1) := by decide +kernel
theorem dX5_firstAlike_29 : decode cX5_firstAlike 29 = .ok (.getfield 33, 3) := by decide +kernel
theorem dX5_firstAlike_32 : decode cX5_firstAlike 32 = .ok (.aload 4, 2) := by decide +kernel
theorem dX5_firstAlike_34 : decode cX5_firstAlike 34 = .ok (.getfield 53, 3) := by decide +kernel
theorem dX5_firstAlike_37 : decode cX5_firstAlike 37 = .ok (.iaload, 1) := by decide +kernel
theorem dX5_firstAlike_38 : decode cX5_firstAlike 38 = .ok (.aload 4, 2) := by decide +kernel
theorem dX5_firstAlike_40 : decode cX5_firstAlike 40 = .ok (.getfield 53, 3) := by decide +kernel
theorem dX5_firstAlike_43 : decode cX5_firstAlike 43 = .ok (.if_icmp .ne 16, 3) := by decide +kernel
theorem dX5_firstAlike_46 : decode cX5_firstAlike 46 = .ok (.aload_n 0, 1) := by decide +kernel
theorem dX5_firstAlike_47 : decode cX5_firstAlike 47 = .ok (.aload_n 2, 1) := by decide +kernel
theorem dX5_firstAlike_48 : decode cX5_firstAlike 48 = .ok (.aload 4, 2) := by decide +kernel
theorem dX5_firstAlike_50 : decode cX5_firstAlike 50 = .ok (.invokevirtual 270, 3) := by decide +kernel
theorem dX5_firstAlike_53 : decode cX5_firstAlike 53 = .ok (.ifCond .eq 6, 3) := by decide +kernel
theorem dX5_firstAlike_56 : decode cX5_firstAlike 56 = .ok (.aload 4, 2) := by decide +kernel
theorem dX5_firstAlike_58 : decode cX5_firstAlike 58 = .ok (.areturn, 1) := by decide +kernel
theorem dX5_firstAlike_59 : decode cX5_firstAlike 59 = .ok (.iinc 3 1, 3) := by decide +kernel
theorem dX5_firstAlike_62 : decode cX5_firstAlike 62 = .ok (.goto (-50), 3) := by decide +kernel
theorem dX5_firstAlike_65 : decode cX5_firstAlike 65 = .ok (.aload_n 2, 1) := by decide +kernel
theorem dX5_firstAlike_66 : decode cX5_firstAlike 66 = .ok (.areturn, 1) := by decide +kernel
theorem dX5_isSame_0 : decode cX5_isSame 0 = .ok (.aload_n 1, 1) := by decide +kernel
theorem dX5_isSame_1 : decode cX5_isSame 1 = .ok (.aload_n 2, 1) := by decide +kernel
theorem dX5_isSame_2 : decode cX5_isSame 2 = .ok (.invokevirtual 273, 3) := by decide +kernel
theorem dX5_isSame_5 : decode cX5_isSame 5 = .ok (.ifCond .eq 33, 3) := by decide +kernel
theorem dX5_isSame_8 : decode cX5_isSame 8 = .ok (.aload_n 1, 1) := by decide +kernel
theorem dX5_isSame_9 : decode cX5_isSame 9 = .ok (.getfield 77, 3) := by decide +kernel
theorem dX5_isSame_12 : decode cX5_isSame 12 = .ok (.aload_n 2, 1) := by decide +kernel
theorem dX5_isSame_13 : decode cX5_isSame 13 = .ok (.getfield 77, 3) := by decide +kernel
theorem dX5_isSame_16 : decode cX5_isSame 16 = .ok (.if_acmp .eq 18, 3) := by decide +kernel
theorem dX5_isSame_19 : decode cX5_isSame 19 = .ok (.aload_n 0, 1) := by decide +kernel
theorem dX5_isSame_20 : decode cX5_isSame 20 = .ok (.aload_n 1, 1) := by decide +kernel
theorem dX5_isSame_21 : decode cX5_isSame 21 = .ok (.getfield 77, 3) := by decide +kernel
theorem dX5_isSame_24 : decode cX5_isSame 24 = .ok (.aload_n 2, 1) := by decide +kernel
theorem dX5_isSame_25 : decode cX5_isSame 25 = .ok (.getfield 77, 3) := by decide +kernel
theorem dX5_isSame_28 : decode cX5_isSame 28 = .ok (.invokevirtual 277, 3) := by decide +kernel
theorem dX5_isSame_31 : decode cX5_isSame 31 = .ok (.ifCond .eq 7, 3) := by decide +kernel
theorem dX5_isSame_34 : decode cX5_isSame 34 = .ok (.iconst 1, 1) := by decide +kernel
theorem dX5_isSame_35 : decode cX5_isSame 35 = .ok (.goto 4, 3) := by decide +kernel
theorem dX5_isSame_38 : decode cX5_isSame 38 = .ok (.iconst 0, 1) := by decide +kernel
theorem dX5_isSame_39 : decode cX5_isSame 39 = .ok (.ireturn, 1) := by decide +kernel
theorem dX5_isSameInside_0 : decode cX5_isSameInside 0 = .ok (.aload_n 1, 1) := by decide +kernel
theorem dX5_isSameInside_1 : decode cX5_isSameInside 1 = .ok (.getfield 81, 3) := by decide +kernel
theorem dX5_isSameInside_4 : decode cX5_isSameInside 4 = .ok (.aload_n 2, 1) := by decide +kernel
theorem dX5_isSameInside_5 : decode cX5_isSameInside 5 = .ok (.getfield 81, 3) := by decide +kernel
theorem dX5_isSameInside_8 : decode cX5_isSameInside 8 = .ok (.if_icmp .ne 14, 3) := by decide +kernel
theorem dX5_isSameInside_11 : decode cX5_isSameInside 11 = .ok (.aload_n 1, 1) := by decide +kernel
theorem dX5_isSameInside_12 : decode cX5_isSameInside 12 = .ok (.getfield 110, 3) := by decide +kernel
theorem dX5_isSameInside_15 : decode cX5_isSameInside 15 = .ok (.aload_n 2, 1) := by decide +kernel
theorem dX5_isSameInside_16 : decode cX5_isSameInside 16 = .ok (.getfield 110, 3) := by decide +kernel
theorem dX5_isSameInside_19 : decode cX5_isSameInside 19 = .ok (.if_icmp .eq 5, 3) := by decide +kernel
theorem dX5_isSameInside_22 : decode cX5_isSameInside 22 = .ok (.iconst 0, 1) := by decide +kernel
theorem dX5_isSameInside_23 : decode cX5_isSameInside 23 = .ok (.ireturn, 1) := by decide +kernel
theorem dX5_isSameInside_24 : decode cX5_isSameInside 24 = .ok (.aload_n 1, 1) := by decide +kernel
theorem dX5_isSameInside_25 : decode cX5_isSameInside 25 = .ok (.getfield 281, 3) := by decide +kernel
theorem dX5_isSameInside_28 : decode cX5_isSameInside 28 = .ok (.aload_n 2, 1) := by decide +kernel
theorem dX5_isSameInside_29 : decode cX5_isSameInside 29 = .ok (.getfield 281, 3) := by decide +kernel
theorem dX5_isSameInside_32 : decode cX5_isSameInside 32 = .ok (.invokestatic 284, 3) := by decide +kernel
theorem dX5_isSameInside_35 : decode cX5_isSameInside 35 = .ok (.ifCond .ne 5, 3) := by decide +kernel
theorem dX5_isSameInside_38 : decode cX5_isSameInside 38 = .ok (.iconst 0, 1) := by decide +kernel
theorem dX5_isSameInside_39 : decode cX5_isSameInside 39 = .ok (.ireturn, 1) := by decide +kernel
theorem dX5_isSameInside_40 : decode cX5_isSameInside 40 = .ok (.iconst 0, 1) := by decide +kernel
theorem dX5_isSameInside_41 : decode cX5_isSameInside 41 = .ok (.istore_n 3, 1) := by decide +kernel
theorem dX5_isSameInside_42 : decode cX5_isSameInside 42 = .ok (.iload_n 3, 1) := by decide +kernel
theorem dX5_isSameInside_43 : decode cX5_isSameInside 43 = .ok (.aload_n 1, 1) := by decide +kernel
theorem dX5_isSameInside_44 : decode cX5_isSameInside 44 = .ok (.getfield 81, 3) := by decide +kernel
theorem dX5_isSameInside_47 : decode cX5_isSameInside 47 = .ok (.if_icmp .ge 72, 3) := by decide +kernel
theorem dX5_isSameInside_50 : decode cX5_isSameInside 50 = .ok (.aload_n 1, 1) := by decide +kernel
theorem dX5_isSameInside_51 : decode cX5_isSameInside 51 = .ok (.getfield 209, 3) := by decide +kernel
theorem dX5_isSameInside_54 : decode cX5_isSameInside 54 = .ok (.iload_n 3, 1) := by decide +kernel
theorem dX5_isSameInside_55 : decode cX5_isSameInside 55 = .ok (.aaload, 1) := by decide +kernel
theorem dX5_isSameInside_56 : decode cX5_isSameInside 56 = .ok (.astore 4, 2) := by decide +kernel
theorem dX5_isSameInside_58 : decode cX5_isSameInside 58 = .ok (.aload_n 2, 1) := by decide +kernel
theorem dX5_isSameInside_59 : decode cX5_isSameInside 59 = .ok (.getfield 209, 3) := by decide +kernel
theorem dX5_isSameInside_62 : decode cX5_isSameInside 62 = .ok (.iload_n 3, 1) := by decide +kernel
theorem dX5_isSameInside_63 : decode cX5_isSameInside 63 = .ok (.aaload, 1) := by decide +kernel
theorem dX5_isSameInside_64 : decode cX5_isSameInside 64 = .ok (.astore 5, 2) := by decide +kernel
theorem dX5_isSameInside_66 : decode cX5_isSameInside 66 = .ok (.aload_n 0, 1) := by decide +kernel
theorem dX5_isSameInside_67 : decode cX5_isSameInside 67 = .ok (.getfield 33, 3) := by decide +kernel
theorem dX5_isSameInside_70 : decode cX5_isSameInside 70 = .ok (.aload 4, 2) := by decide +kernel
theorem dX5_isSameInside_72 : decode cX5_isSameInside 72 = .ok (.getfield 205, 3) := by decide +kernel
theorem dX5_isSameInside_75 : decode cX5_isSameInside 75 = .ok (.getfield 53, 3) := by decide +kernel
theorem dX5_isSameInside_78 : decode cX5_isSameInside 78 = .ok (.iaload, 1) := by decide +kernel
theorem dX5_isSameInside_79 : decode cX5_isSameInside 79 = .ok (.aload_n 0, 1) := by decide +kernel
theorem dX5_isSameInside_80 : decode cX5_isSameInside 80 = .ok (.getfield 33, 3) := by decide +kernel
theorem dX5_isSameInside_83 : decode cX5_isSameInside 83 = .ok (.aload 5, 2) := by decide +kernel
theorem dX5_isSameInside_85 : decode cX5_isSameInside 85 = .ok (.getfield 205, 3) := by decide +kernel
theorem dX5_isSameInside_88 : decode cX5_isSameInside 88 = .ok (.getfield 53, 3) := by decide +kernel
theorem dX5_isSameInside_91 : decode cX5_isSameInside 91 = .ok (.iaload, 1) := by decide +kernel
theorem dX5_isSameInside_92 : decode cX5_isSameInside 92 = .ok (.if_icmp .ne 19, 3) := by decide +kernel
theorem dX5_isSameInside_95 : decode cX5_isSameInside 95 = .ok (.aload 4, 2) := by decide +kernel
theorem dX5_isSameInside_97 : decode cX5_isSameInside 97 = .ok (.getfield 220, 3) := by decide +kernel
theorem dX5_isSameInside_100 : decode cX5_isSameInside 100 = .ok (.aload 5, 2) := by decide +kernel
theorem dX5_isSameInside_102 : decode cX5_isSameInside 102 = .ok (.getfield 220, 3) := by decide +kernel
theorem dX5_isSameInside_105 : decode cX5_isSameInside 105 = .ok (.invokestatic 284, 3) := by decide +kernel
theorem dX5_isSameInside_108 : decode cX5_isSameInside 108 = .ok (.ifCond .ne 5, 3) := by decide +kernel
theorem dX5_isSameInside_111 : decode cX5_isSameInside 111 = .ok (.iconst 0, 1) := by decide +kernel
theorem dX5_isSameInside_112 : decode cX5_isSameInside 112 = .ok (.ireturn, 1) := by decide +kernel
theorem dX5_isSameInside_113 : decode cX5_isSameInside 113 = .ok (.iinc 3 1, 3) := by decide +kernel
theorem dX5_isSameInside_116 : decode cX5_isSameInside 116 = .ok (.goto (-74), 3) := by decide +kernel
theorem dX5_isSameInside_119 : decode cX5_isSameInside 119 = .ok (.iconst 1, 1) := by decide +kernel
theorem dX5_isSameInside_120 : decode cX5_isSameInside 120 = .ok (.ireturn, 1) := by decide +kernel
theorem dX5_isSameRow_0 : decode cX5_isSameRow 0 = .ok (.aload_n 0, 1) := by decide +kernel
theorem dX5_isSameRow_1 : decode cX5_isSameRow 1 = .ok (.arraylength, 1) := by decide +kernel
theorem dX5_isSameRow_2 : decode cX5_isSameRow 2 = .ok (.aload_n 1, 1) := by decide +kernel
theorem dX5_isSameRow_3 : decode cX5_isSameRow 3 = .ok (.arraylength, 1) := by decide +kernel
theorem dX5_isSameRow_4 : decode cX5_isSameRow 4 = .ok (.if_icmp .eq 5, 3) := by decide +kernel
theorem dX5_isSameRow_7 : decode cX5_isSameRow 7 = .ok (.iconst 0, 1) := by decide +kernel
theorem dX5_isSameRow_8 : decode cX5_isSameRow 8 = .ok (.ireturn, 1) := by decide +kernel
theorem dX5_isSameRow_9 : decode cX5_isSameRow 9 = .ok (.iconst 0, 1) := by decide +kernel
theorem dX5_isSameRow_10 : decode cX5_isSameRow 10 = .ok (.istore_n 2, 1) := by decide +kernel
theorem dX5_isSameRow_11 : decode cX5_isSameRow 11 = .ok (.iload_n 2, 1) := by decide +kernel
theorem dX5_isSameRow_12 : decode cX5_isSameRow 12 = .ok (.aload_n 0, 1) := by decide +kernel
theorem dX5_isSameRow_13 : decode cX5_isSameRow 13 = .ok (.arraylength, 1) := by decide +kernel
theorem dX5_isSameRow_14 : decode cX5_isSameRow 14 = .ok (.if_icmp .ge 20, 3) := by decide +kernel
theorem dX5_isSameRow_17 : decode cX5_isSameRow 17 = .ok (.aload_n 0, 1) := by decide +kernel
theorem dX5_isSameRow_18 : decode cX5_isSameRow 18 = .ok (.iload_n 2, 1) := by decide +kernel
theorem dX5_isSameRow_19 : decode cX5_isSameRow 19 = .ok (.iaload, 1) := by decide +kernel
theorem dX5_isSameRow_20 : decode cX5_isSameRow 20 = .ok (.aload_n 1, 1) := by decide +kernel
theorem dX5_isSameRow_21 : decode cX5_isSameRow 21 = .ok (.iload_n 2, 1) := by decide +kernel
theorem dX5_isSameRow_22 : decode cX5_isSameRow 22 = .ok (.iaload, 1) := by decide +kernel
theorem dX5_isSameRow_23 : decode cX5_isSameRow 23 = .ok (.if_icmp .eq 5, 3) := by decide +kernel
theorem dX5_isSameRow_26 : decode cX5_isSameRow 26 = .ok (.iconst 0, 1) := by decide +kernel
theorem dX5_isSameRow_27 : decode cX5_isSameRow 27 = .ok (.ireturn, 1) := by decide +kernel
theorem dX5_isSameRow_28 : decode cX5_isSameRow 28 = .ok (.iinc 2 1, 3) := by decide +kernel
theorem dX5_isSameRow_31 : decode cX5_isSameRow 31 = .ok (.goto (-20), 3) := by decide +kernel
theorem dX5_isSameRow_34 : decode cX5_isSameRow 34 = .ok (.iconst 1, 1) := by decide +kernel
theorem dX5_isSameRow_35 : decode cX5_isSameRow 35 = .ok (.ireturn, 1) := by decide +kernel
theorem dJ9_max_7cf53_0 : decode cJ9_max_7cf53 0 = .ok (.iload_n 0, 1) := by decide +kernel
theorem dJ9_max_7cf53_1 : decode cJ9_max_7cf53 1 = .ok (.iload_n 1, 1) := by decide +kernel
theorem dJ9_max_7cf53_2 : decode cJ9_max_7cf53 2 = .ok (.if_icmp .lt 7, 3) := by decide +kernel
theorem dJ9_max_7cf53_5 : decode cJ9_max_7cf53 5 = .ok (.iload_n 0, 1) := by decide +kernel
theorem dJ9_max_7cf53_6 : decode cJ9_max_7cf53 6 = .ok (.goto 4, 3) := by decide +kernel
theorem dJ9_max_7cf53_9 : decode cJ9_max_7cf53 9 = .ok (.iload_n 1, 1) := by decide +kernel
theorem dJ9_max_7cf53_10 : decode cJ9_max_7cf53 10 = .ok (.ireturn, 1) := by decide +kernel
theorem dJ9_min_7cf53_0 : decode cJ9_min_7cf53 0 = .ok (.iload_n 0, 1) := by decide +kernel
theorem dJ9_min_7cf53_1 : decode cJ9_min_7cf53 1 = .ok (.iload_n 1, 1) := by decide +kernel
theorem dJ9_min_7cf53_2 : decode cJ9_min_7cf53 2 = .ok (.if_icmp .gt 7, 3) := by decide +kernel
theorem dJ9_min_7cf53_5 : decode cJ9_min_7cf53 5 = .ok (.iload_n 0, 1) := by decide +kernel
theorem dJ9_min_7cf53_6 : decode cJ9_min_7cf53 6 = .ok (.goto 4, 3) := by decide +kernel
theorem dJ9_min_7cf53_9 : decode cJ9_min_7cf53 9 = .ok (.iload_n 1, 1) := by decide +kernel
theorem dJ9_min_7cf53_10 : decode cJ9_min_7cf53 10 = .ok (.ireturn, 1) := by decide +kernel
theorem dJ7_fill_53178_0 : decode cJ7_fill_53178 0 = .ok (.iconst 0, 1) := by decide +kernel
theorem dJ7_fill_53178_1 : decode cJ7_fill_53178 1 = .ok (.istore_n 2, 1) := by decide +kernel
theorem dJ7_fill_53178_2 : decode cJ7_fill_53178 2 = .ok (.aload_n 0, 1) := by decide +kernel
theorem dJ7_fill_53178_3 : decode cJ7_fill_53178 3 = .ok (.arraylength, 1) := by decide +kernel
theorem dJ7_fill_53178_4 : decode cJ7_fill_53178 4 = .ok (.istore_n 3, 1) := by decide +kernel
theorem dJ7_fill_53178_5 : decode cJ7_fill_53178 5 = .ok (.iload_n 2, 1) := by decide +kernel
theorem dJ7_fill_53178_6 : decode cJ7_fill_53178 6 = .ok (.iload_n 3, 1) := by decide +kernel
theorem dJ7_fill_53178_7 : decode cJ7_fill_53178 7 = .ok (.if_icmp .ge 13, 3) := by decide +kernel
theorem dJ7_fill_53178_10 : decode cJ7_fill_53178 10 = .ok (.aload_n 0, 1) := by decide +kernel
theorem dJ7_fill_53178_11 : decode cJ7_fill_53178 11 = .ok (.iload_n 2, 1) := by decide +kernel
theorem dJ7_fill_53178_12 : decode cJ7_fill_53178 12 = .ok (.iload_n 1, 1) := by decide +kernel
theorem dJ7_fill_53178_13 : decode cJ7_fill_53178 13 = .ok (.iastore, 1) := by decide +kernel
theorem dJ7_fill_53178_14 : decode cJ7_fill_53178 14 = .ok (.iinc 2 1, 3) := by decide +kernel
theorem dJ7_fill_53178_17 : decode cJ7_fill_53178 17 = .ok (.goto (-12), 3) := by decide +kernel
theorem dJ7_fill_53178_20 : decode cJ7_fill_53178 20 = .ok (.return_, 1) := by decide +kernel
theorem dJ7_copyOf_59c91_0 : decode cJ7_copyOf_59c91 0 = .ok (.iload_n 1, 1) := by decide +kernel
theorem dJ7_copyOf_59c91_1 : decode cJ7_copyOf_59c91 1 = .ok (.aload_n 0, 1) := by decide +kernel
theorem dJ7_copyOf_59c91_2 : decode cJ7_copyOf_59c91 2 = .ok (.arraylength, 1) := by decide +kernel
theorem dJ7_copyOf_59c91_3 : decode cJ7_copyOf_59c91 3 = .ok (.if_icmp .ne 11, 3) := by decide +kernel
theorem dJ7_copyOf_59c91_6 : decode cJ7_copyOf_59c91 6 = .ok (.aload_n 0, 1) := by decide +kernel
theorem dJ7_copyOf_59c91_7 : decode cJ7_copyOf_59c91 7 = .ok (.invokevirtual 316, 3) := by decide +kernel
theorem dJ7_copyOf_59c91_10 : decode cJ7_copyOf_59c91 10 = .ok (.checkcast 317, 3) := by decide +kernel
theorem dJ7_copyOf_59c91_13 : decode cJ7_copyOf_59c91 13 = .ok (.areturn, 1) := by decide +kernel
theorem dJ7_copyOf_59c91_14 : decode cJ7_copyOf_59c91 14 = .ok (.iload_n 1, 1) := by decide +kernel
theorem dJ7_copyOf_59c91_15 : decode cJ7_copyOf_59c91 15 = .ok (.newarray .int, 2) := by decide +kernel
theorem dJ7_copyOf_59c91_17 : decode cJ7_copyOf_59c91 17 = .ok (.astore_n 2, 1) := by decide +kernel
theorem dJ7_copyOf_59c91_18 : decode cJ7_copyOf_59c91 18 = .ok (.aload_n 0, 1) := by decide +kernel
theorem dJ7_copyOf_59c91_19 : decode cJ7_copyOf_59c91 19 = .ok (.iconst 0, 1) := by decide +kernel
theorem dJ7_copyOf_59c91_20 : decode cJ7_copyOf_59c91 20 = .ok (.aload_n 2, 1) := by decide +kernel
theorem dJ7_copyOf_59c91_21 : decode cJ7_copyOf_59c91 21 = .ok (.iconst 0, 1) := by decide +kernel
theorem dJ7_copyOf_59c91_22 : decode cJ7_copyOf_59c91 22 = .ok (.aload_n 0, 1) := by decide +kernel
theorem dJ7_copyOf_59c91_23 : decode cJ7_copyOf_59c91 23 = .ok (.arraylength, 1) := by decide +kernel
theorem dJ7_copyOf_59c91_24 : decode cJ7_copyOf_59c91 24 = .ok (.iload_n 1, 1) := by decide +kernel
theorem dJ7_copyOf_59c91_25 : decode cJ7_copyOf_59c91 25 = .ok (.invokestatic 304, 3) := by decide +kernel
theorem dJ7_copyOf_59c91_28 : decode cJ7_copyOf_59c91 28 = .ok (.invokestatic 150, 3) := by decide +kernel
theorem dJ7_copyOf_59c91_31 : decode cJ7_copyOf_59c91 31 = .ok (.aload_n 2, 1) := by decide +kernel
theorem dJ7_copyOf_59c91_32 : decode cJ7_copyOf_59c91 32 = .ok (.areturn, 1) := by decide +kernel
end
section
theorem dX6_init_0 : decode cX6_init 0 = .ok (.aload_n 0, 1) := by decide +kernel
theorem dX6_init_1 : decode cX6_init 1 = .ok (.invokespecial 1, 3) := by decide +kernel
theorem dX6_init_4 : decode cX6_init 4 = .ok (.aload_n 0, 1) := by decide +kernel
theorem dX6_init_5 : decode cX6_init 5 = .ok (.bipush 24, 2) := by decide +kernel
theorem dX6_init_7 : decode cX6_init 7 = .ok (.newarray .int, 2) := by decide +kernel
theorem dX6_init_9 : decode cX6_init 9 = .ok (.putfield 7, 3) := by decide +kernel
theorem dX6_init_12 : decode cX6_init 12 = .ok (.aload_n 0, 1) := by decide +kernel
theorem dX6_init_13 : decode cX6_init 13 = .ok (.sipush 384, 3) := by decide +kernel
theorem dX6_init_16 : decode cX6_init 16 = .ok (.newarray .int, 2) := by decide +kernel
theorem dX6_init_18 : decode cX6_init 18 = .ok (.putfield 13, 3) := by decide +kernel
theorem dX6_init_21 : decode cX6_init 21 = .ok (.aload_n 0, 1) := by decide +kernel
theorem dX6_init_22 : decode cX6_init 22 = .ok (.sipush 384, 3) := by decide +kernel
theorem dX6_init_25 : decode cX6_init 25 = .ok (.newarray .boolean, 2) := by decide +kernel
theorem dX6_init_27 : decode cX6_init 27 = .ok (.putfield 16, 3) := by decide +kernel
theorem dX6_init_30 : decode cX6_init 30 = .ok (.aload_n 0, 1) := by decide +kernel
theorem dX6_init_31 : decode cX6_init 31 = .ok (.bipush 24, 2) := by decide +kernel
theorem dX6_init_33 : decode cX6_init 33 = .ok (.newarray .int, 2) := by decide +kernel
theorem dX6_init_35 : decode cX6_init 35 = .ok (.putfield 20, 3) := by decide +kernel
theorem dX6_init_38 : decode cX6_init 38 = .ok (.aload_n 0, 1) := by decide +kernel
theorem dX6_init_39 : decode cX6_init 39 = .ok (.sipush 1536, 3) := by decide +kernel
theorem dX6_init_42 : decode cX6_init 42 = .ok (.newarray .int, 2) := by decide +kernel
theorem dX6_init_44 : decode cX6_init 44 = .ok (.putfield 23, 3) := by decide +kernel
theorem dX6_init_47 : decode cX6_init 47 = .ok (.aload_n 0, 1) := by decide +kernel
theorem dX6_init_48 : decode cX6_init 48 = .ok (.bipush 24, 2) := by decide +kernel
theorem dX6_init_50 : decode cX6_init 50 = .ok (.newarray .int, 2) := by decide +kernel
theorem dX6_init_52 : decode cX6_init 52 = .ok (.putfield 26, 3) := by decide +kernel
theorem dX6_init_55 : decode cX6_init 55 = .ok (.aload_n 0, 1) := by decide +kernel
theorem dX6_init_56 : decode cX6_init 56 = .ok (.bipush 24, 2) := by decide +kernel
theorem dX6_init_58 : decode cX6_init 58 = .ok (.newarray .int, 2) := by decide +kernel
theorem dX6_init_60 : decode cX6_init 60 = .ok (.putfield 29, 3) := by decide +kernel
theorem dX6_init_63 : decode cX6_init 63 = .ok (.aload_n 0, 1) := by decide +kernel
theorem dX6_init_64 : decode cX6_init 64 = .ok (.ldc 32, 2) := by decide +kernel
theorem dX6_init_66 : decode cX6_init 66 = .ok (.newarray .int, 2) := by decide +kernel
theorem dX6_init_68 : decode cX6_init 68 = .ok (.putfield 33, 3) := by decide +kernel
theorem dX6_init_71 : decode cX6_init 71 = .ok (.aload_n 0, 1) := by decide +kernel
theorem dX6_init_72 : decode cX6_init 72 = .ok (.sipush 1536, 3) := by decide +kernel
theorem dX6_init_75 : decode cX6_init 75 = .ok (.newarray .int, 2) := by decide +kernel
theorem dX6_init_77 : decode cX6_init 77 = .ok (.putfield 36, 3) := by decide +kernel
theorem dX6_init_80 : decode cX6_init 80 = .ok (.aload_n 0, 1) := by decide +kernel
theorem dX6_init_81 : decode cX6_init 81 = .ok (.ldc 39, 2) := by decide +kernel
theorem dX6_init_83 : decode cX6_init 83 = .ok (.newarray .int, 2) := by decide +kernel
theorem dX6_init_85 : decode cX6_init 85 = .ok (.putfield 40, 3) := by decide +kernel
theorem dX6_init_88 : decode cX6_init 88 = .ok (.aload_n 0, 1) := by decide +kernel
theorem dX6_init_89 : decode cX6_init 89 = .ok (.sipush 2000, 3) := by decide +kernel
theorem dX6_init_92 : decode cX6_init 92 = .ok (.newarray .int, 2) := by decide +kernel
theorem dX6_init_94 : decode cX6_init 94 = .ok (.putfield 43, 3) := by decide +kernel
theorem dX6_init_97 : decode cX6_init 97 = .ok (.aload_n 0, 1) := by decide +kernel
theorem dX6_init_98 : decode cX6_init 98 = .ok (.sipush 2000, 3) := by decide +kernel
theorem dX6_init_101 : decode cX6_init 101 = .ok (.newarray .int, 2) := by decide +kernel
theorem dX6_init_103 : decode cX6_init 103 = .ok (.putfield 46, 3) := by decide +kernel
theorem dX6_init_106 : decode cX6_init 106 = .ok (.aload_n 0, 1) := by decide +kernel
theorem dX6_init_107 : decode cX6_init 107 = .ok (.sipush 2000, 3) := by decide +kernel
theorem dX6_init_110 : decode cX6_init 110 = .ok (.newarray .int, 2) := by decide +kernel
theorem dX6_init_112 : decode cX6_init 112 = .ok (.putfield 49, 3) := by decide +kernel
theorem dX6_init_115 : decode cX6_init 115 = .ok (.aload_n 0, 1) := by decide +kernel
theorem dX6_init_116 : decode cX6_init 116 = .ok (.sipush 2001, 3) := by decide +kernel
theorem dX6_init_119 : decode cX6_init 119 = .ok (.newarray .int, 2) := by decide +kernel
theorem dX6_init_121 : decode cX6_init 121 = .ok (.putfield 52, 3) := by decide +kernel
theorem dX6_init_124 : decode cX6_init 124 = .ok (.aload_n 0, 1) := by decide +kernel
theorem dX6_init_125 : decode cX6_init 125 = .ok (.bipush 65, 2) := by decide +kernel
theorem dX6_init_127 : decode cX6_init 127 = .ok (.newarray .int, 2) := by decide +kernel
theorem dX6_init_129 : decode cX6_init 129 = .ok (.putfield 55, 3) := by decide +kernel
theorem dX6_init_132 : decode cX6_init 132 = .ok (.aload_n 0, 1) := by decide +kernel
theorem dX6_init_133 : decode cX6_init 133 = .ok (.bipush 65, 2) := by decide +kernel
theorem dX6_init_135 : decode cX6_init 135 = .ok (.newarray .int, 2) := by decide +kernel
theorem dX6_init_137 : decode cX6_init 137 = .ok (.putfield 58, 3) := by decide +kernel
theorem dX6_init_140 : decode cX6_init 140 = .ok (.aload_n 0, 1) := by decide +kernel
theorem dX6_init_141 : decode cX6_init 141 = .ok (.bipush 30, 2) := by decide +kernel
theorem dX6_init_143 : decode cX6_init 143 = .ok (.newarray .int, 2) := by decide +kernel
theorem dX6_init_145 : decode cX6_init 145 = .ok (.putfield 61, 3) := by decide +kernel
theorem dX6_init_148 : decode cX6_init 148 = .ok (.aload_n 0, 1) := by decide +kernel
theorem dX6_init_149 : decode cX6_init 149 = .ok (.bipush 30, 2) := by decide +kernel
theorem dX6_init_151 : decode cX6_init 151 = .ok (.newarray .int, 2) := by decide +kernel
theorem dX6_init_153 : decode cX6_init 153 = .ok (.putfield 64, 3) := by decide +kernel
theorem dX6_init_156 : decode cX6_init 156 = .ok (.aload_n 0, 1) := by decide +kernel
theorem dX6_init_157 : decode cX6_init 157 = .ok (.sipush 3001, 3) := by decide +kernel
theorem dX6_init_160 : decode cX6_init 160 = .ok (.newarray .int, 2) := by decide +kernel
theorem dX6_init_162 : decode cX6_init 162 = .ok (.putfield 67, 3) := by decide +kernel
theorem dX6_init_165 : decode cX6_init 165 = .ok (.aload_n 0, 1) := by decide +kernel
theorem dX6_init_166 : decode cX6_init 166 = .ok (.sipush 3001, 3) := by decide +kernel
theorem dX6_init_169 : decode cX6_init 169 = .ok (.newarray .int, 2) := by decide +kernel
theorem dX6_init_171 : decode cX6_init 171 = .ok (.putfield 70, 3) := by decide +kernel
theorem dX6_init_174 : decode cX6_init 174 = .ok (.aload_n 0, 1) := by decide +kernel
theorem dX6_init_175 : decode cX6_init 175 = .ok (.sipush 576, 3) := by decide +kernel
theorem dX6_init_178 : decode cX6_init 178 = .ok (.newarray .boolean, 2) := by decide +kernel
theorem dX6_init_180 : decode cX6_init 180 = .ok (.putfield 73, 3) := by decide +kernel
theorem dX6_init_183 : decode cX6_init 183 = .ok (.aload_n 0, 1) := by decide +kernel
theorem dX6_init_184 : decode cX6_init 184 = .ok (.bipush 24, 2) := by decide +kernel
theorem dX6_init_186 : decode cX6_init 186 = .ok (.newarray .int, 2) := by decide +kernel
theorem dX6_init_188 : decode cX6_init 188 = .ok (.putfield 76, 3) := by decide +kernel
theorem dX6_init_191 : decode cX6_init 191 = .ok (.aload_n 0, 1) := by decide +kernel
theorem dX6_init_192 : decode cX6_init 192 = .ok (.bipush 24, 2) := by decide +kernel
theorem dX6_init_194 : decode cX6_init 194 = .ok (.newarray .int, 2) := by decide +kernel
theorem dX6_init_196 : decode cX6_init 196 = .ok (.putfield 79, 3) := by decide +kernel
theorem dX6_init_199 : decode cX6_init 199 = .ok (.aload_n 0, 1) := by decide +kernel
theorem dX6_init_200 : decode cX6_init 200 = .ok (.invokevirtual 82, 3) := by decide +kernel
theorem dX6_init_203 : decode cX6_init 203 = .ok (.return_, 1) := by decide +kernel
theorem dX6_thrown_0 : decode cX6_thrown 0 = .ok (.aload_n 0, 1) := by decide +kernel
theorem dX6_thrown_1 : decode cX6_thrown 1 = .ok (.getfield 85, 3) := by decide +kernel
theorem dX6_thrown_4 : decode cX6_thrown 4 = .ok (.ireturn, 1) := by decide +kernel
theorem dX6_isIn_0 : decode cX6_isIn 0 = .ok (.iload_n 0, 1) := by decide +kernel
theorem dX6_isIn_1 : decode cX6_isIn 1 = .ok (.ifCond .lt 12, 3) := by decide +kernel
theorem dX6_isIn_4 : decode cX6_isIn 4 = .ok (.iload_n 0, 1) := by decide +kernel
theorem dX6_isIn_5 : decode cX6_isIn 5 = .ok (.iload_n 1, 1) := by decide +kernel
theorem dX6_isIn_6 : decode cX6_isIn 6 = .ok (.if_icmp .ge 7, 3) := by decide +kernel
theorem dX6_isIn_9 : decode cX6_isIn 9 = .ok (.iconst 1, 1) := by decide +kernel
theorem dX6_isIn_10 : decode cX6_isIn 10 = .ok (.goto 4, 3) := by decide +kernel
theorem dX6_isIn_13 : decode cX6_isIn 13 = .ok (.iconst 0, 1) := by decide +kernel
theorem dX6_isIn_14 : decode cX6_isIn 14 = .ok (.ireturn, 1) := by decide +kernel
theorem dX6_refused_0 : decode cX6_refused 0 = .ok (.aload_n 0, 1) := by decide +kernel
theorem dX6_refused_1 : decode cX6_refused 1 = .ok (.iload_n 1, 1) := by decide +kernel
theorem dX6_refused_2 : decode cX6_refused 2 = .ok (.ifCond .eq 7, 3) := by decide +kernel
theorem dX6_refused_5 : decode cX6_refused 5 = .ok (.iconst 1, 1) := by decide +kernel
theorem dX6_refused_6 : decode cX6_refused 6 = .ok (.goto 12, 3) := by decide +kernel
theorem dX6_refused_9 : decode cX6_refused 9 = .ok (.iload_n 2, 1) := by decide +kernel
theorem dX6_refused_10 : decode cX6_refused 10 = .ok (.ifCond .eq 7, 3) := by decide +kernel
theorem dX6_refused_13 : decode cX6_refused 13 = .ok (.iconst 2, 1) := by decide +kernel
theorem dX6_refused_14 : decode cX6_refused 14 = .ok (.goto 4, 3) := by decide +kernel
theorem dX6_refused_17 : decode cX6_refused 17 = .ok (.iconst 0, 1) := by decide +kernel
theorem dX6_refused_18 : decode cX6_refused 18 = .ok (.putfield 85, 3) := by decide +kernel
theorem dX6_refused_21 : decode cX6_refused 21 = .ok (.aload_n 0, 1) := by decide +kernel
theorem dX6_refused_22 : decode cX6_refused 22 = .ok (.getfield 85, 3) := by decide +kernel
theorem dX6_refused_25 : decode cX6_refused 25 = .ok (.ifCond .le 7, 3) := by decide +kernel
theorem dX6_refused_28 : decode cX6_refused 28 = .ok (.iconst 1, 1) := by decide +kernel
theorem dX6_refused_29 : decode cX6_refused 29 = .ok (.goto 4, 3) := by decide +kernel
theorem dX6_refused_32 : decode cX6_refused 32 = .ok (.iconst 0, 1) := by decide +kernel
theorem dX6_refused_33 : decode cX6_refused 33 = .ok (.ireturn, 1) := by decide +kernel
theorem dX6_module_0 : decode cX6_module 0 = .ok (.aload_n 0, 1) := by decide +kernel
theorem dX6_module_1 : decode cX6_module 1 = .ok (.aload_n 0, 1) := by decide +kernel
theorem dX6_module_2 : decode cX6_module 2 = .ok (.getfield 89, 3) := by decide +kernel
theorem dX6_module_5 : decode cX6_module 5 = .ok (.bipush 24, 2) := by decide +kernel
theorem dX6_module_7 : decode cX6_module 7 = .ok (.if_icmp .ne 7, 3) := by decide +kernel
theorem dX6_module_10 : decode cX6_module 10 = .ok (.iconst 1, 1) := by decide +kernel
theorem dX6_module_11 : decode cX6_module 11 = .ok (.goto 4, 3) := by decide +kernel
theorem dX6_module_14 : decode cX6_module 14 = .ok (.iconst 0, 1) := by decide +kernel
theorem dX6_module_15 : decode cX6_module 15 = .ok (.putfield 85, 3) := by decide +kernel
theorem dX6_module_18 : decode cX6_module 18 = .ok (.aload_n 0, 1) := by decide +kernel
theorem dX6_module_19 : decode cX6_module 19 = .ok (.getfield 85, 3) := by decide +kernel
theorem dX6_module_22 : decode cX6_module 22 = .ok (.ifCond .le 5, 3) := by decide +kernel
theorem dX6_module_25 : decode cX6_module 25 = .ok (.iconst 0, 1) := by decide +kernel
theorem dX6_module_26 : decode cX6_module 26 = .ok (.ireturn, 1) := by decide +kernel
theorem dX6_module_27 : decode cX6_module 27 = .ok (.aload_n 0, 1) := by decide +kernel
theorem dX6_module_28 : decode cX6_module 28 = .ok (.aload_n 0, 1) := by decide +kernel
theorem dX6_module_29 : decode cX6_module 29 = .ok (.getfield 89, 3) := by decide +kernel
theorem dX6_module_32 : decode cX6_module 32 = .ok (.invokevirtual 92, 3) := by decide +kernel
theorem dX6_module_35 : decode cX6_module 35 = .ok (.aload_n 0, 1) := by decide +kernel
theorem dX6_module_36 : decode cX6_module 36 = .ok (.dup, 1) := by decide +kernel
theorem dX6_module_37 : decode cX6_module 37 = .ok (.getfield 89, 3) := by decide +kernel
theorem dX6_module_40 : decode cX6_module 40 = .ok (.iconst 1, 1) := by decide +kernel
theorem dX6_module_41 : decode cX6_module 41 = .ok (.iadd, 1) := by decide +kernel
theorem dX6_module_42 : decode cX6_module 42 = .ok (.putfield 89, 3) := by decide +kernel
theorem dX6_module_45 : decode cX6_module 45 = .ok (.aload_n 0, 1) := by decide +kernel
theorem dX6_module_46 : decode cX6_module 46 = .ok (.getfield 89, 3) := by decide +kernel
theorem dX6_module_49 : decode cX6_module 49 = .ok (.iconst 1, 1) := by decide +kernel
theorem dX6_module_50 : decode cX6_module 50 = .ok (.isub, 1) := by decide +kernel
theorem dX6_module_51 : decode cX6_module 51 = .ok (.ireturn, 1) := by decide +kernel
theorem dX6_begin_0 : decode cX6_begin 0 = .ok (.aload_n 0, 1) := by decide +kernel
theorem dX6_begin_1 : decode cX6_begin 1 = .ok (.getfield 7, 3) := by decide +kernel
theorem dX6_begin_4 : decode cX6_begin 4 = .ok (.iload_n 1, 1) := by decide +kernel
theorem dX6_begin_5 : decode cX6_begin 5 = .ok (.iconst 0, 1) := by decide +kernel
theorem dX6_begin_6 : decode cX6_begin 6 = .ok (.iastore, 1) := by decide +kernel
theorem dX6_begin_7 : decode cX6_begin 7 = .ok (.aload_n 0, 1) := by decide +kernel
theorem dX6_begin_8 : decode cX6_begin 8 = .ok (.getfield 20, 3) := by decide +kernel
theorem dX6_begin_11 : decode cX6_begin 11 = .ok (.iload_n 1, 1) := by decide +kernel
theorem dX6_begin_12 : decode cX6_begin 12 = .ok (.iconst 0, 1) := by decide +kernel
theorem dX6_begin_13 : decode cX6_begin 13 = .ok (.iastore, 1) := by decide +kernel
theorem dX6_begin_14 : decode cX6_begin 14 = .ok (.aload_n 0, 1) := by decide +kernel
theorem dX6_begin_15 : decode cX6_begin 15 = .ok (.getfield 26, 3) := by decide +kernel
theorem dX6_begin_18 : decode cX6_begin 18 = .ok (.iload_n 1, 1) := by decide +kernel
theorem dX6_begin_19 : decode cX6_begin 19 = .ok (.iconst 0, 1) := by decide +kernel
theorem dX6_begin_20 : decode cX6_begin 20 = .ok (.iastore, 1) := by decide +kernel
theorem dX6_begin_21 : decode cX6_begin 21 = .ok (.aload_n 0, 1) := by decide +kernel
theorem dX6_begin_22 : decode cX6_begin 22 = .ok (.dup, 1) := by decide +kernel
theorem dX6_begin_23 : decode cX6_begin 23 = .ok (.getfield 96, 3) := by decide +kernel
theorem dX6_begin_26 : decode cX6_begin 26 = .ok (.iconst 1, 1) := by decide +kernel
theorem dX6_begin_27 : decode cX6_begin 27 = .ok (.iadd, 1) := by decide +kernel
theorem dX6_begin_28 : decode cX6_begin 28 = .ok (.putfield 96, 3) := by decide +kernel
theorem dX6_begin_31 : decode cX6_begin 31 = .ok (.aload_n 0, 1) := by decide +kernel
theorem dX6_begin_32 : decode cX6_begin 32 = .ok (.getfield 29, 3) := by decide +kernel
theorem dX6_begin_35 : decode cX6_begin 35 = .ok (.iload_n 1, 1) := by decide +kernel
theorem dX6_begin_36 : decode cX6_begin 36 = .ok (.aload_n 0, 1) := by decide +kernel
theorem dX6_begin_37 : decode cX6_begin 37 = .ok (.getfield 96, 3) := by decide +kernel
theorem dX6_begin_40 : decode cX6_begin 40 = .ok (.iastore, 1) := by decide +kernel
theorem dX6_begin_41 : decode cX6_begin 41 = .ok (.iconst 0, 1) := by decide +kernel
theorem dX6_begin_42 : decode cX6_begin 42 = .ok (.istore_n 2, 1) := by decide +kernel
theorem dX6_begin_43 : decode cX6_begin 43 = .ok (.iload_n 2, 1) := by decide +kernel
theorem dX6_begin_44 : decode cX6_begin 44 = .ok (.sipush 8320, 3) := by decide +kernel
theorem dX6_begin_47 : decode cX6_begin 47 = .ok (.if_icmp .ge 22, 3) := by decide +kernel
theorem dX6_begin_50 : decode cX6_begin 50 = .ok (.aload_n 0, 1) := by decide +kernel
theorem dX6_begin_51 : decode cX6_begin 51 = .ok (.getfield 33, 3) := by decide +kernel
theorem dX6_begin_54 : decode cX6_begin 54 = .ok (.sipush 8320, 3) := by decide +kernel
theorem dX6_begin_57 : decode cX6_begin 57 = .ok (.iload_n 1, 1) := by decide +kernel
theorem dX6_begin_58 : decode cX6_begin 58 = .ok (.imul, 1) := by decide +kernel
theorem dX6_begin_59 : decode cX6_begin 59 = .ok (.iload_n 2, 1) := by decide +kernel
theorem dX6_begin_60 : decode cX6_begin 60 = .ok (.iadd, 1) := by decide +kernel
theorem dX6_begin_61 : decode cX6_begin 61 = .ok (.iconst (-1), 1) := by decide +kernel
theorem dX6_begin_62 : decode cX6_begin 62 = .ok (.iastore, 1) := by decide +kernel
theorem dX6_begin_63 : decode cX6_begin 63 = .ok (.iinc 2 1, 3) := by decide +kernel
theorem dX6_begin_66 : decode cX6_begin 66 = .ok (.goto (-23), 3) := by decide +kernel
theorem dX6_begin_69 : decode cX6_begin 69 = .ok (.iconst 0, 1) := by decide +kernel
theorem dX6_begin_70 : decode cX6_begin 70 = .ok (.istore_n 2, 1) := by decide +kernel
theorem dX6_begin_71 : decode cX6_begin 71 = .ok (.iload_n 2, 1) := by decide +kernel
theorem dX6_begin_72 : decode cX6_begin 72 = .ok (.bipush 64, 2) := by decide +kernel
theorem dX6_begin_74 : decode cX6_begin 74 = .ok (.if_icmp .ge 21, 3) := by decide +kernel
theorem dX6_begin_77 : decode cX6_begin 77 = .ok (.aload_n 0, 1) := by decide +kernel
theorem dX6_begin_78 : decode cX6_begin 78 = .ok (.getfield 36, 3) := by decide +kernel
theorem dX6_begin_81 : decode cX6_begin 81 = .ok (.bipush 64, 2) := by decide +kernel
theorem dX6_begin_83 : decode cX6_begin 83 = .ok (.iload_n 1, 1) := by decide +kernel
theorem dX6_begin_84 : decode cX6_begin 84 = .ok (.imul, 1) := by decide +kernel
theorem dX6_begin_85 : decode cX6_begin 85 = .ok (.iload_n 2, 1) := by decide +kernel
theorem dX6_begin_86 : decode cX6_begin 86 = .ok (.iadd, 1) := by decide +kernel
theorem dX6_begin_87 : decode cX6_begin 87 = .ok (.iconst 0, 1) := by decide +kernel
theorem dX6_begin_88 : decode cX6_begin 88 = .ok (.iastore, 1) := by decide +kernel
theorem dX6_begin_89 : decode cX6_begin 89 = .ok (.iinc 2 1, 3) := by decide +kernel
theorem dX6_begin_92 : decode cX6_begin 92 = .ok (.goto (-21), 3) := by decide +kernel
theorem dX6_begin_95 : decode cX6_begin 95 = .ok (.return_, 1) := by decide +kernel
theorem dX6_isUsed_0 : decode cX6_isUsed 0 = .ok (.iconst 0, 1) := by decide +kernel
theorem dX6_isUsed_1 : decode cX6_isUsed 1 = .ok (.istore_n 2, 1) := by decide +kernel
theorem dX6_isUsed_2 : decode cX6_isUsed 2 = .ok (.iload_n 2, 1) := by decide +kernel
theorem dX6_isUsed_3 : decode cX6_isUsed 3 = .ok (.aload_n 0, 1) := by decide +kernel
theorem dX6_isUsed_4 : decode cX6_isUsed 4 = .ok (.getfield 89, 3) := by decide +kernel
theorem dX6_isUsed_7 : decode cX6_isUsed 7 = .ok (.if_icmp .ge 44, 3) := by decide +kernel
theorem dX6_isUsed_10 : decode cX6_isUsed 10 = .ok (.iconst 0, 1) := by decide +kernel
theorem dX6_isUsed_11 : decode cX6_isUsed 11 = .ok (.istore_n 3, 1) := by decide +kernel
theorem dX6_isUsed_12 : decode cX6_isUsed 12 = .ok (.iload_n 3, 1) := by decide +kernel
theorem dX6_isUsed_13 : decode cX6_isUsed 13 = .ok (.aload_n 0, 1) := by decide +kernel
theorem dX6_isUsed_14 : decode cX6_isUsed 14 = .ok (.getfield 20, 3) := by decide +kernel
theorem dX6_isUsed_17 : decode cX6_isUsed 17 = .ok (.iload_n 2, 1) := by decide +kernel
theorem dX6_isUsed_18 : decode cX6_isUsed 18 = .ok (.iaload, 1) := by decide +kernel
theorem dX6_isUsed_19 : decode cX6_isUsed 19 = .ok (.if_icmp .ge 26, 3) := by decide +kernel
theorem dX6_isUsed_22 : decode cX6_isUsed 22 = .ok (.aload_n 0, 1) := by decide +kernel
theorem dX6_isUsed_23 : decode cX6_isUsed 23 = .ok (.getfield 23, 3) := by decide +kernel
theorem dX6_isUsed_26 : decode cX6_isUsed 26 = .ok (.bipush 64, 2) := by decide +kernel
theorem dX6_isUsed_28 : decode cX6_isUsed 28 = .ok (.iload_n 2, 1) := by decide +kernel
theorem dX6_isUsed_29 : decode cX6_isUsed 29 = .ok (.imul, 1) := by decide +kernel
theorem dX6_isUsed_30 : decode cX6_isUsed 30 = .ok (.iload_n 3, 1) := by decide +kernel
theorem dX6_isUsed_31 : decode cX6_isUsed 31 = .ok (.iadd, 1) := by decide +kernel
theorem dX6_isUsed_32 : decode cX6_isUsed 32 = .ok (.iaload, 1) := by decide +kernel
theorem dX6_isUsed_33 : decode cX6_isUsed 33 = .ok (.iload_n 1, 1) := by decide +kernel
theorem dX6_isUsed_34 : decode cX6_isUsed 34 = .ok (.if_icmp .ne 5, 3) := by decide +kernel
theorem dX6_isUsed_37 : decode cX6_isUsed 37 = .ok (.iconst 1, 1) := by decide +kernel
theorem dX6_isUsed_38 : decode cX6_isUsed 38 = .ok (.ireturn, 1) := by decide +kernel
theorem dX6_isUsed_39 : decode cX6_isUsed 39 = .ok (.iinc 3 1, 3) := by decide +kernel
theorem dX6_isUsed_42 : decode cX6_isUsed 42 = .ok (.goto (-30), 3) := by decide +kernel
theorem dX6_isUsed_45 : decode cX6_isUsed 45 = .ok (.iinc 2 1, 3) := by decide +kernel
theorem dX6_isUsed_48 : decode cX6_isUsed 48 = .ok (.goto (-46), 3) := by decide +kernel
theorem dX6_isUsed_51 : decode cX6_isUsed 51 = .ok (.iconst 0, 1) := by decide +kernel
theorem dX6_isUsed_52 : decode cX6_isUsed 52 = .ok (.ireturn, 1) := by decide +kernel
theorem dX6_port_0 : decode cX6_port 0 = .ok (.iload_n 1, 1) := by decide +kernel
theorem dX6_port_1 : decode cX6_port 1 = .ok (.aload_n 0, 1) := by decide +kernel
theorem dX6_port_2 : decode cX6_port 2 = .ok (.getfield 89, 3) := by decide +kernel
theorem dX6_port_5 : decode cX6_port 5 = .ok (.invokestatic 99, 3) := by decide +kernel
theorem dX6_port_8 : decode cX6_port 8 = .ok (.istore 4, 2) := by decide +kernel
theorem dX6_port_10 : decode cX6_port 10 = .ok (.aload_n 0, 1) := by decide +kernel
theorem dX6_port_11 : decode cX6_port 11 = .ok (.iload 4, 2) := by decide +kernel
theorem dX6_port_13 : decode cX6_port 13 = .ok (.ifCond .ne 7, 3) := by decide +kernel
theorem dX6_port_16 : decode cX6_port 16 = .ok (.iconst 1, 1) := by decide +kernel
theorem dX6_port_17 : decode cX6_port 17 = .ok (.goto 42, 3) := by decide +kernel
theorem dX6_port_20 : decode cX6_port 20 = .ok (.aload_n 0, 1) := by decide +kernel
theorem dX6_port_21 : decode cX6_port 21 = .ok (.getfield 7, 3) := by decide +kernel
theorem dX6_port_24 : decode cX6_port 24 = .ok (.iload_n 1, 1) := by decide +kernel
theorem dX6_port_25 : decode cX6_port 25 = .ok (.iaload, 1) := by decide +kernel
theorem dX6_port_26 : decode cX6_port 26 = .ok (.bipush 16, 2) := by decide +kernel
theorem dX6_port_28 : decode cX6_port 28 = .ok (.if_icmp .eq 11, 3) := by decide +kernel
theorem dX6_port_31 : decode cX6_port 31 = .ok (.aload_n 0, 1) := by decide +kernel
theorem dX6_port_32 : decode cX6_port 32 = .ok (.iload_n 1, 1) := by decide +kernel
theorem dX6_port_33 : decode cX6_port 33 = .ok (.invokevirtual 103, 3) := by decide +kernel
theorem dX6_port_36 : decode cX6_port 36 = .ok (.ifCond .eq 7, 3) := by decide +kernel
theorem dX6_port_39 : decode cX6_port 39 = .ok (.iconst 2, 1) := by decide +kernel
theorem dX6_port_40 : decode cX6_port 40 = .ok (.goto 19, 3) := by decide +kernel
theorem dX6_port_43 : decode cX6_port 43 = .ok (.iload_n 2, 1) := by decide +kernel
theorem dX6_port_44 : decode cX6_port 44 = .ok (.iconst 1, 1) := by decide +kernel
theorem dX6_port_45 : decode cX6_port 45 = .ok (.if_icmp .lt 9, 3) := by decide +kernel
theorem dX6_port_48 : decode cX6_port 48 = .ok (.iload_n 2, 1) := by decide +kernel
theorem dX6_port_49 : decode cX6_port 49 = .ok (.bipush 8, 2) := by decide +kernel
theorem dX6_port_51 : decode cX6_port 51 = .ok (.if_icmp .le 7, 3) := by decide +kernel
theorem dX6_port_54 : decode cX6_port 54 = .ok (.iconst 3, 1) := by decide +kernel
theorem dX6_port_55 : decode cX6_port 55 = .ok (.goto 4, 3) := by decide +kernel
theorem dX6_port_58 : decode cX6_port 58 = .ok (.iconst 0, 1) := by decide +kernel
theorem dX6_port_59 : decode cX6_port 59 = .ok (.putfield 85, 3) := by decide +kernel
theorem dX6_port_62 : decode cX6_port 62 = .ok (.aload_n 0, 1) := by decide +kernel
theorem dX6_port_63 : decode cX6_port 63 = .ok (.getfield 85, 3) := by decide +kernel
theorem dX6_port_66 : decode cX6_port 66 = .ok (.ifCond .le 5, 3) := by decide +kernel
theorem dX6_port_69 : decode cX6_port 69 = .ok (.iconst 0, 1) := by decide +kernel
theorem dX6_port_70 : decode cX6_port 70 = .ok (.ireturn, 1) := by decide +kernel
theorem dX6_port_71 : decode cX6_port 71 = .ok (.aload_n 0, 1) := by decide +kernel
theorem dX6_port_72 : decode cX6_port 72 = .ok (.getfield 13, 3) := by decide +kernel
theorem dX6_port_75 : decode cX6_port 75 = .ok (.bipush 16, 2) := by decide +kernel
theorem dX6_port_77 : decode cX6_port 77 = .ok (.iload_n 1, 1) := by decide +kernel
theorem dX6_port_78 : decode cX6_port 78 = .ok (.imul, 1) := by decide +kernel
theorem dX6_port_79 : decode cX6_port 79 = .ok (.aload_n 0, 1) := by decide +kernel
theorem dX6_port_80 : decode cX6_port 80 = .ok (.getfield 7, 3) := by decide +kernel
theorem dX6_port_83 : decode cX6_port 83 = .ok (.iload_n 1, 1) := by decide +kernel
theorem dX6_port_84 : decode cX6_port 84 = .ok (.iaload, 1) := by decide +kernel
theorem dX6_port_85 : decode cX6_port 85 = .ok (.iadd, 1) := by decide +kernel
theorem dX6_port_86 : decode cX6_port 86 = .ok (.iload_n 2, 1) := by decide +kernel
theorem dX6_port_87 : decode cX6_port 87 = .ok (.iastore, 1) := by decide +kernel
theorem dX6_port_88 : decode cX6_port 88 = .ok (.aload_n 0, 1) := by decide +kernel
theorem dX6_port_89 : decode cX6_port 89 = .ok (.getfield 16, 3) := by decide +kernel
theorem dX6_port_92 : decode cX6_port 92 = .ok (.bipush 16, 2) := by decide +kernel
theorem dX6_port_94 : decode cX6_port 94 = .ok (.iload_n 1, 1) := by decide +kernel
theorem dX6_port_95 : decode cX6_port 95 = .ok (.imul, 1) := by decide +kernel
theorem dX6_port_96 : decode cX6_port 96 = .ok (.aload_n 0, 1) := by decide +kernel
theorem dX6_port_97 : decode cX6_port 97 = .ok (.getfield 7, 3) := by decide +kernel
theorem dX6_port_100 : decode cX6_port 100 = .ok (.iload_n 1, 1) := by decide +kernel
theorem dX6_port_101 : decode cX6_port 101 = .ok (.iaload, 1) := by decide +kernel
theorem dX6_port_102 : decode cX6_port 102 = .ok (.iadd, 1) := by decide +kernel
theorem dX6_port_103 : decode cX6_port 103 = .ok (.iload_n 3, 1) := by decide +kernel
theorem dX6_port_104 : decode cX6_port 104 = .ok (.bastore, 1) := by decide +kernel
theorem dX6_port_105 : decode cX6_port 105 = .ok (.aload_n 0, 1) := by decide +kernel
theorem dX6_port_106 : decode cX6_port 106 = .ok (.getfield 7, 3) := by decide +kernel
theorem dX6_port_109 : decode cX6_port 109 = .ok (.iload_n 1, 1) := by decide +kernel
theorem dX6_port_110 : decode cX6_port 110 = .ok (.dup2, 1) := by decide +kernel
theorem dX6_port_111 : decode cX6_port 111 = .ok (.iaload, 1) := by decide +kernel
theorem dX6_port_112 : decode cX6_port 112 = .ok (.iconst 1, 1) := by decide +kernel
theorem dX6_port_113 : decode cX6_port 113 = .ok (.iadd, 1) := by decide +kernel
theorem dX6_port_114 : decode cX6_port 114 = .ok (.iastore, 1) := by decide +kernel
theorem dX6_port_115 : decode cX6_port 115 = .ok (.aload_n 0, 1) := by decide +kernel
theorem dX6_port_116 : decode cX6_port 116 = .ok (.getfield 7, 3) := by decide +kernel
theorem dX6_port_119 : decode cX6_port 119 = .ok (.iload_n 1, 1) := by decide +kernel
theorem dX6_port_120 : decode cX6_port 120 = .ok (.iaload, 1) := by decide +kernel
theorem dX6_port_121 : decode cX6_port 121 = .ok (.iconst 1, 1) := by decide +kernel
theorem dX6_port_122 : decode cX6_port 122 = .ok (.isub, 1) := by decide +kernel
theorem dX6_port_123 : decode cX6_port 123 = .ok (.ireturn, 1) := by decide +kernel
theorem dX6_ownPins_0 : decode cX6_ownPins 0 = .ok (.iconst 0, 1) := by decide +kernel
theorem dX6_ownPins_1 : decode cX6_ownPins 1 = .ok (.istore_n 2, 1) := by decide +kernel
theorem dX6_ownPins_2 : decode cX6_ownPins 2 = .ok (.iconst 0, 1) := by decide +kernel
theorem dX6_ownPins_3 : decode cX6_ownPins 3 = .ok (.istore_n 3, 1) := by decide +kernel
theorem dX6_ownPins_4 : decode cX6_ownPins 4 = .ok (.iload_n 3, 1) := by decide +kernel
theorem dX6_ownPins_5 : decode cX6_ownPins 5 = .ok (.aload_n 0, 1) := by decide +kernel
theorem dX6_ownPins_6 : decode cX6_ownPins 6 = .ok (.getfield 7, 3) := by decide +kernel
theorem dX6_ownPins_9 : decode cX6_ownPins 9 = .ok (.iload_n 1, 1) := by decide +kernel
theorem dX6_ownPins_10 : decode cX6_ownPins 10 = .ok (.iaload, 1) := by decide +kernel
theorem dX6_ownPins_11 : decode cX6_ownPins 11 = .ok (.if_icmp .ge 23, 3) := by decide +kernel
theorem dX6_ownPins_14 : decode cX6_ownPins 14 = .ok (.iload_n 2, 1) := by decide +kernel
theorem dX6_ownPins_15 : decode cX6_ownPins 15 = .ok (.aload_n 0, 1) := by decide +kernel
theorem dX6_ownPins_16 : decode cX6_ownPins 16 = .ok (.getfield 13, 3) := by decide +kernel
theorem dX6_ownPins_19 : decode cX6_ownPins 19 = .ok (.bipush 16, 2) := by decide +kernel
theorem dX6_ownPins_21 : decode cX6_ownPins 21 = .ok (.iload_n 1, 1) := by decide +kernel
theorem dX6_ownPins_22 : decode cX6_ownPins 22 = .ok (.imul, 1) := by decide +kernel
theorem dX6_ownPins_23 : decode cX6_ownPins 23 = .ok (.iload_n 3, 1) := by decide +kernel
theorem dX6_ownPins_24 : decode cX6_ownPins 24 = .ok (.iadd, 1) := by decide +kernel
theorem dX6_ownPins_25 : decode cX6_ownPins 25 = .ok (.iaload, 1) := by decide +kernel
theorem dX6_ownPins_26 : decode cX6_ownPins 26 = .ok (.iadd, 1) := by decide +kernel
theorem dX6_ownPins_27 : decode cX6_ownPins 27 = .ok (.istore_n 2, 1) := by decide +kernel
theorem dX6_ownPins_28 : decode cX6_ownPins 28 = .ok (.iinc 3 1, 3) := by decide +kernel
theorem dX6_ownPins_31 : decode cX6_ownPins 31 = .ok (.goto (-27), 3) := by decide +kernel
theorem dX6_ownPins_34 : decode cX6_ownPins 34 = .ok (.iload_n 2, 1) := by decide +kernel
theorem dX6_ownPins_35 : decode cX6_ownPins 35 = .ok (.ireturn, 1) := by decide +kernel
theorem dX6_isOut_0 : decode cX6_isOut 0 = .ok (.iload_n 2, 1) := by decide +kernel
theorem dX6_isOut_1 : decode cX6_isOut 1 = .ok (.istore_n 3, 1) := by decide +kernel
theorem dX6_isOut_2 : decode cX6_isOut 2 = .ok (.iconst 0, 1) := by decide +kernel
theorem dX6_isOut_3 : decode cX6_isOut 3 = .ok (.istore 4, 2) := by decide +kernel
theorem dX6_isOut_5 : decode cX6_isOut 5 = .ok (.iload_n 3, 1) := by decide +kernel
theorem dX6_isOut_6 : decode cX6_isOut 6 = .ok (.aload_n 0, 1) := by decide +kernel
theorem dX6_isOut_7 : decode cX6_isOut 7 = .ok (.getfield 13, 3) := by decide +kernel
theorem dX6_isOut_10 : decode cX6_isOut 10 = .ok (.bipush 16, 2) := by decide +kernel
theorem dX6_isOut_12 : decode cX6_isOut 12 = .ok (.iload_n 1, 1) := by decide +kernel
theorem dX6_isOut_13 : decode cX6_isOut 13 = .ok (.imul, 1) := by decide +kernel
theorem dX6_isOut_14 : decode cX6_isOut 14 = .ok (.iload 4, 2) := by decide +kernel
theorem dX6_isOut_16 : decode cX6_isOut 16 = .ok (.iadd, 1) := by decide +kernel
theorem dX6_isOut_17 : decode cX6_isOut 17 = .ok (.iaload, 1) := by decide +kernel
theorem dX6_isOut_18 : decode cX6_isOut 18 = .ok (.if_icmp .lt 24, 3) := by decide +kernel
theorem dX6_isOut_21 : decode cX6_isOut 21 = .ok (.iload_n 3, 1) := by decide +kernel
theorem dX6_isOut_22 : decode cX6_isOut 22 = .ok (.aload_n 0, 1) := by decide +kernel
theorem dX6_isOut_23 : decode cX6_isOut 23 = .ok (.getfield 13, 3) := by decide +kernel
theorem dX6_isOut_26 : decode cX6_isOut 26 = .ok (.bipush 16, 2) := by decide +kernel
theorem dX6_isOut_28 : decode cX6_isOut 28 = .ok (.iload_n 1, 1) := by decide +kernel
theorem dX6_isOut_29 : decode cX6_isOut 29 = .ok (.imul, 1) := by decide +kernel
theorem dX6_isOut_30 : decode cX6_isOut 30 = .ok (.iload 4, 2) := by decide +kernel
theorem dX6_isOut_32 : decode cX6_isOut 32 = .ok (.iadd, 1) := by decide +kernel
theorem dX6_isOut_33 : decode cX6_isOut 33 = .ok (.iaload, 1) := by decide +kernel
theorem dX6_isOut_34 : decode cX6_isOut 34 = .ok (.isub, 1) := by decide +kernel
theorem dX6_isOut_35 : decode cX6_isOut 35 = .ok (.istore_n 3, 1) := by decide +kernel
theorem dX6_isOut_36 : decode cX6_isOut 36 = .ok (.iinc 4 1, 3) := by decide +kernel
theorem dX6_isOut_39 : decode cX6_isOut 39 = .ok (.goto (-34), 3) := by decide +kernel
theorem dX6_isOut_42 : decode cX6_isOut 42 = .ok (.aload_n 0, 1) := by decide +kernel
theorem dX6_isOut_43 : decode cX6_isOut 43 = .ok (.getfield 16, 3) := by decide +kernel
theorem dX6_isOut_46 : decode cX6_isOut 46 = .ok (.bipush 16, 2) := by decide +kernel
theorem dX6_isOut_48 : decode cX6_isOut 48 = .ok (.iload_n 1, 1) := by decide +kernel
theorem dX6_isOut_49 : decode cX6_isOut 49 = .ok (.imul, 1) := by decide +kernel
theorem dX6_isOut_50 : decode cX6_isOut 50 = .ok (.iload 4, 2) := by decide +kernel
theorem dX6_isOut_52 : decode cX6_isOut 52 = .ok (.iadd, 1) := by decide +kernel
theorem dX6_isOut_53 : decode cX6_isOut 53 = .ok (.baload, 1) := by decide +kernel
theorem dX6_isOut_54 : decode cX6_isOut 54 = .ok (.ireturn, 1) := by decide +kernel
theorem dX6_isWithin_0 : decode cX6_isWithin 0 = .ok (.iconst 0, 1) := by decide +kernel
theorem dX6_isWithin_1 : decode cX6_isWithin 1 = .ok (.istore_n 3, 1) := by decide +kernel
theorem dX6_isWithin_2 : decode cX6_isWithin 2 = .ok (.iload_n 3, 1) := by decide +kernel
theorem dX6_isWithin_3 : decode cX6_isWithin 3 = .ok (.aload_n 0, 1) := by decide +kernel
theorem dX6_isWithin_4 : decode cX6_isWithin 4 = .ok (.getfield 89, 3) := by decide +kernel
theorem dX6_isWithin_7 : decode cX6_isWithin 7 = .ok (.if_icmp .ge 25, 3) := by decide +kernel
theorem dX6_isWithin_10 : decode cX6_isWithin 10 = .ok (.aload_n 0, 1) := by decide +kernel
theorem dX6_isWithin_11 : decode cX6_isWithin 11 = .ok (.getfield 76, 3) := by decide +kernel
theorem dX6_isWithin_14 : decode cX6_isWithin 14 = .ok (.iload_n 3, 1) := by decide +kernel
theorem dX6_isWithin_15 : decode cX6_isWithin 15 = .ok (.iload_n 3, 1) := by decide +kernel
theorem dX6_isWithin_16 : decode cX6_isWithin 16 = .ok (.iload_n 2, 1) := by decide +kernel
theorem dX6_isWithin_17 : decode cX6_isWithin 17 = .ok (.if_icmp .ne 7, 3) := by decide +kernel
theorem dX6_isWithin_20 : decode cX6_isWithin 20 = .ok (.iconst 1, 1) := by decide +kernel
theorem dX6_isWithin_21 : decode cX6_isWithin 21 = .ok (.goto 4, 3) := by decide +kernel
theorem dX6_isWithin_24 : decode cX6_isWithin 24 = .ok (.iconst 0, 1) := by decide +kernel
theorem dX6_isWithin_25 : decode cX6_isWithin 25 = .ok (.iastore, 1) := by decide +kernel
theorem dX6_isWithin_26 : decode cX6_isWithin 26 = .ok (.iinc 3 1, 3) := by decide +kernel
theorem dX6_isWithin_29 : decode cX6_isWithin 29 = .ok (.goto (-27), 3) := by decide +kernel
theorem dX6_isWithin_32 : decode cX6_isWithin 32 = .ok (.iconst 1, 1) := by decide +kernel
theorem dX6_isWithin_33 : decode cX6_isWithin 33 = .ok (.istore_n 3, 1) := by decide +kernel
theorem dX6_isWithin_34 : decode cX6_isWithin 34 = .ok (.iload_n 3, 1) := by decide +kernel
theorem dX6_isWithin_35 : decode cX6_isWithin 35 = .ok (.ifCond .eq 101, 3) := by decide +kernel
theorem dX6_isWithin_38 : decode cX6_isWithin 38 = .ok (.iconst 0, 1) := by decide +kernel
theorem dX6_isWithin_39 : decode cX6_isWithin 39 = .ok (.istore_n 3, 1) := by decide +kernel
theorem dX6_isWithin_40 : decode cX6_isWithin 40 = .ok (.iconst 0, 1) := by decide +kernel
theorem dX6_isWithin_41 : decode cX6_isWithin 41 = .ok (.istore 4, 2) := by decide +kernel
theorem dX6_isWithin_43 : decode cX6_isWithin 43 = .ok (.iload 4, 2) := by decide +kernel
theorem dX6_isWithin_45 : decode cX6_isWithin 45 = .ok (.aload_n 0, 1) := by decide +kernel
theorem dX6_isWithin_46 : decode cX6_isWithin 46 = .ok (.getfield 89, 3) := by decide +kernel
theorem dX6_isWithin_49 : decode cX6_isWithin 49 = .ok (.if_icmp .ge 84, 3) := by decide +kernel
theorem dX6_isWithin_52 : decode cX6_isWithin 52 = .ok (.iconst 0, 1) := by decide +kernel
theorem dX6_isWithin_53 : decode cX6_isWithin 53 = .ok (.istore 5, 2) := by decide +kernel
theorem dX6_isWithin_55 : decode cX6_isWithin 55 = .ok (.iload 5, 2) := by decide +kernel
theorem dX6_isWithin_57 : decode cX6_isWithin 57 = .ok (.aload_n 0, 1) := by decide +kernel
theorem dX6_isWithin_58 : decode cX6_isWithin 58 = .ok (.getfield 20, 3) := by decide +kernel
theorem dX6_isWithin_61 : decode cX6_isWithin 61 = .ok (.iload 4, 2) := by decide +kernel
theorem dX6_isWithin_63 : decode cX6_isWithin 63 = .ok (.iaload, 1) := by decide +kernel
theorem dX6_isWithin_64 : decode cX6_isWithin 64 = .ok (.if_icmp .ge 63, 3) := by decide +kernel
theorem dX6_isWithin_67 : decode cX6_isWithin 67 = .ok (.aload_n 0, 1) := by decide +kernel
theorem dX6_isWithin_68 : decode cX6_isWithin 68 = .ok (.getfield 76, 3) := by decide +kernel
theorem dX6_isWithin_71 : decode cX6_isWithin 71 = .ok (.iload 4, 2) := by decide +kernel
theorem dX6_isWithin_73 : decode cX6_isWithin 73 = .ok (.iaload, 1) := by decide +kernel
theorem dX6_isWithin_74 : decode cX6_isWithin 74 = .ok (.iconst 1, 1) := by decide +kernel
theorem dX6_isWithin_75 : decode cX6_isWithin 75 = .ok (.if_icmp .ne 52, 3) := by decide +kernel
theorem dX6_isWithin_78 : decode cX6_isWithin 78 = .ok (.aload_n 0, 1) := by decide +kernel
theorem dX6_isWithin_79 : decode cX6_isWithin 79 = .ok (.getfield 23, 3) := by decide +kernel
theorem dX6_isWithin_82 : decode cX6_isWithin 82 = .ok (.bipush 64, 2) := by decide +kernel
theorem dX6_isWithin_84 : decode cX6_isWithin 84 = .ok (.iload 4, 2) := by decide +kernel
theorem dX6_isWithin_86 : decode cX6_isWithin 86 = .ok (.imul, 1) := by decide +kernel
theorem dX6_isWithin_87 : decode cX6_isWithin 87 = .ok (.iload 5, 2) := by decide +kernel
theorem dX6_isWithin_89 : decode cX6_isWithin 89 = .ok (.iadd, 1) := by decide +kernel
theorem dX6_isWithin_90 : decode cX6_isWithin 90 = .ok (.iaload, 1) := by decide +kernel
theorem dX6_isWithin_91 : decode cX6_isWithin 91 = .ok (.istore 6, 2) := by decide +kernel
theorem dX6_isWithin_93 : decode cX6_isWithin 93 = .ok (.iload_n 3, 1) := by decide +kernel
theorem dX6_isWithin_94 : decode cX6_isWithin 94 = .ok (.ifCond .ne 13, 3) := by decide +kernel
theorem dX6_isWithin_97 : decode cX6_isWithin 97 = .ok (.aload_n 0, 1) := by decide +kernel
theorem dX6_isWithin_98 : decode cX6_isWithin 98 = .ok (.getfield 76, 3) := by decide +kernel
theorem dX6_isWithin_101 : decode cX6_isWithin 101 = .ok (.iload 6, 2) := by decide +kernel
theorem dX6_isWithin_103 : decode cX6_isWithin 103 = .ok (.iaload, 1) := by decide +kernel
theorem dX6_isWithin_104 : decode cX6_isWithin 104 = .ok (.ifCond .ne 7, 3) := by decide +kernel
theorem dX6_isWithin_107 : decode cX6_isWithin 107 = .ok (.iconst 1, 1) := by decide +kernel
theorem dX6_isWithin_108 : decode cX6_isWithin 108 = .ok (.goto 4, 3) := by decide +kernel
theorem dX6_isWithin_111 : decode cX6_isWithin 111 = .ok (.iconst 0, 1) := by decide +kernel
theorem dX6_isWithin_112 : decode cX6_isWithin 112 = .ok (.istore_n 3, 1) := by decide +kernel
theorem dX6_isWithin_113 : decode cX6_isWithin 113 = .ok (.aload_n 0, 1) := by decide +kernel
theorem dX6_isWithin_114 : decode cX6_isWithin 114 = .ok (.getfield 76, 3) := by decide +kernel
theorem dX6_isWithin_117 : decode cX6_isWithin 117 = .ok (.iload 6, 2) := by decide +kernel
theorem dX6_isWithin_119 : decode cX6_isWithin 119 = .ok (.iconst 1, 1) := by decide +kernel
theorem dX6_isWithin_120 : decode cX6_isWithin 120 = .ok (.iastore, 1) := by decide +kernel
theorem dX6_isWithin_121 : decode cX6_isWithin 121 = .ok (.iinc 5 1, 3) := by decide +kernel
theorem dX6_isWithin_124 : decode cX6_isWithin 124 = .ok (.goto (-69), 3) := by decide +kernel
theorem dX6_isWithin_127 : decode cX6_isWithin 127 = .ok (.iinc 4 1, 3) := by decide +kernel
theorem dX6_isWithin_130 : decode cX6_isWithin 130 = .ok (.goto (-87), 3) := by decide +kernel
theorem dX6_isWithin_133 : decode cX6_isWithin 133 = .ok (.goto (-99), 3) := by decide +kernel
theorem dX6_isWithin_136 : decode cX6_isWithin 136 = .ok (.aload_n 0, 1) := by decide +kernel
theorem dX6_isWithin_137 : decode cX6_isWithin 137 = .ok (.getfield 76, 3) := by decide +kernel
theorem dX6_isWithin_140 : decode cX6_isWithin 140 = .ok (.iload_n 1, 1) := by decide +kernel
theorem dX6_isWithin_141 : decode cX6_isWithin 141 = .ok (.iaload, 1) := by decide +kernel
theorem dX6_isWithin_142 : decode cX6_isWithin 142 = .ok (.iconst 1, 1) := by decide +kernel
theorem dX6_isWithin_143 : decode cX6_isWithin 143 = .ok (.if_icmp .ne 7, 3) := by decide +kernel
theorem dX6_isWithin_146 : decode cX6_isWithin 146 = .ok (.iconst 1, 1) := by decide +kernel
theorem dX6_isWithin_147 : decode cX6_isWithin 147 = .ok (.goto 4, 3) := by decide +kernel
theorem dX6_isWithin_150 : decode cX6_isWithin 150 = .ok (.iconst 0, 1) := by decide +kernel
theorem dX6_isWithin_151 : decode cX6_isWithin 151 = .ok (.ireturn, 1) := by decide +kernel
theorem dX6_change_0 : decode cX6_change 0 = .ok (.iconst 1, 1) := by decide +kernel
theorem dX6_change_1 : decode cX6_change 1 = .ok (.istore_n 2, 1) := by decide +kernel
theorem dX6_change_2 : decode cX6_change 2 = .ok (.iconst 0, 1) := by decide +kernel
theorem dX6_change_3 : decode cX6_change 3 = .ok (.istore_n 3, 1) := by decide +kernel
theorem dX6_change_4 : decode cX6_change 4 = .ok (.iload_n 3, 1) := by decide +kernel
theorem dX6_change_5 : decode cX6_change 5 = .ok (.aload_n 0, 1) := by decide +kernel
theorem dX6_change_6 : decode cX6_change 6 = .ok (.getfield 89, 3) := by decide +kernel
theorem dX6_change_9 : decode cX6_change 9 = .ok (.if_icmp .ge 39, 3) := by decide +kernel
theorem dX6_change_12 : decode cX6_change 12 = .ok (.iload_n 2, 1) := by decide +kernel
theorem dX6_change_13 : decode cX6_change 13 = .ok (.ifCond .eq 27, 3) := by decide +kernel
theorem dX6_change_16 : decode cX6_change 16 = .ok (.iload_n 3, 1) := by decide +kernel
theorem dX6_change_17 : decode cX6_change 17 = .ok (.iload_n 1, 1) := by decide +kernel
theorem dX6_change_18 : decode cX6_change 18 = .ok (.if_icmp .eq 18, 3) := by decide +kernel
theorem dX6_change_21 : decode cX6_change 21 = .ok (.aload_n 0, 1) := by decide +kernel
theorem dX6_change_22 : decode cX6_change 22 = .ok (.getfield 29, 3) := by decide +kernel
theorem dX6_change_25 : decode cX6_change 25 = .ok (.iload_n 3, 1) := by decide +kernel
theorem dX6_change_26 : decode cX6_change 26 = .ok (.iaload, 1) := by decide +kernel
theorem dX6_change_27 : decode cX6_change 27 = .ok (.aload_n 0, 1) := by decide +kernel
theorem dX6_change_28 : decode cX6_change 28 = .ok (.getfield 29, 3) := by decide +kernel
theorem dX6_change_31 : decode cX6_change 31 = .ok (.iload_n 1, 1) := by decide +kernel
theorem dX6_change_32 : decode cX6_change 32 = .ok (.iaload, 1) := by decide +kernel
theorem dX6_change_33 : decode cX6_change 33 = .ok (.if_icmp .eq 7, 3) := by decide +kernel
theorem dX6_change_36 : decode cX6_change 36 = .ok (.iconst 1, 1) := by decide +kernel
theorem dX6_change_37 : decode cX6_change 37 = .ok (.goto 4, 3) := by decide +kernel
theorem dX6_change_40 : decode cX6_change 40 = .ok (.iconst 0, 1) := by decide +kernel
theorem dX6_change_41 : decode cX6_change 41 = .ok (.istore_n 2, 1) := by decide +kernel
theorem dX6_change_42 : decode cX6_change 42 = .ok (.iinc 3 1, 3) := by decide +kernel
theorem dX6_change_45 : decode cX6_change 45 = .ok (.goto (-41), 3) := by decide +kernel
theorem dX6_change_48 : decode cX6_change 48 = .ok (.iload_n 2, 1) := by decide +kernel
theorem dX6_change_49 : decode cX6_change 49 = .ok (.ifCond .ne 23, 3) := by decide +kernel
theorem dX6_change_52 : decode cX6_change 52 = .ok (.aload_n 0, 1) := by decide +kernel
theorem dX6_change_53 : decode cX6_change 53 = .ok (.dup, 1) := by decide +kernel
theorem dX6_change_54 : decode cX6_change 54 = .ok (.getfield 96, 3) := by decide +kernel
theorem dX6_change_57 : decode cX6_change 57 = .ok (.iconst 1, 1) := by decide +kernel
theorem dX6_change_58 : decode cX6_change 58 = .ok (.iadd, 1) := by decide +kernel
theorem dX6_change_59 : decode cX6_change 59 = .ok (.putfield 96, 3) := by decide +kernel
theorem dX6_change_62 : decode cX6_change 62 = .ok (.aload_n 0, 1) := by decide +kernel
theorem dX6_change_63 : decode cX6_change 63 = .ok (.getfield 29, 3) := by decide +kernel
theorem dX6_change_66 : decode cX6_change 66 = .ok (.iload_n 1, 1) := by decide +kernel
theorem dX6_change_67 : decode cX6_change 67 = .ok (.aload_n 0, 1) := by decide +kernel
theorem dX6_change_68 : decode cX6_change 68 = .ok (.getfield 96, 3) := by decide +kernel
theorem dX6_change_71 : decode cX6_change 71 = .ok (.iastore, 1) := by decide +kernel
theorem dX6_change_72 : decode cX6_change 72 = .ok (.return_, 1) := by decide +kernel
theorem dX6_instance_0 : decode cX6_instance 0 = .ok (.iload_n 1, 1) := by decide +kernel
theorem dX6_instance_1 : decode cX6_instance 1 = .ok (.aload_n 0, 1) := by decide +kernel
theorem dX6_instance_2 : decode cX6_instance 2 = .ok (.getfield 89, 3) := by decide +kernel
theorem dX6_instance_5 : decode cX6_instance 5 = .ok (.invokestatic 99, 3) := by decide +kernel
theorem dX6_instance_8 : decode cX6_instance 8 = .ok (.ifCond .eq 18, 3) := by decide +kernel
theorem dX6_instance_11 : decode cX6_instance 11 = .ok (.iload_n 2, 1) := by decide +kernel
theorem dX6_instance_12 : decode cX6_instance 12 = .ok (.aload_n 0, 1) := by decide +kernel
theorem dX6_instance_13 : decode cX6_instance 13 = .ok (.getfield 89, 3) := by decide +kernel
theorem dX6_instance_16 : decode cX6_instance 16 = .ok (.invokestatic 99, 3) := by decide +kernel
theorem dX6_instance_19 : decode cX6_instance 19 = .ok (.ifCond .eq 7, 3) := by decide +kernel
theorem dX6_instance_22 : decode cX6_instance 22 = .ok (.iconst 1, 1) := by decide +kernel
theorem dX6_instance_23 : decode cX6_instance 23 = .ok (.goto 4, 3) := by decide +kernel
theorem dX6_instance_26 : decode cX6_instance 26 = .ok (.iconst 0, 1) := by decide +kernel
theorem dX6_instance_27 : decode cX6_instance 27 = .ok (.istore_n 3, 1) := by decide +kernel
theorem dX6_instance_28 : decode cX6_instance 28 = .ok (.aload_n 0, 1) := by decide +kernel
theorem dX6_instance_29 : decode cX6_instance 29 = .ok (.iload_n 3, 1) := by decide +kernel
theorem dX6_instance_30 : decode cX6_instance 30 = .ok (.ifCond .ne 7, 3) := by decide +kernel
theorem dX6_instance_33 : decode cX6_instance 33 = .ok (.iconst 1, 1) := by decide +kernel
theorem dX6_instance_34 : decode cX6_instance 34 = .ok (.goto 4, 3) := by decide +kernel
theorem dX6_instance_37 : decode cX6_instance 37 = .ok (.iconst 0, 1) := by decide +kernel
theorem dX6_instance_38 : decode cX6_instance 38 = .ok (.iload_n 3, 1) := by decide +kernel
theorem dX6_instance_39 : decode cX6_instance 39 = .ok (.ifCond .eq 18, 3) := by decide +kernel
theorem dX6_instance_42 : decode cX6_instance 42 = .ok (.aload_n 0, 1) := by decide +kernel
theorem dX6_instance_43 : decode cX6_instance 43 = .ok (.getfield 20, 3) := by decide +kernel
theorem dX6_instance_46 : decode cX6_instance 46 = .ok (.iload_n 1, 1) := by decide +kernel
theorem dX6_instance_47 : decode cX6_instance 47 = .ok (.iaload, 1) := by decide +kernel
theorem dX6_instance_48 : decode cX6_instance 48 = .ok (.bipush 64, 2) := by decide +kernel
theorem dX6_instance_50 : decode cX6_instance 50 = .ok (.if_icmp .ne 7, 3) := by decide +kernel
theorem dX6_instance_53 : decode cX6_instance 53 = .ok (.iconst 1, 1) := by decide +kernel
theorem dX6_instance_54 : decode cX6_instance 54 = .ok (.goto 4, 3) := by decide +kernel
theorem dX6_instance_57 : decode cX6_instance 57 = .ok (.iconst 0, 1) := by decide +kernel
theorem dX6_instance_58 : decode cX6_instance 58 = .ok (.invokevirtual 107, 3) := by decide +kernel
theorem dX6_instance_61 : decode cX6_instance 61 = .ok (.ifCond .eq 5, 3) := by decide +kernel
theorem dX6_instance_64 : decode cX6_instance 64 = .ok (.iconst 0, 1) := by decide +kernel
theorem dX6_instance_65 : decode cX6_instance 65 = .ok (.ireturn, 1) := by decide +kernel
theorem dX6_instance_66 : decode cX6_instance 66 = .ok (.aload_n 0, 1) := by decide +kernel
theorem dX6_instance_67 : decode cX6_instance 67 = .ok (.iload_n 1, 1) := by decide +kernel
theorem dX6_instance_68 : decode cX6_instance 68 = .ok (.iload_n 2, 1) := by decide +kernel
theorem dX6_instance_69 : decode cX6_instance 69 = .ok (.invokevirtual 111, 3) := by decide +kernel
theorem dX6_instance_72 : decode cX6_instance 72 = .ok (.ifCond .eq 5, 3) := by decide +kernel
theorem dX6_instance_75 : decode cX6_instance 75 = .ok (.iconst (-1), 1) := by decide +kernel
theorem dX6_instance_76 : decode cX6_instance 76 = .ok (.ireturn, 1) := by decide +kernel
theorem dX6_instance_77 : decode cX6_instance 77 = .ok (.aload_n 0, 1) := by decide +kernel
theorem dX6_instance_78 : decode cX6_instance 78 = .ok (.iload_n 1, 1) := by decide +kernel
theorem dX6_instance_79 : decode cX6_instance 79 = .ok (.invokevirtual 114, 3) := by decide +kernel
theorem dX6_instance_82 : decode cX6_instance 82 = .ok (.aload_n 0, 1) := by decide +kernel
theorem dX6_instance_83 : decode cX6_instance 83 = .ok (.getfield 20, 3) := by decide +kernel
theorem dX6_instance_86 : decode cX6_instance 86 = .ok (.iload_n 1, 1) := by decide +kernel
theorem dX6_instance_87 : decode cX6_instance 87 = .ok (.iaload, 1) := by decide +kernel
theorem dX6_instance_88 : decode cX6_instance 88 = .ok (.istore 4, 2) := by decide +kernel
theorem dX6_instance_90 : decode cX6_instance 90 = .ok (.aload_n 0, 1) := by decide +kernel
theorem dX6_instance_91 : decode cX6_instance 91 = .ok (.getfield 23, 3) := by decide +kernel
theorem dX6_instance_94 : decode cX6_instance 94 = .ok (.bipush 64, 2) := by decide +kernel
theorem dX6_instance_96 : decode cX6_instance 96 = .ok (.iload_n 1, 1) := by decide +kernel
theorem dX6_instance_97 : decode cX6_instance 97 = .ok (.imul, 1) := by decide +kernel
theorem dX6_instance_98 : decode cX6_instance 98 = .ok (.iload 4, 2) := by decide +kernel
theorem dX6_instance_100 : decode cX6_instance 100 = .ok (.iadd, 1) := by decide +kernel
theorem dX6_instance_101 : decode cX6_instance 101 = .ok (.iload_n 2, 1) := by decide +kernel
theorem dX6_instance_102 : decode cX6_instance 102 = .ok (.iastore, 1) := by decide +kernel
theorem dX6_instance_103 : decode cX6_instance 103 = .ok (.aload_n 0, 1) := by decide +kernel
theorem dX6_instance_104 : decode cX6_instance 104 = .ok (.getfield 36, 3) := by decide +kernel
theorem dX6_instance_107 : decode cX6_instance 107 = .ok (.bipush 64, 2) := by decide +kernel
theorem dX6_instance_109 : decode cX6_instance 109 = .ok (.iload_n 1, 1) := by decide +kernel
theorem dX6_instance_110 : decode cX6_instance 110 = .ok (.imul, 1) := by decide +kernel
theorem dX6_instance_111 : decode cX6_instance 111 = .ok (.iload 4, 2) := by decide +kernel
theorem dX6_instance_113 : decode cX6_instance 113 = .ok (.iadd, 1) := by decide +kernel
theorem dX6_instance_114 : decode cX6_instance 114 = .ok (.iconst 0, 1) := by decide +kernel
theorem dX6_instance_115 : decode cX6_instance 115 = .ok (.iastore, 1) := by decide +kernel
theorem dX6_instance_116 : decode cX6_instance 116 = .ok (.aload_n 0, 1) := by decide +kernel
theorem dX6_instance_117 : decode cX6_instance 117 = .ok (.getfield 20, 3) := by decide +kernel
theorem dX6_instance_120 : decode cX6_instance 120 = .ok (.iload_n 1, 1) := by decide +kernel
theorem dX6_instance_121 : decode cX6_instance 121 = .ok (.dup2, 1) := by decide +kernel
theorem dX6_instance_122 : decode cX6_instance 122 = .ok (.iaload, 1) := by decide +kernel
theorem dX6_instance_123 : decode cX6_instance 123 = .ok (.iconst 1, 1) := by decide +kernel
theorem dX6_instance_124 : decode cX6_instance 124 = .ok (.iadd, 1) := by decide +kernel
theorem dX6_instance_125 : decode cX6_instance 125 = .ok (.iastore, 1) := by decide +kernel
theorem dX6_instance_126 : decode cX6_instance 126 = .ok (.iload 4, 2) := by decide +kernel
theorem dX6_instance_128 : decode cX6_instance 128 = .ok (.ireturn, 1) := by decide +kernel
theorem dX6_net_0 : decode cX6_net 0 = .ok (.iload_n 1, 1) := by decide +kernel
theorem dX6_net_1 : decode cX6_net 1 = .ok (.aload_n 0, 1) := by decide +kernel
theorem dX6_net_2 : decode cX6_net 2 = .ok (.getfield 89, 3) := by decide +kernel
theorem dX6_net_5 : decode cX6_net 5 = .ok (.invokestatic 99, 3) := by decide +kernel
theorem dX6_net_8 : decode cX6_net 8 = .ok (.istore_n 2, 1) := by decide +kernel
theorem dX6_net_9 : decode cX6_net 9 = .ok (.aload_n 0, 1) := by decide +kernel
theorem dX6_net_10 : decode cX6_net 10 = .ok (.iload_n 2, 1) := by decide +kernel
theorem dX6_net_11 : decode cX6_net 11 = .ok (.ifCond .ne 7, 3) := by decide +kernel
theorem dX6_net_14 : decode cX6_net 14 = .ok (.iconst 1, 1) := by decide +kernel
theorem dX6_net_15 : decode cX6_net 15 = .ok (.goto 4, 3) := by decide +kernel
theorem dX6_net_18 : decode cX6_net 18 = .ok (.iconst 0, 1) := by decide +kernel
theorem dX6_net_19 : decode cX6_net 19 = .ok (.iload_n 2, 1) := by decide +kernel
theorem dX6_net_20 : decode cX6_net 20 = .ok (.ifCond .eq 19, 3) := by decide +kernel
theorem dX6_net_23 : decode cX6_net 23 = .ok (.aload_n 0, 1) := by decide +kernel
theorem dX6_net_24 : decode cX6_net 24 = .ok (.getfield 26, 3) := by decide +kernel
theorem dX6_net_27 : decode cX6_net 27 = .ok (.iload_n 1, 1) := by decide +kernel
theorem dX6_net_28 : decode cX6_net 28 = .ok (.iaload, 1) := by decide +kernel
theorem dX6_net_29 : decode cX6_net 29 = .ok (.sipush 128, 3) := by decide +kernel
theorem dX6_net_32 : decode cX6_net 32 = .ok (.if_icmp .ne 7, 3) := by decide +kernel
theorem dX6_net_35 : decode cX6_net 35 = .ok (.iconst 1, 1) := by decide +kernel
theorem dX6_net_36 : decode cX6_net 36 = .ok (.goto 4, 3) := by decide +kernel
theorem dX6_net_39 : decode cX6_net 39 = .ok (.iconst 0, 1) := by decide +kernel
theorem dX6_net_40 : decode cX6_net 40 = .ok (.invokevirtual 107, 3) := by decide +kernel
theorem dX6_net_43 : decode cX6_net 43 = .ok (.ifCond .eq 5, 3) := by decide +kernel
theorem dX6_net_46 : decode cX6_net 46 = .ok (.iconst 0, 1) := by decide +kernel
theorem dX6_net_47 : decode cX6_net 47 = .ok (.ireturn, 1) := by decide +kernel
theorem dX6_net_48 : decode cX6_net 48 = .ok (.aload_n 0, 1) := by decide +kernel
theorem dX6_net_49 : decode cX6_net 49 = .ok (.iload_n 1, 1) := by decide +kernel
theorem dX6_net_50 : decode cX6_net 50 = .ok (.invokevirtual 114, 3) := by decide +kernel
theorem dX6_net_53 : decode cX6_net 53 = .ok (.aload_n 0, 1) := by decide +kernel
theorem dX6_net_54 : decode cX6_net 54 = .ok (.getfield 26, 3) := by decide +kernel
theorem dX6_net_57 : decode cX6_net 57 = .ok (.iload_n 1, 1) := by decide +kernel
theorem dX6_net_58 : decode cX6_net 58 = .ok (.dup2, 1) := by decide +kernel
theorem dX6_net_59 : decode cX6_net 59 = .ok (.iaload, 1) := by decide +kernel
theorem dX6_net_60 : decode cX6_net 60 = .ok (.iconst 1, 1) := by decide +kernel
theorem dX6_net_61 : decode cX6_net 61 = .ok (.iadd, 1) := by decide +kernel
theorem dX6_net_62 : decode cX6_net 62 = .ok (.iastore, 1) := by decide +kernel
theorem dX6_net_63 : decode cX6_net 63 = .ok (.aload_n 0, 1) := by decide +kernel
theorem dX6_net_64 : decode cX6_net 64 = .ok (.getfield 26, 3) := by decide +kernel
theorem dX6_net_67 : decode cX6_net 67 = .ok (.iload_n 1, 1) := by decide +kernel
theorem dX6_net_68 : decode cX6_net 68 = .ok (.iaload, 1) := by decide +kernel
theorem dX6_net_69 : decode cX6_net 69 = .ok (.iconst 1, 1) := by decide +kernel
theorem dX6_net_70 : decode cX6_net 70 = .ok (.isub, 1) := by decide +kernel
theorem dX6_net_71 : decode cX6_net 71 = .ok (.ireturn, 1) := by decide +kernel
theorem dX6_isPin_0 : decode cX6_isPin 0 = .ok (.iload_n 1, 1) := by decide +kernel
theorem dX6_isPin_1 : decode cX6_isPin 1 = .ok (.aload_n 0, 1) := by decide +kernel
theorem dX6_isPin_2 : decode cX6_isPin 2 = .ok (.getfield 89, 3) := by decide +kernel
theorem dX6_isPin_5 : decode cX6_isPin 5 = .ok (.invokestatic 99, 3) := by decide +kernel
theorem dX6_isPin_8 : decode cX6_isPin 8 = .ok (.ifCond .eq 21, 3) := by decide +kernel
theorem dX6_isPin_11 : decode cX6_isPin 11 = .ok (.iload_n 2, 1) := by decide +kernel
theorem dX6_isPin_12 : decode cX6_isPin 12 = .ok (.iconst (-1), 1) := by decide +kernel
theorem dX6_isPin_13 : decode cX6_isPin 13 = .ok (.if_icmp .eq 18, 3) := by decide +kernel
theorem dX6_isPin_16 : decode cX6_isPin 16 = .ok (.iload_n 2, 1) := by decide +kernel
theorem dX6_isPin_17 : decode cX6_isPin 17 = .ok (.aload_n 0, 1) := by decide +kernel
theorem dX6_isPin_18 : decode cX6_isPin 18 = .ok (.getfield 20, 3) := by decide +kernel
theorem dX6_isPin_21 : decode cX6_isPin 21 = .ok (.iload_n 1, 1) := by decide +kernel
theorem dX6_isPin_22 : decode cX6_isPin 22 = .ok (.iaload, 1) := by decide +kernel
theorem dX6_isPin_23 : decode cX6_isPin 23 = .ok (.invokestatic 99, 3) := by decide +kernel
theorem dX6_isPin_26 : decode cX6_isPin 26 = .ok (.ifCond .ne 5, 3) := by decide +kernel
theorem dX6_isPin_29 : decode cX6_isPin 29 = .ok (.iconst 0, 1) := by decide +kernel
theorem dX6_isPin_30 : decode cX6_isPin 30 = .ok (.ireturn, 1) := by decide +kernel
theorem dX6_isPin_31 : decode cX6_isPin 31 = .ok (.iload_n 2, 1) := by decide +kernel
theorem dX6_isPin_32 : decode cX6_isPin 32 = .ok (.iconst (-1), 1) := by decide +kernel
theorem dX6_isPin_33 : decode cX6_isPin 33 = .ok (.if_icmp .ne 7, 3) := by decide +kernel
theorem dX6_isPin_36 : decode cX6_isPin 36 = .ok (.iload_n 1, 1) := by decide +kernel
theorem dX6_isPin_37 : decode cX6_isPin 37 = .ok (.goto 14, 3) := by decide +kernel
theorem dX6_isPin_40 : decode cX6_isPin 40 = .ok (.aload_n 0, 1) := by decide +kernel
theorem dX6_isPin_41 : decode cX6_isPin 41 = .ok (.getfield 23, 3) := by decide +kernel
theorem dX6_isPin_44 : decode cX6_isPin 44 = .ok (.bipush 64, 2) := by decide +kernel
theorem dX6_isPin_46 : decode cX6_isPin 46 = .ok (.iload_n 1, 1) := by decide +kernel
theorem dX6_isPin_47 : decode cX6_isPin 47 = .ok (.imul, 1) := by decide +kernel
theorem dX6_isPin_48 : decode cX6_isPin 48 = .ok (.iload_n 2, 1) := by decide +kernel
theorem dX6_isPin_49 : decode cX6_isPin 49 = .ok (.iadd, 1) := by decide +kernel
theorem dX6_isPin_50 : decode cX6_isPin 50 = .ok (.iaload, 1) := by decide +kernel
theorem dX6_isPin_51 : decode cX6_isPin 51 = .ok (.istore 4, 2) := by decide +kernel
theorem dX6_isPin_53 : decode cX6_isPin 53 = .ok (.iload_n 3, 1) := by decide +kernel
theorem dX6_isPin_54 : decode cX6_isPin 54 = .ok (.aload_n 0, 1) := by decide +kernel
theorem dX6_isPin_55 : decode cX6_isPin 55 = .ok (.iload 4, 2) := by decide +kernel
theorem dX6_isPin_57 : decode cX6_isPin 57 = .ok (.invokevirtual 117, 3) := by decide +kernel
theorem dX6_isPin_60 : decode cX6_isPin 60 = .ok (.invokestatic 99, 3) := by decide +kernel
theorem dX6_isPin_63 : decode cX6_isPin 63 = .ok (.ireturn, 1) := by decide +kernel
theorem dX6_at_0 : decode cX6_at 0 = .ok (.sipush 8320, 3) := by decide +kernel
theorem dX6_at_3 : decode cX6_at 3 = .ok (.iload_n 0, 1) := by decide +kernel
theorem dX6_at_4 : decode cX6_at 4 = .ok (.imul, 1) := by decide +kernel
theorem dX6_at_5 : decode cX6_at 5 = .ok (.sipush 128, 3) := by decide +kernel
theorem dX6_at_8 : decode cX6_at 8 = .ok (.iload_n 1, 1) := by decide +kernel
theorem dX6_at_9 : decode cX6_at 9 = .ok (.iconst (-1), 1) := by decide +kernel
theorem dX6_at_10 : decode cX6_at 10 = .ok (.if_icmp .ne 8, 3) := by decide +kernel
theorem dX6_at_13 : decode cX6_at 13 = .ok (.bipush 64, 2) := by decide +kernel
theorem dX6_at_15 : decode cX6_at 15 = .ok (.goto 4, 3) := by decide +kernel
theorem dX6_at_18 : decode cX6_at 18 = .ok (.iload_n 1, 1) := by decide +kernel
theorem dX6_at_19 : decode cX6_at 19 = .ok (.imul, 1) := by decide +kernel
theorem dX6_at_20 : decode cX6_at 20 = .ok (.iadd, 1) := by decide +kernel
theorem dX6_at_21 : decode cX6_at 21 = .ok (.iload_n 2, 1) := by decide +kernel
theorem dX6_at_22 : decode cX6_at 22 = .ok (.iadd, 1) := by decide +kernel
theorem dX6_at_23 : decode cX6_at 23 = .ok (.ireturn, 1) := by decide +kernel
theorem dX6_join_0 : decode cX6_join 0 = .ok (.aload_n 0, 1) := by decide +kernel
theorem dX6_join_1 : decode cX6_join 1 = .ok (.aload_n 0, 1) := by decide +kernel
theorem dX6_join_2 : decode cX6_join 2 = .ok (.iload_n 1, 1) := by decide +kernel
theorem dX6_join_3 : decode cX6_join 3 = .ok (.iload_n 3, 1) := by decide +kernel
theorem dX6_join_4 : decode cX6_join 4 = .ok (.iload 4, 2) := by decide +kernel
theorem dX6_join_6 : decode cX6_join 6 = .ok (.invokevirtual 121, 3) := by decide +kernel
theorem dX6_join_9 : decode cX6_join 9 = .ok (.ifCond .eq 16, 3) := by decide +kernel
theorem dX6_join_12 : decode cX6_join 12 = .ok (.iload_n 2, 1) := by decide +kernel
theorem dX6_join_13 : decode cX6_join 13 = .ok (.aload_n 0, 1) := by decide +kernel
theorem dX6_join_14 : decode cX6_join 14 = .ok (.getfield 26, 3) := by decide +kernel
theorem dX6_join_17 : decode cX6_join 17 = .ok (.iload_n 1, 1) := by decide +kernel
theorem dX6_join_18 : decode cX6_join 18 = .ok (.iaload, 1) := by decide +kernel
theorem dX6_join_19 : decode cX6_join 19 = .ok (.invokestatic 99, 3) := by decide +kernel
theorem dX6_join_22 : decode cX6_join 22 = .ok (.ifCond .ne 7, 3) := by decide +kernel
theorem dX6_join_25 : decode cX6_join 25 = .ok (.iconst 1, 1) := by decide +kernel
theorem dX6_join_26 : decode cX6_join 26 = .ok (.goto 4, 3) := by decide +kernel
theorem dX6_join_29 : decode cX6_join 29 = .ok (.iconst 0, 1) := by decide +kernel
theorem dX6_join_30 : decode cX6_join 30 = .ok (.iconst 0, 1) := by decide +kernel
theorem dX6_join_31 : decode cX6_join 31 = .ok (.invokevirtual 107, 3) := by decide +kernel
theorem dX6_join_34 : decode cX6_join 34 = .ok (.ifCond .eq 5, 3) := by decide +kernel
theorem dX6_join_37 : decode cX6_join 37 = .ok (.iconst 0, 1) := by decide +kernel
theorem dX6_join_38 : decode cX6_join 38 = .ok (.ireturn, 1) := by decide +kernel
theorem dX6_join_39 : decode cX6_join 39 = .ok (.iload_n 1, 1) := by decide +kernel
theorem dX6_join_40 : decode cX6_join 40 = .ok (.iload_n 3, 1) := by decide +kernel
theorem dX6_join_41 : decode cX6_join 41 = .ok (.iload 4, 2) := by decide +kernel
theorem dX6_join_43 : decode cX6_join 43 = .ok (.invokestatic 125, 3) := by decide +kernel
theorem dX6_join_46 : decode cX6_join 46 = .ok (.istore 5, 2) := by decide +kernel
theorem dX6_join_48 : decode cX6_join 48 = .ok (.aload_n 0, 1) := by decide +kernel
theorem dX6_join_49 : decode cX6_join 49 = .ok (.getfield 33, 3) := by decide +kernel
theorem dX6_join_52 : decode cX6_join 52 = .ok (.iload 5, 2) := by decide +kernel
theorem dX6_join_54 : decode cX6_join 54 = .ok (.iaload, 1) := by decide +kernel
theorem dX6_join_55 : decode cX6_join 55 = .ok (.iload_n 2, 1) := by decide +kernel
theorem dX6_join_56 : decode cX6_join 56 = .ok (.if_icmp .ne 5, 3) := by decide +kernel
theorem dX6_join_59 : decode cX6_join 59 = .ok (.iconst 0, 1) := by decide +kernel
theorem dX6_join_60 : decode cX6_join 60 = .ok (.ireturn, 1) := by decide +kernel
theorem dX6_join_61 : decode cX6_join 61 = .ok (.aload_n 0, 1) := by decide +kernel
theorem dX6_join_62 : decode cX6_join 62 = .ok (.iload_n 1, 1) := by decide +kernel
theorem dX6_join_63 : decode cX6_join 63 = .ok (.invokevirtual 114, 3) := by decide +kernel
theorem dX6_join_66 : decode cX6_join 66 = .ok (.aload_n 0, 1) := by decide +kernel
theorem dX6_join_67 : decode cX6_join 67 = .ok (.getfield 33, 3) := by decide +kernel
theorem dX6_join_70 : decode cX6_join 70 = .ok (.iload 5, 2) := by decide +kernel
theorem dX6_join_72 : decode cX6_join 72 = .ok (.iload_n 2, 1) := by decide +kernel
theorem dX6_join_73 : decode cX6_join 73 = .ok (.iastore, 1) := by decide +kernel
theorem dX6_join_74 : decode cX6_join 74 = .ok (.iconst 1, 1) := by decide +kernel
theorem dX6_join_75 : decode cX6_join 75 = .ok (.ireturn, 1) := by decide +kernel
theorem dX6_part_0 : decode cX6_part 0 = .ok (.aload_n 0, 1) := by decide +kernel
theorem dX6_part_1 : decode cX6_part 1 = .ok (.aload_n 0, 1) := by decide +kernel
theorem dX6_part_2 : decode cX6_part 2 = .ok (.iload_n 1, 1) := by decide +kernel
theorem dX6_part_3 : decode cX6_part 3 = .ok (.iload_n 2, 1) := by decide +kernel
theorem dX6_part_4 : decode cX6_part 4 = .ok (.iload_n 3, 1) := by decide +kernel
theorem dX6_part_5 : decode cX6_part 5 = .ok (.invokevirtual 121, 3) := by decide +kernel
theorem dX6_part_8 : decode cX6_part 8 = .ok (.ifCond .ne 7, 3) := by decide +kernel
theorem dX6_part_11 : decode cX6_part 11 = .ok (.iconst 1, 1) := by decide +kernel
theorem dX6_part_12 : decode cX6_part 12 = .ok (.goto 4, 3) := by decide +kernel
theorem dX6_part_15 : decode cX6_part 15 = .ok (.iconst 0, 1) := by decide +kernel
theorem dX6_part_16 : decode cX6_part 16 = .ok (.iconst 0, 1) := by decide +kernel
theorem dX6_part_17 : decode cX6_part 17 = .ok (.invokevirtual 107, 3) := by decide +kernel
theorem dX6_part_20 : decode cX6_part 20 = .ok (.ifCond .eq 5, 3) := by decide +kernel
theorem dX6_part_23 : decode cX6_part 23 = .ok (.iconst 0, 1) := by decide +kernel
theorem dX6_part_24 : decode cX6_part 24 = .ok (.ireturn, 1) := by decide +kernel
theorem dX6_part_25 : decode cX6_part 25 = .ok (.iload_n 1, 1) := by decide +kernel
theorem dX6_part_26 : decode cX6_part 26 = .ok (.iload_n 2, 1) := by decide +kernel
theorem dX6_part_27 : decode cX6_part 27 = .ok (.iload_n 3, 1) := by decide +kernel
theorem dX6_part_28 : decode cX6_part 28 = .ok (.invokestatic 125, 3) := by decide +kernel
theorem dX6_part_31 : decode cX6_part 31 = .ok (.istore 4, 2) := by decide +kernel
theorem dX6_part_33 : decode cX6_part 33 = .ok (.aload_n 0, 1) := by decide +kernel
theorem dX6_part_34 : decode cX6_part 34 = .ok (.getfield 33, 3) := by decide +kernel
theorem dX6_part_37 : decode cX6_part 37 = .ok (.iload 4, 2) := by decide +kernel
theorem dX6_part_39 : decode cX6_part 39 = .ok (.iaload, 1) := by decide +kernel
theorem dX6_part_40 : decode cX6_part 40 = .ok (.iconst (-1), 1) := by decide +kernel
theorem dX6_part_41 : decode cX6_part 41 = .ok (.if_icmp .ne 5, 3) := by decide +kernel
theorem dX6_part_44 : decode cX6_part 44 = .ok (.iconst 0, 1) := by decide +kernel
theorem dX6_part_45 : decode cX6_part 45 = .ok (.ireturn, 1) := by decide +kernel
theorem dX6_part_46 : decode cX6_part 46 = .ok (.aload_n 0, 1) := by decide +kernel
theorem dX6_part_47 : decode cX6_part 47 = .ok (.iload_n 1, 1) := by decide +kernel
theorem dX6_part_48 : decode cX6_part 48 = .ok (.invokevirtual 114, 3) := by decide +kernel
theorem dX6_part_51 : decode cX6_part 51 = .ok (.aload_n 0, 1) := by decide +kernel
theorem dX6_part_52 : decode cX6_part 52 = .ok (.getfield 33, 3) := by decide +kernel
theorem dX6_part_55 : decode cX6_part 55 = .ok (.iload 4, 2) := by decide +kernel
theorem dX6_part_57 : decode cX6_part 57 = .ok (.iconst (-1), 1) := by decide +kernel
theorem dX6_part_58 : decode cX6_part 58 = .ok (.iastore, 1) := by decide +kernel
theorem dX6_part_59 : decode cX6_part 59 = .ok (.iconst 1, 1) := by decide +kernel
theorem dX6_part_60 : decode cX6_part 60 = .ok (.ireturn, 1) := by decide +kernel
theorem dX6_netOf_0 : decode cX6_netOf 0 = .ok (.aload_n 0, 1) := by decide +kernel
theorem dX6_netOf_1 : decode cX6_netOf 1 = .ok (.aload_n 0, 1) := by decide +kernel
theorem dX6_netOf_2 : decode cX6_netOf 2 = .ok (.iload_n 1, 1) := by decide +kernel
theorem dX6_netOf_3 : decode cX6_netOf 3 = .ok (.iload_n 2, 1) := by decide +kernel
theorem dX6_netOf_4 : decode cX6_netOf 4 = .ok (.iload_n 3, 1) := by decide +kernel
theorem dX6_netOf_5 : decode cX6_netOf 5 = .ok (.invokevirtual 121, 3) := by decide +kernel
theorem dX6_netOf_8 : decode cX6_netOf 8 = .ok (.ifCond .ne 7, 3) := by decide +kernel
theorem dX6_netOf_11 : decode cX6_netOf 11 = .ok (.iconst 1, 1) := by decide +kernel
theorem dX6_netOf_12 : decode cX6_netOf 12 = .ok (.goto 4, 3) := by decide +kernel
theorem dX6_netOf_15 : decode cX6_netOf 15 = .ok (.iconst 0, 1) := by decide +kernel
theorem dX6_netOf_16 : decode cX6_netOf 16 = .ok (.iconst 0, 1) := by decide +kernel
theorem dX6_netOf_17 : decode cX6_netOf 17 = .ok (.invokevirtual 107, 3) := by decide +kernel
theorem dX6_netOf_20 : decode cX6_netOf 20 = .ok (.ifCond .eq 7, 3) := by decide +kernel
theorem dX6_netOf_23 : decode cX6_netOf 23 = .ok (.iconst 0, 1) := by decide +kernel
theorem dX6_netOf_24 : decode cX6_netOf 24 = .ok (.goto 14, 3) := by decide +kernel
theorem dX6_netOf_27 : decode cX6_netOf 27 = .ok (.aload_n 0, 1) := by decide +kernel
theorem dX6_netOf_28 : decode cX6_netOf 28 = .ok (.getfield 33, 3) := by decide +kernel
theorem dX6_netOf_31 : decode cX6_netOf 31 = .ok (.iload_n 1, 1) := by decide +kernel
theorem dX6_netOf_32 : decode cX6_netOf 32 = .ok (.iload_n 2, 1) := by decide +kernel
theorem dX6_netOf_33 : decode cX6_netOf 33 = .ok (.iload_n 3, 1) := by decide +kernel
theorem dX6_netOf_34 : decode cX6_netOf 34 = .ok (.invokestatic 125, 3) := by decide +kernel
theorem dX6_netOf_37 : decode cX6_netOf 37 = .ok (.iaload, 1) := by decide +kernel
theorem dX6_netOf_38 : decode cX6_netOf 38 = .ok (.ireturn, 1) := by decide +kernel
theorem dX6_drives_0 : decode cX6_drives 0 = .ok (.iload_n 2, 1) := by decide +kernel
theorem dX6_drives_1 : decode cX6_drives 1 = .ok (.iconst (-1), 1) := by decide +kernel
theorem dX6_drives_2 : decode cX6_drives 2 = .ok (.if_icmp .ne 20, 3) := by decide +kernel
theorem dX6_drives_5 : decode cX6_drives 5 = .ok (.aload_n 0, 1) := by decide +kernel
theorem dX6_drives_6 : decode cX6_drives 6 = .ok (.iload_n 1, 1) := by decide +kernel
theorem dX6_drives_7 : decode cX6_drives 7 = .ok (.iload_n 3, 1) := by decide +kernel
theorem dX6_drives_8 : decode cX6_drives 8 = .ok (.invokevirtual 129, 3) := by decide +kernel
theorem dX6_drives_11 : decode cX6_drives 11 = .ok (.ifCond .ne 7, 3) := by decide +kernel
theorem dX6_drives_14 : decode cX6_drives 14 = .ok (.iconst 1, 1) := by decide +kernel
theorem dX6_drives_15 : decode cX6_drives 15 = .ok (.goto 23, 3) := by decide +kernel
theorem dX6_drives_18 : decode cX6_drives 18 = .ok (.iconst 0, 1) := by decide +kernel
theorem dX6_drives_19 : decode cX6_drives 19 = .ok (.goto 19, 3) := by decide +kernel
theorem dX6_drives_22 : decode cX6_drives 22 = .ok (.aload_n 0, 1) := by decide +kernel
theorem dX6_drives_23 : decode cX6_drives 23 = .ok (.aload_n 0, 1) := by decide +kernel
theorem dX6_drives_24 : decode cX6_drives 24 = .ok (.getfield 23, 3) := by decide +kernel
theorem dX6_drives_27 : decode cX6_drives 27 = .ok (.bipush 64, 2) := by decide +kernel
theorem dX6_drives_29 : decode cX6_drives 29 = .ok (.iload_n 1, 1) := by decide +kernel
theorem dX6_drives_30 : decode cX6_drives 30 = .ok (.imul, 1) := by decide +kernel
theorem dX6_drives_31 : decode cX6_drives 31 = .ok (.iload_n 2, 1) := by decide +kernel
theorem dX6_drives_32 : decode cX6_drives 32 = .ok (.iadd, 1) := by decide +kernel
theorem dX6_drives_33 : decode cX6_drives 33 = .ok (.iaload, 1) := by decide +kernel
theorem dX6_drives_34 : decode cX6_drives 34 = .ok (.iload_n 3, 1) := by decide +kernel
theorem dX6_drives_35 : decode cX6_drives 35 = .ok (.invokevirtual 129, 3) := by decide +kernel
theorem dX6_drives_38 : decode cX6_drives 38 = .ok (.ireturn, 1) := by decide +kernel
theorem dX6_countPins_0 : decode cX6_countPins 0 = .ok (.iconst 0, 1) := by decide +kernel
theorem dX6_countPins_1 : decode cX6_countPins 1 = .ok (.istore 4, 2) := by decide +kernel
theorem dX6_countPins_3 : decode cX6_countPins 3 = .ok (.iconst (-1), 1) := by decide +kernel
theorem dX6_countPins_4 : decode cX6_countPins 4 = .ok (.istore 5, 2) := by decide +kernel
theorem dX6_countPins_6 : decode cX6_countPins 6 = .ok (.iload 5, 2) := by decide +kernel
theorem dX6_countPins_8 : decode cX6_countPins 8 = .ok (.aload_n 0, 1) := by decide +kernel
theorem dX6_countPins_9 : decode cX6_countPins 9 = .ok (.getfield 20, 3) := by decide +kernel
theorem dX6_countPins_12 : decode cX6_countPins 12 = .ok (.iload_n 1, 1) := by decide +kernel
theorem dX6_countPins_13 : decode cX6_countPins 13 = .ok (.iaload, 1) := by decide +kernel
theorem dX6_countPins_14 : decode cX6_countPins 14 = .ok (.if_icmp .ge 89, 3) := by decide +kernel
theorem dX6_countPins_17 : decode cX6_countPins 17 = .ok (.aload_n 0, 1) := by decide +kernel
theorem dX6_countPins_18 : decode cX6_countPins 18 = .ok (.iload 5, 2) := by decide +kernel
theorem dX6_countPins_20 : decode cX6_countPins 20 = .ok (.iconst (-1), 1) := by decide +kernel
theorem dX6_countPins_21 : decode cX6_countPins 21 = .ok (.if_icmp .ne 7, 3) := by decide +kernel
theorem dX6_countPins_24 : decode cX6_countPins 24 = .ok (.iload_n 1, 1) := by decide +kernel
theorem dX6_countPins_25 : decode cX6_countPins 25 = .ok (.goto 15, 3) := by decide +kernel
theorem dX6_countPins_28 : decode cX6_countPins 28 = .ok (.aload_n 0, 1) := by decide +kernel
theorem dX6_countPins_29 : decode cX6_countPins 29 = .ok (.getfield 23, 3) := by decide +kernel
theorem dX6_countPins_32 : decode cX6_countPins 32 = .ok (.bipush 64, 2) := by decide +kernel
theorem dX6_countPins_34 : decode cX6_countPins 34 = .ok (.iload_n 1, 1) := by decide +kernel
theorem dX6_countPins_35 : decode cX6_countPins 35 = .ok (.imul, 1) := by decide +kernel
theorem dX6_countPins_36 : decode cX6_countPins 36 = .ok (.iload 5, 2) := by decide +kernel
theorem dX6_countPins_38 : decode cX6_countPins 38 = .ok (.iadd, 1) := by decide +kernel
theorem dX6_countPins_39 : decode cX6_countPins 39 = .ok (.iaload, 1) := by decide +kernel
theorem dX6_countPins_40 : decode cX6_countPins 40 = .ok (.invokevirtual 117, 3) := by decide +kernel
theorem dX6_countPins_43 : decode cX6_countPins 43 = .ok (.istore 6, 2) := by decide +kernel
theorem dX6_countPins_45 : decode cX6_countPins 45 = .ok (.iconst 0, 1) := by decide +kernel
theorem dX6_countPins_46 : decode cX6_countPins 46 = .ok (.istore 7, 2) := by decide +kernel
theorem dX6_countPins_48 : decode cX6_countPins 48 = .ok (.iload 7, 2) := by decide +kernel
theorem dX6_countPins_50 : decode cX6_countPins 50 = .ok (.iload 6, 2) := by decide +kernel
theorem dX6_countPins_52 : decode cX6_countPins 52 = .ok (.if_icmp .ge 45, 3) := by decide +kernel
theorem dX6_countPins_55 : decode cX6_countPins 55 = .ok (.aload_n 0, 1) := by decide +kernel
theorem dX6_countPins_56 : decode cX6_countPins 56 = .ok (.getfield 33, 3) := by decide +kernel
theorem dX6_countPins_59 : decode cX6_countPins 59 = .ok (.iload_n 1, 1) := by decide +kernel
theorem dX6_countPins_60 : decode cX6_countPins 60 = .ok (.iload 5, 2) := by decide +kernel
theorem dX6_countPins_62 : decode cX6_countPins 62 = .ok (.iload 7, 2) := by decide +kernel
theorem dX6_countPins_64 : decode cX6_countPins 64 = .ok (.invokestatic 125, 3) := by decide +kernel
theorem dX6_countPins_67 : decode cX6_countPins 67 = .ok (.iaload, 1) := by decide +kernel
theorem dX6_countPins_68 : decode cX6_countPins 68 = .ok (.iload_n 2, 1) := by decide +kernel
theorem dX6_countPins_69 : decode cX6_countPins 69 = .ok (.if_icmp .ne 22, 3) := by decide +kernel
theorem dX6_countPins_72 : decode cX6_countPins 72 = .ok (.iload_n 3, 1) := by decide +kernel
theorem dX6_countPins_73 : decode cX6_countPins 73 = .ok (.ifCond .eq 15, 3) := by decide +kernel
theorem dX6_countPins_76 : decode cX6_countPins 76 = .ok (.aload_n 0, 1) := by decide +kernel
theorem dX6_countPins_77 : decode cX6_countPins 77 = .ok (.iload_n 1, 1) := by decide +kernel
theorem dX6_countPins_78 : decode cX6_countPins 78 = .ok (.iload 5, 2) := by decide +kernel
theorem dX6_countPins_80 : decode cX6_countPins 80 = .ok (.iload 7, 2) := by decide +kernel
theorem dX6_countPins_82 : decode cX6_countPins 82 = .ok (.invokevirtual 132, 3) := by decide +kernel
theorem dX6_countPins_85 : decode cX6_countPins 85 = .ok (.ifCond .eq 6, 3) := by decide +kernel
theorem dX6_countPins_88 : decode cX6_countPins 88 = .ok (.iinc 4 1, 3) := by decide +kernel
theorem dX6_countPins_91 : decode cX6_countPins 91 = .ok (.iinc 7 1, 3) := by decide +kernel
theorem dX6_countPins_94 : decode cX6_countPins 94 = .ok (.goto (-46), 3) := by decide +kernel
theorem dX6_countPins_97 : decode cX6_countPins 97 = .ok (.iinc 5 1, 3) := by decide +kernel
theorem dX6_countPins_100 : decode cX6_countPins 100 = .ok (.goto (-94), 3) := by decide +kernel
theorem dX6_countPins_103 : decode cX6_countPins 103 = .ok (.iload 4, 2) := by decide +kernel
theorem dX6_countPins_105 : decode cX6_countPins 105 = .ok (.ireturn, 1) := by decide +kernel
theorem dX6_pins_0 : decode cX6_pins 0 = .ok (.iload_n 1, 1) := by decide +kernel
theorem dX6_pins_1 : decode cX6_pins 1 = .ok (.aload_n 0, 1) := by decide +kernel
theorem dX6_pins_2 : decode cX6_pins 2 = .ok (.getfield 89, 3) := by decide +kernel
theorem dX6_pins_5 : decode cX6_pins 5 = .ok (.invokestatic 99, 3) := by decide +kernel
theorem dX6_pins_8 : decode cX6_pins 8 = .ok (.ifCond .eq 20, 3) := by decide +kernel
theorem dX6_pins_11 : decode cX6_pins 11 = .ok (.iload_n 2, 1) := by decide +kernel
theorem dX6_pins_12 : decode cX6_pins 12 = .ok (.aload_n 0, 1) := by decide +kernel
theorem dX6_pins_13 : decode cX6_pins 13 = .ok (.getfield 26, 3) := by decide +kernel
theorem dX6_pins_16 : decode cX6_pins 16 = .ok (.iload_n 1, 1) := by decide +kernel
theorem dX6_pins_17 : decode cX6_pins 17 = .ok (.iaload, 1) := by decide +kernel
theorem dX6_pins_18 : decode cX6_pins 18 = .ok (.invokestatic 99, 3) := by decide +kernel
theorem dX6_pins_21 : decode cX6_pins 21 = .ok (.ifCond .eq 7, 3) := by decide +kernel
theorem dX6_pins_24 : decode cX6_pins 24 = .ok (.iconst 1, 1) := by decide +kernel
theorem dX6_pins_25 : decode cX6_pins 25 = .ok (.goto 4, 3) := by decide +kernel
theorem dX6_pins_28 : decode cX6_pins 28 = .ok (.iconst 0, 1) := by decide +kernel
theorem dX6_pins_29 : decode cX6_pins 29 = .ok (.istore_n 3, 1) := by decide +kernel
theorem dX6_pins_30 : decode cX6_pins 30 = .ok (.aload_n 0, 1) := by decide +kernel
theorem dX6_pins_31 : decode cX6_pins 31 = .ok (.iload_n 3, 1) := by decide +kernel
theorem dX6_pins_32 : decode cX6_pins 32 = .ok (.ifCond .ne 7, 3) := by decide +kernel
theorem dX6_pins_35 : decode cX6_pins 35 = .ok (.iconst 1, 1) := by decide +kernel
theorem dX6_pins_36 : decode cX6_pins 36 = .ok (.goto 4, 3) := by decide +kernel
theorem dX6_pins_39 : decode cX6_pins 39 = .ok (.iconst 0, 1) := by decide +kernel
theorem dX6_pins_40 : decode cX6_pins 40 = .ok (.iconst 0, 1) := by decide +kernel
theorem dX6_pins_41 : decode cX6_pins 41 = .ok (.invokevirtual 107, 3) := by decide +kernel
theorem dX6_pins_44 : decode cX6_pins 44 = .ok (.ifCond .eq 7, 3) := by decide +kernel
theorem dX6_pins_47 : decode cX6_pins 47 = .ok (.iconst 0, 1) := by decide +kernel
theorem dX6_pins_48 : decode cX6_pins 48 = .ok (.goto 10, 3) := by decide +kernel
theorem dX6_pins_51 : decode cX6_pins 51 = .ok (.aload_n 0, 1) := by decide +kernel
theorem dX6_pins_52 : decode cX6_pins 52 = .ok (.iload_n 1, 1) := by decide +kernel
theorem dX6_pins_53 : decode cX6_pins 53 = .ok (.iload_n 2, 1) := by decide +kernel
theorem dX6_pins_54 : decode cX6_pins 54 = .ok (.iconst 0, 1) := by decide +kernel
theorem dX6_pins_55 : decode cX6_pins 55 = .ok (.invokevirtual 135, 3) := by decide +kernel
theorem dX6_pins_58 : decode cX6_pins 58 = .ok (.ireturn, 1) := by decide +kernel
theorem dX6_pin_0 : decode cX6_pin 0 = .ok (.iload_n 1, 1) := by decide +kernel
theorem dX6_pin_1 : decode cX6_pin 1 = .ok (.aload_n 0, 1) := by decide +kernel
theorem dX6_pin_2 : decode cX6_pin 2 = .ok (.getfield 89, 3) := by decide +kernel
theorem dX6_pin_5 : decode cX6_pin 5 = .ok (.invokestatic 99, 3) := by decide +kernel
theorem dX6_pin_8 : decode cX6_pin 8 = .ok (.ifCond .eq 43, 3) := by decide +kernel
theorem dX6_pin_11 : decode cX6_pin 11 = .ok (.iload_n 2, 1) := by decide +kernel
theorem dX6_pin_12 : decode cX6_pin 12 = .ok (.aload_n 0, 1) := by decide +kernel
theorem dX6_pin_13 : decode cX6_pin 13 = .ok (.getfield 26, 3) := by decide +kernel
theorem dX6_pin_16 : decode cX6_pin 16 = .ok (.iload_n 1, 1) := by decide +kernel
theorem dX6_pin_17 : decode cX6_pin 17 = .ok (.iaload, 1) := by decide +kernel
theorem dX6_pin_18 : decode cX6_pin 18 = .ok (.invokestatic 99, 3) := by decide +kernel
theorem dX6_pin_21 : decode cX6_pin 21 = .ok (.ifCond .eq 30, 3) := by decide +kernel
theorem dX6_pin_24 : decode cX6_pin 24 = .ok (.iload 4, 2) := by decide +kernel
theorem dX6_pin_26 : decode cX6_pin 26 = .ok (.iconst 3, 1) := by decide +kernel
theorem dX6_pin_27 : decode cX6_pin 27 = .ok (.invokestatic 99, 3) := by decide +kernel
theorem dX6_pin_30 : decode cX6_pin 30 = .ok (.ifCond .eq 21, 3) := by decide +kernel
theorem dX6_pin_33 : decode cX6_pin 33 = .ok (.iload_n 3, 1) := by decide +kernel
theorem dX6_pin_34 : decode cX6_pin 34 = .ok (.aload_n 0, 1) := by decide +kernel
theorem dX6_pin_35 : decode cX6_pin 35 = .ok (.iload_n 1, 1) := by decide +kernel
theorem dX6_pin_36 : decode cX6_pin 36 = .ok (.iload_n 2, 1) := by decide +kernel
theorem dX6_pin_37 : decode cX6_pin 37 = .ok (.iconst 0, 1) := by decide +kernel
theorem dX6_pin_38 : decode cX6_pin 38 = .ok (.invokevirtual 135, 3) := by decide +kernel
theorem dX6_pin_41 : decode cX6_pin 41 = .ok (.invokestatic 99, 3) := by decide +kernel
theorem dX6_pin_44 : decode cX6_pin 44 = .ok (.ifCond .eq 7, 3) := by decide +kernel
theorem dX6_pin_47 : decode cX6_pin 47 = .ok (.iconst 1, 1) := by decide +kernel
theorem dX6_pin_48 : decode cX6_pin 48 = .ok (.goto 4, 3) := by decide +kernel
theorem dX6_pin_51 : decode cX6_pin 51 = .ok (.iconst 0, 1) := by decide +kernel
theorem dX6_pin_52 : decode cX6_pin 52 = .ok (.istore 5, 2) := by decide +kernel
theorem dX6_pin_54 : decode cX6_pin 54 = .ok (.aload_n 0, 1) := by decide +kernel
theorem dX6_pin_55 : decode cX6_pin 55 = .ok (.iload 5, 2) := by decide +kernel
theorem dX6_pin_57 : decode cX6_pin 57 = .ok (.ifCond .ne 7, 3) := by decide +kernel
theorem dX6_pin_60 : decode cX6_pin 60 = .ok (.iconst 1, 1) := by decide +kernel
theorem dX6_pin_61 : decode cX6_pin 61 = .ok (.goto 4, 3) := by decide +kernel
theorem dX6_pin_64 : decode cX6_pin 64 = .ok (.iconst 0, 1) := by decide +kernel
theorem dX6_pin_65 : decode cX6_pin 65 = .ok (.iconst 0, 1) := by decide +kernel
theorem dX6_pin_66 : decode cX6_pin 66 = .ok (.invokevirtual 107, 3) := by decide +kernel
theorem dX6_pin_69 : decode cX6_pin 69 = .ok (.ifCond .eq 5, 3) := by decide +kernel
theorem dX6_pin_72 : decode cX6_pin 72 = .ok (.iconst 0, 1) := by decide +kernel
theorem dX6_pin_73 : decode cX6_pin 73 = .ok (.ireturn, 1) := by decide +kernel
theorem dX6_pin_74 : decode cX6_pin 74 = .ok (.iload_n 3, 1) := by decide +kernel
theorem dX6_pin_75 : decode cX6_pin 75 = .ok (.istore 6, 2) := by decide +kernel
theorem dX6_pin_77 : decode cX6_pin 77 = .ok (.iconst (-1), 1) := by decide +kernel
theorem dX6_pin_78 : decode cX6_pin 78 = .ok (.istore 7, 2) := by decide +kernel
theorem dX6_pin_80 : decode cX6_pin 80 = .ok (.iload 7, 2) := by decide +kernel
theorem dX6_pin_82 : decode cX6_pin 82 = .ok (.aload_n 0, 1) := by decide +kernel
theorem dX6_pin_83 : decode cX6_pin 83 = .ok (.getfield 20, 3) := by decide +kernel
theorem dX6_pin_86 : decode cX6_pin 86 = .ok (.iload_n 1, 1) := by decide +kernel
theorem dX6_pin_87 : decode cX6_pin 87 = .ok (.iaload, 1) := by decide +kernel
theorem dX6_pin_88 : decode cX6_pin 88 = .ok (.if_icmp .ge 117, 3) := by decide +kernel
theorem dX6_pin_91 : decode cX6_pin 91 = .ok (.aload_n 0, 1) := by decide +kernel
theorem dX6_pin_92 : decode cX6_pin 92 = .ok (.iload 7, 2) := by decide +kernel
theorem dX6_pin_94 : decode cX6_pin 94 = .ok (.iconst (-1), 1) := by decide +kernel
theorem dX6_pin_95 : decode cX6_pin 95 = .ok (.if_icmp .ne 7, 3) := by decide +kernel
theorem dX6_pin_98 : decode cX6_pin 98 = .ok (.iload_n 1, 1) := by decide +kernel
theorem dX6_pin_99 : decode cX6_pin 99 = .ok (.goto 15, 3) := by decide +kernel
theorem dX6_pin_102 : decode cX6_pin 102 = .ok (.aload_n 0, 1) := by decide +kernel
theorem dX6_pin_103 : decode cX6_pin 103 = .ok (.getfield 23, 3) := by decide +kernel
theorem dX6_pin_106 : decode cX6_pin 106 = .ok (.bipush 64, 2) := by decide +kernel
theorem dX6_pin_108 : decode cX6_pin 108 = .ok (.iload_n 1, 1) := by decide +kernel
theorem dX6_pin_109 : decode cX6_pin 109 = .ok (.imul, 1) := by decide +kernel
theorem dX6_pin_110 : decode cX6_pin 110 = .ok (.iload 7, 2) := by decide +kernel
theorem dX6_pin_112 : decode cX6_pin 112 = .ok (.iadd, 1) := by decide +kernel
theorem dX6_pin_113 : decode cX6_pin 113 = .ok (.iaload, 1) := by decide +kernel
theorem dX6_pin_114 : decode cX6_pin 114 = .ok (.invokevirtual 117, 3) := by decide +kernel
theorem dX6_pin_117 : decode cX6_pin 117 = .ok (.istore 8, 2) := by decide +kernel
theorem dX6_pin_119 : decode cX6_pin 119 = .ok (.iconst 0, 1) := by decide +kernel
theorem dX6_pin_120 : decode cX6_pin 120 = .ok (.istore 9, 2) := by decide +kernel
theorem dX6_pin_122 : decode cX6_pin 122 = .ok (.iload 9, 2) := by decide +kernel
theorem dX6_pin_124 : decode cX6_pin 124 = .ok (.iload 8, 2) := by decide +kernel
theorem dX6_pin_126 : decode cX6_pin 126 = .ok (.if_icmp .ge 73, 3) := by decide +kernel
theorem dX6_pin_129 : decode cX6_pin 129 = .ok (.aload_n 0, 1) := by decide +kernel
theorem dX6_pin_130 : decode cX6_pin 130 = .ok (.getfield 33, 3) := by decide +kernel
theorem dX6_pin_133 : decode cX6_pin 133 = .ok (.iload_n 1, 1) := by decide +kernel
theorem dX6_pin_134 : decode cX6_pin 134 = .ok (.iload 7, 2) := by decide +kernel
theorem dX6_pin_136 : decode cX6_pin 136 = .ok (.iload 9, 2) := by decide +kernel
theorem dX6_pin_138 : decode cX6_pin 138 = .ok (.invokestatic 125, 3) := by decide +kernel
theorem dX6_pin_141 : decode cX6_pin 141 = .ok (.iaload, 1) := by decide +kernel
theorem dX6_pin_142 : decode cX6_pin 142 = .ok (.iload_n 2, 1) := by decide +kernel
theorem dX6_pin_143 : decode cX6_pin 143 = .ok (.if_icmp .ne 50, 3) := by decide +kernel
theorem dX6_pin_146 : decode cX6_pin 146 = .ok (.iload 6, 2) := by decide +kernel
theorem dX6_pin_148 : decode cX6_pin 148 = .ok (.ifCond .ne 42, 3) := by decide +kernel
theorem dX6_pin_151 : decode cX6_pin 151 = .ok (.iload 4, 2) := by decide +kernel
theorem dX6_pin_153 : decode cX6_pin 153 = .ok (.ifCond .ne 8, 3) := by decide +kernel
theorem dX6_pin_156 : decode cX6_pin 156 = .ok (.iload 7, 2) := by decide +kernel
theorem dX6_pin_158 : decode cX6_pin 158 = .ok (.goto 31, 3) := by decide +kernel
theorem dX6_pin_161 : decode cX6_pin 161 = .ok (.iload 4, 2) := by decide +kernel
theorem dX6_pin_163 : decode cX6_pin 163 = .ok (.iconst 1, 1) := by decide +kernel
theorem dX6_pin_164 : decode cX6_pin 164 = .ok (.if_icmp .ne 8, 3) := by decide +kernel
theorem dX6_pin_167 : decode cX6_pin 167 = .ok (.iload 9, 2) := by decide +kernel
theorem dX6_pin_169 : decode cX6_pin 169 = .ok (.goto 20, 3) := by decide +kernel
theorem dX6_pin_172 : decode cX6_pin 172 = .ok (.aload_n 0, 1) := by decide +kernel
theorem dX6_pin_173 : decode cX6_pin 173 = .ok (.iload_n 1, 1) := by decide +kernel
theorem dX6_pin_174 : decode cX6_pin 174 = .ok (.iload 7, 2) := by decide +kernel
theorem dX6_pin_176 : decode cX6_pin 176 = .ok (.iload 9, 2) := by decide +kernel
theorem dX6_pin_178 : decode cX6_pin 178 = .ok (.invokevirtual 132, 3) := by decide +kernel
theorem dX6_pin_181 : decode cX6_pin 181 = .ok (.ifCond .eq 7, 3) := by decide +kernel
theorem dX6_pin_184 : decode cX6_pin 184 = .ok (.iconst 1, 1) := by decide +kernel
theorem dX6_pin_185 : decode cX6_pin 185 = .ok (.goto 4, 3) := by decide +kernel
theorem dX6_pin_188 : decode cX6_pin 188 = .ok (.iconst 0, 1) := by decide +kernel
theorem dX6_pin_189 : decode cX6_pin 189 = .ok (.ireturn, 1) := by decide +kernel
theorem dX6_pin_190 : decode cX6_pin 190 = .ok (.iinc 6 (-1), 3) := by decide +kernel
theorem dX6_pin_193 : decode cX6_pin 193 = .ok (.iinc 9 1, 3) := by decide +kernel
theorem dX6_pin_196 : decode cX6_pin 196 = .ok (.goto (-74), 3) := by decide +kernel
theorem dX6_pin_199 : decode cX6_pin 199 = .ok (.iinc 7 1, 3) := by decide +kernel
theorem dX6_pin_202 : decode cX6_pin 202 = .ok (.goto (-122), 3) := by decide +kernel
theorem dX6_pin_205 : decode cX6_pin 205 = .ok (.iconst 0, 1) := by decide +kernel
theorem dX6_pin_206 : decode cX6_pin 206 = .ok (.ireturn, 1) := by decide +kernel
theorem dX6_copy_0 : decode cX6_copy 0 = .ok (.aload_n 0, 1) := by decide +kernel
theorem dX6_copy_1 : decode cX6_copy 1 = .ok (.iload_n 1, 1) := by decide +kernel
theorem dX6_copy_2 : decode cX6_copy 2 = .ok (.aload_n 0, 1) := by decide +kernel
theorem dX6_copy_3 : decode cX6_copy 3 = .ok (.getfield 89, 3) := by decide +kernel
theorem dX6_copy_6 : decode cX6_copy 6 = .ok (.invokestatic 99, 3) := by decide +kernel
theorem dX6_copy_9 : decode cX6_copy 9 = .ok (.ifCond .ne 7, 3) := by decide +kernel
theorem dX6_copy_12 : decode cX6_copy 12 = .ok (.iconst 1, 1) := by decide +kernel
theorem dX6_copy_13 : decode cX6_copy 13 = .ok (.goto 4, 3) := by decide +kernel
theorem dX6_copy_16 : decode cX6_copy 16 = .ok (.iconst 0, 1) := by decide +kernel
theorem dX6_copy_17 : decode cX6_copy 17 = .ok (.aload_n 0, 1) := by decide +kernel
theorem dX6_copy_18 : decode cX6_copy 18 = .ok (.getfield 89, 3) := by decide +kernel
theorem dX6_copy_21 : decode cX6_copy 21 = .ok (.bipush 24, 2) := by decide +kernel
theorem dX6_copy_23 : decode cX6_copy 23 = .ok (.if_icmp .ne 7, 3) := by decide +kernel
theorem dX6_copy_26 : decode cX6_copy 26 = .ok (.iconst 1, 1) := by decide +kernel
theorem dX6_copy_27 : decode cX6_copy 27 = .ok (.goto 4, 3) := by decide +kernel
theorem dX6_copy_30 : decode cX6_copy 30 = .ok (.iconst 0, 1) := by decide +kernel
theorem dX6_copy_31 : decode cX6_copy 31 = .ok (.invokevirtual 107, 3) := by decide +kernel
theorem dX6_copy_34 : decode cX6_copy 34 = .ok (.ifCond .eq 5, 3) := by decide +kernel
theorem dX6_copy_37 : decode cX6_copy 37 = .ok (.iconst 0, 1) := by decide +kernel
theorem dX6_copy_38 : decode cX6_copy 38 = .ok (.ireturn, 1) := by decide +kernel
theorem dX6_copy_39 : decode cX6_copy 39 = .ok (.aload_n 0, 1) := by decide +kernel
theorem dX6_copy_40 : decode cX6_copy 40 = .ok (.getfield 89, 3) := by decide +kernel
theorem dX6_copy_43 : decode cX6_copy 43 = .ok (.istore_n 2, 1) := by decide +kernel
theorem dX6_copy_44 : decode cX6_copy 44 = .ok (.aload_n 0, 1) := by decide +kernel
theorem dX6_copy_45 : decode cX6_copy 45 = .ok (.iload_n 2, 1) := by decide +kernel
theorem dX6_copy_46 : decode cX6_copy 46 = .ok (.invokevirtual 92, 3) := by decide +kernel
theorem dX6_copy_49 : decode cX6_copy 49 = .ok (.aload_n 0, 1) := by decide +kernel
theorem dX6_copy_50 : decode cX6_copy 50 = .ok (.dup, 1) := by decide +kernel
theorem dX6_copy_51 : decode cX6_copy 51 = .ok (.getfield 89, 3) := by decide +kernel
theorem dX6_copy_54 : decode cX6_copy 54 = .ok (.iconst 1, 1) := by decide +kernel
theorem dX6_copy_55 : decode cX6_copy 55 = .ok (.iadd, 1) := by decide +kernel
theorem dX6_copy_56 : decode cX6_copy 56 = .ok (.putfield 89, 3) := by decide +kernel
theorem dX6_copy_59 : decode cX6_copy 59 = .ok (.aload_n 0, 1) := by decide +kernel
theorem dX6_copy_60 : decode cX6_copy 60 = .ok (.getfield 7, 3) := by decide +kernel
theorem dX6_copy_63 : decode cX6_copy 63 = .ok (.iload_n 2, 1) := by decide +kernel
theorem dX6_copy_64 : decode cX6_copy 64 = .ok (.aload_n 0, 1) := by decide +kernel
theorem dX6_copy_65 : decode cX6_copy 65 = .ok (.getfield 7, 3) := by decide +kernel
theorem dX6_copy_68 : decode cX6_copy 68 = .ok (.iload_n 1, 1) := by decide +kernel
theorem dX6_copy_69 : decode cX6_copy 69 = .ok (.iaload, 1) := by decide +kernel
theorem dX6_copy_70 : decode cX6_copy 70 = .ok (.iastore, 1) := by decide +kernel
theorem dX6_copy_71 : decode cX6_copy 71 = .ok (.aload_n 0, 1) := by decide +kernel
theorem dX6_copy_72 : decode cX6_copy 72 = .ok (.getfield 20, 3) := by decide +kernel
theorem dX6_copy_75 : decode cX6_copy 75 = .ok (.iload_n 2, 1) := by decide +kernel
theorem dX6_copy_76 : decode cX6_copy 76 = .ok (.aload_n 0, 1) := by decide +kernel
theorem dX6_copy_77 : decode cX6_copy 77 = .ok (.getfield 20, 3) := by decide +kernel
theorem dX6_copy_80 : decode cX6_copy 80 = .ok (.iload_n 1, 1) := by decide +kernel
theorem dX6_copy_81 : decode cX6_copy 81 = .ok (.iaload, 1) := by decide +kernel
theorem dX6_copy_82 : decode cX6_copy 82 = .ok (.iastore, 1) := by decide +kernel
theorem dX6_copy_83 : decode cX6_copy 83 = .ok (.aload_n 0, 1) := by decide +kernel
theorem dX6_copy_84 : decode cX6_copy 84 = .ok (.getfield 26, 3) := by decide +kernel
theorem dX6_copy_87 : decode cX6_copy 87 = .ok (.iload_n 2, 1) := by decide +kernel
theorem dX6_copy_88 : decode cX6_copy 88 = .ok (.aload_n 0, 1) := by decide +kernel
theorem dX6_copy_89 : decode cX6_copy 89 = .ok (.getfield 26, 3) := by decide +kernel
theorem dX6_copy_92 : decode cX6_copy 92 = .ok (.iload_n 1, 1) := by decide +kernel
theorem dX6_copy_93 : decode cX6_copy 93 = .ok (.iaload, 1) := by decide +kernel
theorem dX6_copy_94 : decode cX6_copy 94 = .ok (.iastore, 1) := by decide +kernel
theorem dX6_copy_95 : decode cX6_copy 95 = .ok (.aload_n 0, 1) := by decide +kernel
theorem dX6_copy_96 : decode cX6_copy 96 = .ok (.getfield 29, 3) := by decide +kernel
theorem dX6_copy_99 : decode cX6_copy 99 = .ok (.iload_n 2, 1) := by decide +kernel
theorem dX6_copy_100 : decode cX6_copy 100 = .ok (.aload_n 0, 1) := by decide +kernel
theorem dX6_copy_101 : decode cX6_copy 101 = .ok (.getfield 29, 3) := by decide +kernel
theorem dX6_copy_104 : decode cX6_copy 104 = .ok (.iload_n 1, 1) := by decide +kernel
theorem dX6_copy_105 : decode cX6_copy 105 = .ok (.iaload, 1) := by decide +kernel
theorem dX6_copy_106 : decode cX6_copy 106 = .ok (.iastore, 1) := by decide +kernel
theorem dX6_copy_107 : decode cX6_copy 107 = .ok (.iconst 0, 1) := by decide +kernel
theorem dX6_copy_108 : decode cX6_copy 108 = .ok (.istore_n 3, 1) := by decide +kernel
theorem dX6_copy_109 : decode cX6_copy 109 = .ok (.iload_n 3, 1) := by decide +kernel
theorem dX6_copy_110 : decode cX6_copy 110 = .ok (.bipush 16, 2) := by decide +kernel
theorem dX6_copy_112 : decode cX6_copy 112 = .ok (.if_icmp .ge 53, 3) := by decide +kernel
theorem dX6_copy_115 : decode cX6_copy 115 = .ok (.aload_n 0, 1) := by decide +kernel
theorem dX6_copy_116 : decode cX6_copy 116 = .ok (.getfield 13, 3) := by decide +kernel
theorem dX6_copy_119 : decode cX6_copy 119 = .ok (.bipush 16, 2) := by decide +kernel
theorem dX6_copy_121 : decode cX6_copy 121 = .ok (.iload_n 2, 1) := by decide +kernel
theorem dX6_copy_122 : decode cX6_copy 122 = .ok (.imul, 1) := by decide +kernel
theorem dX6_copy_123 : decode cX6_copy 123 = .ok (.iload_n 3, 1) := by decide +kernel
theorem dX6_copy_124 : decode cX6_copy 124 = .ok (.iadd, 1) := by decide +kernel
theorem dX6_copy_125 : decode cX6_copy 125 = .ok (.aload_n 0, 1) := by decide +kernel
theorem dX6_copy_126 : decode cX6_copy 126 = .ok (.getfield 13, 3) := by decide +kernel
theorem dX6_copy_129 : decode cX6_copy 129 = .ok (.bipush 16, 2) := by decide +kernel
theorem dX6_copy_131 : decode cX6_copy 131 = .ok (.iload_n 1, 1) := by decide +kernel
theorem dX6_copy_132 : decode cX6_copy 132 = .ok (.imul, 1) := by decide +kernel
theorem dX6_copy_133 : decode cX6_copy 133 = .ok (.iload_n 3, 1) := by decide +kernel
theorem dX6_copy_134 : decode cX6_copy 134 = .ok (.iadd, 1) := by decide +kernel
theorem dX6_copy_135 : decode cX6_copy 135 = .ok (.iaload, 1) := by decide +kernel
theorem dX6_copy_136 : decode cX6_copy 136 = .ok (.iastore, 1) := by decide +kernel
theorem dX6_copy_137 : decode cX6_copy 137 = .ok (.aload_n 0, 1) := by decide +kernel
theorem dX6_copy_138 : decode cX6_copy 138 = .ok (.getfield 16, 3) := by decide +kernel
theorem dX6_copy_141 : decode cX6_copy 141 = .ok (.bipush 16, 2) := by decide +kernel
theorem dX6_copy_143 : decode cX6_copy 143 = .ok (.iload_n 2, 1) := by decide +kernel
theorem dX6_copy_144 : decode cX6_copy 144 = .ok (.imul, 1) := by decide +kernel
theorem dX6_copy_145 : decode cX6_copy 145 = .ok (.iload_n 3, 1) := by decide +kernel
theorem dX6_copy_146 : decode cX6_copy 146 = .ok (.iadd, 1) := by decide +kernel
theorem dX6_copy_147 : decode cX6_copy 147 = .ok (.aload_n 0, 1) := by decide +kernel
theorem dX6_copy_148 : decode cX6_copy 148 = .ok (.getfield 16, 3) := by decide +kernel
theorem dX6_copy_151 : decode cX6_copy 151 = .ok (.bipush 16, 2) := by decide +kernel
theorem dX6_copy_153 : decode cX6_copy 153 = .ok (.iload_n 1, 1) := by decide +kernel
theorem dX6_copy_154 : decode cX6_copy 154 = .ok (.imul, 1) := by decide +kernel
theorem dX6_copy_155 : decode cX6_copy 155 = .ok (.iload_n 3, 1) := by decide +kernel
theorem dX6_copy_156 : decode cX6_copy 156 = .ok (.iadd, 1) := by decide +kernel
theorem dX6_copy_157 : decode cX6_copy 157 = .ok (.baload, 1) := by decide +kernel
theorem dX6_copy_158 : decode cX6_copy 158 = .ok (.bastore, 1) := by decide +kernel
theorem dX6_copy_159 : decode cX6_copy 159 = .ok (.iinc 3 1, 3) := by decide +kernel
theorem dX6_copy_162 : decode cX6_copy 162 = .ok (.goto (-53), 3) := by decide +kernel
theorem dX6_copy_165 : decode cX6_copy 165 = .ok (.iconst 0, 1) := by decide +kernel
theorem dX6_copy_166 : decode cX6_copy 166 = .ok (.istore_n 3, 1) := by decide +kernel
theorem dX6_copy_167 : decode cX6_copy 167 = .ok (.iload_n 3, 1) := by decide +kernel
theorem dX6_copy_168 : decode cX6_copy 168 = .ok (.sipush 8320, 3) := by decide +kernel
theorem dX6_copy_171 : decode cX6_copy 171 = .ok (.if_icmp .ge 33, 3) := by decide +kernel
theorem dX6_copy_174 : decode cX6_copy 174 = .ok (.aload_n 0, 1) := by decide +kernel
theorem dX6_copy_175 : decode cX6_copy 175 = .ok (.getfield 33, 3) := by decide +kernel
theorem dX6_copy_178 : decode cX6_copy 178 = .ok (.sipush 8320, 3) := by decide +kernel
theorem dX6_copy_181 : decode cX6_copy 181 = .ok (.iload_n 2, 1) := by decide +kernel
theorem dX6_copy_182 : decode cX6_copy 182 = .ok (.imul, 1) := by decide +kernel
theorem dX6_copy_183 : decode cX6_copy 183 = .ok (.iload_n 3, 1) := by decide +kernel
theorem dX6_copy_184 : decode cX6_copy 184 = .ok (.iadd, 1) := by decide +kernel
theorem dX6_copy_185 : decode cX6_copy 185 = .ok (.aload_n 0, 1) := by decide +kernel
theorem dX6_copy_186 : decode cX6_copy 186 = .ok (.getfield 33, 3) := by decide +kernel
theorem dX6_copy_189 : decode cX6_copy 189 = .ok (.sipush 8320, 3) := by decide +kernel
theorem dX6_copy_192 : decode cX6_copy 192 = .ok (.iload_n 1, 1) := by decide +kernel
theorem dX6_copy_193 : decode cX6_copy 193 = .ok (.imul, 1) := by decide +kernel
theorem dX6_copy_194 : decode cX6_copy 194 = .ok (.iload_n 3, 1) := by decide +kernel
theorem dX6_copy_195 : decode cX6_copy 195 = .ok (.iadd, 1) := by decide +kernel
theorem dX6_copy_196 : decode cX6_copy 196 = .ok (.iaload, 1) := by decide +kernel
theorem dX6_copy_197 : decode cX6_copy 197 = .ok (.iastore, 1) := by decide +kernel
theorem dX6_copy_198 : decode cX6_copy 198 = .ok (.iinc 3 1, 3) := by decide +kernel
theorem dX6_copy_201 : decode cX6_copy 201 = .ok (.goto (-34), 3) := by decide +kernel
theorem dX6_copy_204 : decode cX6_copy 204 = .ok (.iconst 0, 1) := by decide +kernel
theorem dX6_copy_205 : decode cX6_copy 205 = .ok (.istore_n 3, 1) := by decide +kernel
theorem dX6_copy_206 : decode cX6_copy 206 = .ok (.iload_n 3, 1) := by decide +kernel
theorem dX6_copy_207 : decode cX6_copy 207 = .ok (.bipush 64, 2) := by decide +kernel
theorem dX6_copy_209 : decode cX6_copy 209 = .ok (.if_icmp .ge 53, 3) := by decide +kernel
theorem dX6_copy_212 : decode cX6_copy 212 = .ok (.aload_n 0, 1) := by decide +kernel
theorem dX6_copy_213 : decode cX6_copy 213 = .ok (.getfield 23, 3) := by decide +kernel
theorem dX6_copy_216 : decode cX6_copy 216 = .ok (.bipush 64, 2) := by decide +kernel
theorem dX6_copy_218 : decode cX6_copy 218 = .ok (.iload_n 2, 1) := by decide +kernel
theorem dX6_copy_219 : decode cX6_copy 219 = .ok (.imul, 1) := by decide +kernel
theorem dX6_copy_220 : decode cX6_copy 220 = .ok (.iload_n 3, 1) := by decide +kernel
theorem dX6_copy_221 : decode cX6_copy 221 = .ok (.iadd, 1) := by decide +kernel
theorem dX6_copy_222 : decode cX6_copy 222 = .ok (.aload_n 0, 1) := by decide +kernel
theorem dX6_copy_223 : decode cX6_copy 223 = .ok (.getfield 23, 3) := by decide +kernel
theorem dX6_copy_226 : decode cX6_copy 226 = .ok (.bipush 64, 2) := by decide +kernel
theorem dX6_copy_228 : decode cX6_copy 228 = .ok (.iload_n 1, 1) := by decide +kernel
theorem dX6_copy_229 : decode cX6_copy 229 = .ok (.imul, 1) := by decide +kernel
theorem dX6_copy_230 : decode cX6_copy 230 = .ok (.iload_n 3, 1) := by decide +kernel
theorem dX6_copy_231 : decode cX6_copy 231 = .ok (.iadd, 1) := by decide +kernel
theorem dX6_copy_232 : decode cX6_copy 232 = .ok (.iaload, 1) := by decide +kernel
theorem dX6_copy_233 : decode cX6_copy 233 = .ok (.iastore, 1) := by decide +kernel
theorem dX6_copy_234 : decode cX6_copy 234 = .ok (.aload_n 0, 1) := by decide +kernel
theorem dX6_copy_235 : decode cX6_copy 235 = .ok (.getfield 36, 3) := by decide +kernel
theorem dX6_copy_238 : decode cX6_copy 238 = .ok (.bipush 64, 2) := by decide +kernel
theorem dX6_copy_240 : decode cX6_copy 240 = .ok (.iload_n 2, 1) := by decide +kernel
theorem dX6_copy_241 : decode cX6_copy 241 = .ok (.imul, 1) := by decide +kernel
theorem dX6_copy_242 : decode cX6_copy 242 = .ok (.iload_n 3, 1) := by decide +kernel
theorem dX6_copy_243 : decode cX6_copy 243 = .ok (.iadd, 1) := by decide +kernel
theorem dX6_copy_244 : decode cX6_copy 244 = .ok (.aload_n 0, 1) := by decide +kernel
theorem dX6_copy_245 : decode cX6_copy 245 = .ok (.getfield 36, 3) := by decide +kernel
theorem dX6_copy_248 : decode cX6_copy 248 = .ok (.bipush 64, 2) := by decide +kernel
theorem dX6_copy_250 : decode cX6_copy 250 = .ok (.iload_n 1, 1) := by decide +kernel
theorem dX6_copy_251 : decode cX6_copy 251 = .ok (.imul, 1) := by decide +kernel
theorem dX6_copy_252 : decode cX6_copy 252 = .ok (.iload_n 3, 1) := by decide +kernel
theorem dX6_copy_253 : decode cX6_copy 253 = .ok (.iadd, 1) := by decide +kernel
theorem dX6_copy_254 : decode cX6_copy 254 = .ok (.iaload, 1) := by decide +kernel
theorem dX6_copy_255 : decode cX6_copy 255 = .ok (.iastore, 1) := by decide +kernel
theorem dX6_copy_256 : decode cX6_copy 256 = .ok (.iinc 3 1, 3) := by decide +kernel
theorem dX6_copy_259 : decode cX6_copy 259 = .ok (.goto (-53), 3) := by decide +kernel
theorem dX6_copy_262 : decode cX6_copy 262 = .ok (.iconst 0, 1) := by decide +kernel
theorem dX6_copy_263 : decode cX6_copy 263 = .ok (.istore_n 3, 1) := by decide +kernel
theorem dX6_copy_264 : decode cX6_copy 264 = .ok (.iload_n 3, 1) := by decide +kernel
theorem dX6_copy_265 : decode cX6_copy 265 = .ok (.sipush 1536, 3) := by decide +kernel
theorem dX6_copy_268 : decode cX6_copy 268 = .ok (.if_icmp .ge 33, 3) := by decide +kernel
theorem dX6_copy_271 : decode cX6_copy 271 = .ok (.aload_n 0, 1) := by decide +kernel
theorem dX6_copy_272 : decode cX6_copy 272 = .ok (.getfield 40, 3) := by decide +kernel
theorem dX6_copy_275 : decode cX6_copy 275 = .ok (.sipush 1536, 3) := by decide +kernel
theorem dX6_copy_278 : decode cX6_copy 278 = .ok (.iload_n 2, 1) := by decide +kernel
theorem dX6_copy_279 : decode cX6_copy 279 = .ok (.imul, 1) := by decide +kernel
theorem dX6_copy_280 : decode cX6_copy 280 = .ok (.iload_n 3, 1) := by decide +kernel
theorem dX6_copy_281 : decode cX6_copy 281 = .ok (.iadd, 1) := by decide +kernel
theorem dX6_copy_282 : decode cX6_copy 282 = .ok (.aload_n 0, 1) := by decide +kernel
theorem dX6_copy_283 : decode cX6_copy 283 = .ok (.getfield 40, 3) := by decide +kernel
theorem dX6_copy_286 : decode cX6_copy 286 = .ok (.sipush 1536, 3) := by decide +kernel
theorem dX6_copy_289 : decode cX6_copy 289 = .ok (.iload_n 1, 1) := by decide +kernel
theorem dX6_copy_290 : decode cX6_copy 290 = .ok (.imul, 1) := by decide +kernel
theorem dX6_copy_291 : decode cX6_copy 291 = .ok (.iload_n 3, 1) := by decide +kernel
theorem dX6_copy_292 : decode cX6_copy 292 = .ok (.iadd, 1) := by decide +kernel
theorem dX6_copy_293 : decode cX6_copy 293 = .ok (.iaload, 1) := by decide +kernel
theorem dX6_copy_294 : decode cX6_copy 294 = .ok (.iastore, 1) := by decide +kernel
theorem dX6_copy_295 : decode cX6_copy 295 = .ok (.iinc 3 1, 3) := by decide +kernel
theorem dX6_copy_298 : decode cX6_copy 298 = .ok (.goto (-34), 3) := by decide +kernel
theorem dX6_copy_301 : decode cX6_copy 301 = .ok (.iload_n 2, 1) := by decide +kernel
theorem dX6_copy_302 : decode cX6_copy 302 = .ok (.ireturn, 1) := by decide +kernel
theorem dX6_shared_0 : decode cX6_shared 0 = .ok (.aload_n 0, 1) := by decide +kernel
theorem dX6_shared_1 : decode cX6_shared 1 = .ok (.iload_n 1, 1) := by decide +kernel
theorem dX6_shared_2 : decode cX6_shared 2 = .ok (.aload_n 0, 1) := by decide +kernel
theorem dX6_shared_3 : decode cX6_shared 3 = .ok (.getfield 89, 3) := by decide +kernel
theorem dX6_shared_6 : decode cX6_shared 6 = .ok (.invokestatic 99, 3) := by decide +kernel
theorem dX6_shared_9 : decode cX6_shared 9 = .ok (.ifCond .eq 14, 3) := by decide +kernel
theorem dX6_shared_12 : decode cX6_shared 12 = .ok (.iload_n 2, 1) := by decide +kernel
theorem dX6_shared_13 : decode cX6_shared 13 = .ok (.aload_n 0, 1) := by decide +kernel
theorem dX6_shared_14 : decode cX6_shared 14 = .ok (.getfield 89, 3) := by decide +kernel
theorem dX6_shared_17 : decode cX6_shared 17 = .ok (.invokestatic 99, 3) := by decide +kernel
theorem dX6_shared_20 : decode cX6_shared 20 = .ok (.ifCond .ne 7, 3) := by decide +kernel
theorem dX6_shared_23 : decode cX6_shared 23 = .ok (.iconst 1, 1) := by decide +kernel
theorem dX6_shared_24 : decode cX6_shared 24 = .ok (.goto 4, 3) := by decide +kernel
theorem dX6_shared_27 : decode cX6_shared 27 = .ok (.iconst 0, 1) := by decide +kernel
theorem dX6_shared_28 : decode cX6_shared 28 = .ok (.iconst 0, 1) := by decide +kernel
theorem dX6_shared_29 : decode cX6_shared 29 = .ok (.invokevirtual 107, 3) := by decide +kernel
theorem dX6_shared_32 : decode cX6_shared 32 = .ok (.ifCond .ne 22, 3) := by decide +kernel
theorem dX6_shared_35 : decode cX6_shared 35 = .ok (.aload_n 0, 1) := by decide +kernel
theorem dX6_shared_36 : decode cX6_shared 36 = .ok (.getfield 29, 3) := by decide +kernel
theorem dX6_shared_39 : decode cX6_shared 39 = .ok (.iload_n 1, 1) := by decide +kernel
theorem dX6_shared_40 : decode cX6_shared 40 = .ok (.iaload, 1) := by decide +kernel
theorem dX6_shared_41 : decode cX6_shared 41 = .ok (.aload_n 0, 1) := by decide +kernel
theorem dX6_shared_42 : decode cX6_shared 42 = .ok (.getfield 29, 3) := by decide +kernel
theorem dX6_shared_45 : decode cX6_shared 45 = .ok (.iload_n 2, 1) := by decide +kernel
theorem dX6_shared_46 : decode cX6_shared 46 = .ok (.iaload, 1) := by decide +kernel
theorem dX6_shared_47 : decode cX6_shared 47 = .ok (.if_icmp .ne 7, 3) := by decide +kernel
theorem dX6_shared_50 : decode cX6_shared 50 = .ok (.iconst 1, 1) := by decide +kernel
theorem dX6_shared_51 : decode cX6_shared 51 = .ok (.goto 4, 3) := by decide +kernel
theorem dX6_shared_54 : decode cX6_shared 54 = .ok (.iconst 0, 1) := by decide +kernel
theorem dX6_shared_55 : decode cX6_shared 55 = .ok (.ireturn, 1) := by decide +kernel
theorem dX6_enter_0 : decode cX6_enter 0 = .ok (.aload_n 0, 1) := by decide +kernel
theorem dX6_enter_1 : decode cX6_enter 1 = .ok (.getfield 43, 3) := by decide +kernel
theorem dX6_enter_4 : decode cX6_enter 4 = .ok (.aload_n 0, 1) := by decide +kernel
theorem dX6_enter_5 : decode cX6_enter 5 = .ok (.getfield 139, 3) := by decide +kernel
theorem dX6_enter_8 : decode cX6_enter 8 = .ok (.iload_n 1, 1) := by decide +kernel
theorem dX6_enter_9 : decode cX6_enter 9 = .ok (.iastore, 1) := by decide +kernel
theorem dX6_enter_10 : decode cX6_enter 10 = .ok (.aload_n 0, 1) := by decide +kernel
theorem dX6_enter_11 : decode cX6_enter 11 = .ok (.getfield 46, 3) := by decide +kernel
theorem dX6_enter_14 : decode cX6_enter 14 = .ok (.aload_n 0, 1) := by decide +kernel
theorem dX6_enter_15 : decode cX6_enter 15 = .ok (.getfield 139, 3) := by decide +kernel
theorem dX6_enter_18 : decode cX6_enter 18 = .ok (.iload_n 2, 1) := by decide +kernel
theorem dX6_enter_19 : decode cX6_enter 19 = .ok (.iastore, 1) := by decide +kernel
theorem dX6_enter_20 : decode cX6_enter 20 = .ok (.aload_n 0, 1) := by decide +kernel
theorem dX6_enter_21 : decode cX6_enter 21 = .ok (.getfield 49, 3) := by decide +kernel
theorem dX6_enter_24 : decode cX6_enter 24 = .ok (.aload_n 0, 1) := by decide +kernel
theorem dX6_enter_25 : decode cX6_enter 25 = .ok (.getfield 139, 3) := by decide +kernel
theorem dX6_enter_28 : decode cX6_enter 28 = .ok (.iload_n 3, 1) := by decide +kernel
theorem dX6_enter_29 : decode cX6_enter 29 = .ok (.iastore, 1) := by decide +kernel
theorem dX6_enter_30 : decode cX6_enter 30 = .ok (.aload_n 0, 1) := by decide +kernel
theorem dX6_enter_31 : decode cX6_enter 31 = .ok (.dup, 1) := by decide +kernel
theorem dX6_enter_32 : decode cX6_enter 32 = .ok (.getfield 139, 3) := by decide +kernel
theorem dX6_enter_35 : decode cX6_enter 35 = .ok (.iconst 1, 1) := by decide +kernel
theorem dX6_enter_36 : decode cX6_enter 36 = .ok (.iadd, 1) := by decide +kernel
theorem dX6_enter_37 : decode cX6_enter 37 = .ok (.putfield 139, 3) := by decide +kernel
theorem dX6_enter_40 : decode cX6_enter 40 = .ok (.return_, 1) := by decide +kernel
theorem dX6_walk_0 : decode cX6_walk 0 = .ok (.aload_n 0, 1) := by decide +kernel
theorem dX6_walk_1 : decode cX6_walk 1 = .ok (.iconst 0, 1) := by decide +kernel
theorem dX6_walk_2 : decode cX6_walk 2 = .ok (.putfield 139, 3) := by decide +kernel
theorem dX6_walk_5 : decode cX6_walk 5 = .ok (.aload_n 0, 1) := by decide +kernel
theorem dX6_walk_6 : decode cX6_walk 6 = .ok (.iconst 0, 1) := by decide +kernel
theorem dX6_walk_7 : decode cX6_walk 7 = .ok (.putfield 142, 3) := by decide +kernel
theorem dX6_walk_10 : decode cX6_walk 10 = .ok (.aload_n 0, 1) := by decide +kernel
theorem dX6_walk_11 : decode cX6_walk 11 = .ok (.iload_n 1, 1) := by decide +kernel
theorem dX6_walk_12 : decode cX6_walk 12 = .ok (.iconst (-1), 1) := by decide +kernel
theorem dX6_walk_13 : decode cX6_walk 13 = .ok (.iconst (-1), 1) := by decide +kernel
theorem dX6_walk_14 : decode cX6_walk 14 = .ok (.invokevirtual 145, 3) := by decide +kernel
theorem dX6_walk_17 : decode cX6_walk 17 = .ok (.iconst 1, 1) := by decide +kernel
theorem dX6_walk_18 : decode cX6_walk 18 = .ok (.istore_n 2, 1) := by decide +kernel
theorem dX6_walk_19 : decode cX6_walk 19 = .ok (.aload_n 0, 1) := by decide +kernel
theorem dX6_walk_20 : decode cX6_walk 20 = .ok (.getfield 61, 3) := by decide +kernel
theorem dX6_walk_23 : decode cX6_walk 23 = .ok (.iconst 0, 1) := by decide +kernel
theorem dX6_walk_24 : decode cX6_walk 24 = .ok (.iconst 0, 1) := by decide +kernel
theorem dX6_walk_25 : decode cX6_walk 25 = .ok (.iastore, 1) := by decide +kernel
theorem dX6_walk_26 : decode cX6_walk 26 = .ok (.aload_n 0, 1) := by decide +kernel
theorem dX6_walk_27 : decode cX6_walk 27 = .ok (.getfield 64, 3) := by decide +kernel
theorem dX6_walk_30 : decode cX6_walk 30 = .ok (.iconst 0, 1) := by decide +kernel
theorem dX6_walk_31 : decode cX6_walk 31 = .ok (.iconst 0, 1) := by decide +kernel
theorem dX6_walk_32 : decode cX6_walk 32 = .ok (.iastore, 1) := by decide +kernel
theorem dX6_walk_33 : decode cX6_walk 33 = .ok (.iload_n 2, 1) := by decide +kernel
theorem dX6_walk_34 : decode cX6_walk 34 = .ok (.ifCond .le 164, 3) := by decide +kernel
theorem dX6_walk_37 : decode cX6_walk 37 = .ok (.aload_n 0, 1) := by decide +kernel
theorem dX6_walk_38 : decode cX6_walk 38 = .ok (.getfield 61, 3) := by decide +kernel
theorem dX6_walk_41 : decode cX6_walk 41 = .ok (.iload_n 2, 1) := by decide +kernel
theorem dX6_walk_42 : decode cX6_walk 42 = .ok (.iconst 1, 1) := by decide +kernel
theorem dX6_walk_43 : decode cX6_walk 43 = .ok (.isub, 1) := by decide +kernel
theorem dX6_walk_44 : decode cX6_walk 44 = .ok (.iaload, 1) := by decide +kernel
theorem dX6_walk_45 : decode cX6_walk 45 = .ok (.istore_n 3, 1) := by decide +kernel
theorem dX6_walk_46 : decode cX6_walk 46 = .ok (.aload_n 0, 1) := by decide +kernel
theorem dX6_walk_47 : decode cX6_walk 47 = .ok (.getfield 43, 3) := by decide +kernel
theorem dX6_walk_50 : decode cX6_walk 50 = .ok (.iload_n 3, 1) := by decide +kernel
theorem dX6_walk_51 : decode cX6_walk 51 = .ok (.iaload, 1) := by decide +kernel
theorem dX6_walk_52 : decode cX6_walk 52 = .ok (.istore 4, 2) := by decide +kernel
theorem dX6_walk_54 : decode cX6_walk 54 = .ok (.aload_n 0, 1) := by decide +kernel
theorem dX6_walk_55 : decode cX6_walk 55 = .ok (.getfield 64, 3) := by decide +kernel
theorem dX6_walk_58 : decode cX6_walk 58 = .ok (.iload_n 2, 1) := by decide +kernel
theorem dX6_walk_59 : decode cX6_walk 59 = .ok (.iconst 1, 1) := by decide +kernel
theorem dX6_walk_60 : decode cX6_walk 60 = .ok (.isub, 1) := by decide +kernel
theorem dX6_walk_61 : decode cX6_walk 61 = .ok (.iaload, 1) := by decide +kernel
theorem dX6_walk_62 : decode cX6_walk 62 = .ok (.istore 5, 2) := by decide +kernel
theorem dX6_walk_64 : decode cX6_walk 64 = .ok (.iload 5, 2) := by decide +kernel
theorem dX6_walk_66 : decode cX6_walk 66 = .ok (.aload_n 0, 1) := by decide +kernel
theorem dX6_walk_67 : decode cX6_walk 67 = .ok (.getfield 20, 3) := by decide +kernel
theorem dX6_walk_70 : decode cX6_walk 70 = .ok (.iload 4, 2) := by decide +kernel
theorem dX6_walk_72 : decode cX6_walk 72 = .ok (.iaload, 1) := by decide +kernel
theorem dX6_walk_73 : decode cX6_walk 73 = .ok (.if_icmp .ne 9, 3) := by decide +kernel
theorem dX6_walk_76 : decode cX6_walk 76 = .ok (.iinc 2 (-1), 3) := by decide +kernel
theorem dX6_walk_79 : decode cX6_walk 79 = .ok (.goto 116, 3) := by decide +kernel
theorem dX6_walk_82 : decode cX6_walk 82 = .ok (.aload_n 0, 1) := by decide +kernel
theorem dX6_walk_83 : decode cX6_walk 83 = .ok (.getfield 64, 3) := by decide +kernel
theorem dX6_walk_86 : decode cX6_walk 86 = .ok (.iload_n 2, 1) := by decide +kernel
theorem dX6_walk_87 : decode cX6_walk 87 = .ok (.iconst 1, 1) := by decide +kernel
theorem dX6_walk_88 : decode cX6_walk 88 = .ok (.isub, 1) := by decide +kernel
theorem dX6_walk_89 : decode cX6_walk 89 = .ok (.iload 5, 2) := by decide +kernel
theorem dX6_walk_91 : decode cX6_walk 91 = .ok (.iconst 1, 1) := by decide +kernel
theorem dX6_walk_92 : decode cX6_walk 92 = .ok (.iadd, 1) := by decide +kernel
theorem dX6_walk_93 : decode cX6_walk 93 = .ok (.iastore, 1) := by decide +kernel
theorem dX6_walk_94 : decode cX6_walk 94 = .ok (.aload_n 0, 1) := by decide +kernel
theorem dX6_walk_95 : decode cX6_walk 95 = .ok (.getfield 23, 3) := by decide +kernel
theorem dX6_walk_98 : decode cX6_walk 98 = .ok (.bipush 64, 2) := by decide +kernel
theorem dX6_walk_100 : decode cX6_walk 100 = .ok (.iload 4, 2) := by decide +kernel
theorem dX6_walk_102 : decode cX6_walk 102 = .ok (.imul, 1) := by decide +kernel
theorem dX6_walk_103 : decode cX6_walk 103 = .ok (.iload 5, 2) := by decide +kernel
theorem dX6_walk_105 : decode cX6_walk 105 = .ok (.iadd, 1) := by decide +kernel
theorem dX6_walk_106 : decode cX6_walk 106 = .ok (.iaload, 1) := by decide +kernel
theorem dX6_walk_107 : decode cX6_walk 107 = .ok (.istore 6, 2) := by decide +kernel
theorem dX6_walk_109 : decode cX6_walk 109 = .ok (.aload_n 0, 1) := by decide +kernel
theorem dX6_walk_110 : decode cX6_walk 110 = .ok (.getfield 20, 3) := by decide +kernel
theorem dX6_walk_113 : decode cX6_walk 113 = .ok (.iload 6, 2) := by decide +kernel
theorem dX6_walk_115 : decode cX6_walk 115 = .ok (.iaload, 1) := by decide +kernel
theorem dX6_walk_116 : decode cX6_walk 116 = .ok (.ifCond .le 37, 3) := by decide +kernel
theorem dX6_walk_119 : decode cX6_walk 119 = .ok (.aload_n 0, 1) := by decide +kernel
theorem dX6_walk_120 : decode cX6_walk 120 = .ok (.iload 6, 2) := by decide +kernel
theorem dX6_walk_122 : decode cX6_walk 122 = .ok (.iload_n 3, 1) := by decide +kernel
theorem dX6_walk_123 : decode cX6_walk 123 = .ok (.iload 5, 2) := by decide +kernel
theorem dX6_walk_125 : decode cX6_walk 125 = .ok (.invokevirtual 145, 3) := by decide +kernel
theorem dX6_walk_128 : decode cX6_walk 128 = .ok (.aload_n 0, 1) := by decide +kernel
theorem dX6_walk_129 : decode cX6_walk 129 = .ok (.getfield 61, 3) := by decide +kernel
theorem dX6_walk_132 : decode cX6_walk 132 = .ok (.iload_n 2, 1) := by decide +kernel
theorem dX6_walk_133 : decode cX6_walk 133 = .ok (.aload_n 0, 1) := by decide +kernel
theorem dX6_walk_134 : decode cX6_walk 134 = .ok (.getfield 139, 3) := by decide +kernel
theorem dX6_walk_137 : decode cX6_walk 137 = .ok (.iconst 1, 1) := by decide +kernel
theorem dX6_walk_138 : decode cX6_walk 138 = .ok (.isub, 1) := by decide +kernel
theorem dX6_walk_139 : decode cX6_walk 139 = .ok (.iastore, 1) := by decide +kernel
theorem dX6_walk_140 : decode cX6_walk 140 = .ok (.aload_n 0, 1) := by decide +kernel
theorem dX6_walk_141 : decode cX6_walk 141 = .ok (.getfield 64, 3) := by decide +kernel
theorem dX6_walk_144 : decode cX6_walk 144 = .ok (.iload_n 2, 1) := by decide +kernel
theorem dX6_walk_145 : decode cX6_walk 145 = .ok (.iconst 0, 1) := by decide +kernel
theorem dX6_walk_146 : decode cX6_walk 146 = .ok (.iastore, 1) := by decide +kernel
theorem dX6_walk_147 : decode cX6_walk 147 = .ok (.iinc 2 1, 3) := by decide +kernel
theorem dX6_walk_150 : decode cX6_walk 150 = .ok (.goto 45, 3) := by decide +kernel
theorem dX6_walk_153 : decode cX6_walk 153 = .ok (.aload_n 0, 1) := by decide +kernel
theorem dX6_walk_154 : decode cX6_walk 154 = .ok (.getfield 142, 3) := by decide +kernel
theorem dX6_walk_157 : decode cX6_walk 157 = .ok (.bipush 64, 2) := by decide +kernel
theorem dX6_walk_159 : decode cX6_walk 159 = .ok (.if_icmp .ne 5, 3) := by decide +kernel
theorem dX6_walk_162 : decode cX6_walk 162 = .ok (.iconst 0, 1) := by decide +kernel
theorem dX6_walk_163 : decode cX6_walk 163 = .ok (.ireturn, 1) := by decide +kernel
theorem dX6_walk_164 : decode cX6_walk 164 = .ok (.aload_n 0, 1) := by decide +kernel
theorem dX6_walk_165 : decode cX6_walk 165 = .ok (.getfield 55, 3) := by decide +kernel
theorem dX6_walk_168 : decode cX6_walk 168 = .ok (.aload_n 0, 1) := by decide +kernel
theorem dX6_walk_169 : decode cX6_walk 169 = .ok (.getfield 142, 3) := by decide +kernel
theorem dX6_walk_172 : decode cX6_walk 172 = .ok (.iload_n 3, 1) := by decide +kernel
theorem dX6_walk_173 : decode cX6_walk 173 = .ok (.iastore, 1) := by decide +kernel
theorem dX6_walk_174 : decode cX6_walk 174 = .ok (.aload_n 0, 1) := by decide +kernel
theorem dX6_walk_175 : decode cX6_walk 175 = .ok (.getfield 58, 3) := by decide +kernel
theorem dX6_walk_178 : decode cX6_walk 178 = .ok (.aload_n 0, 1) := by decide +kernel
theorem dX6_walk_179 : decode cX6_walk 179 = .ok (.getfield 142, 3) := by decide +kernel
theorem dX6_walk_182 : decode cX6_walk 182 = .ok (.iload 5, 2) := by decide +kernel
theorem dX6_walk_184 : decode cX6_walk 184 = .ok (.iastore, 1) := by decide +kernel
theorem dX6_walk_185 : decode cX6_walk 185 = .ok (.aload_n 0, 1) := by decide +kernel
theorem dX6_walk_186 : decode cX6_walk 186 = .ok (.dup, 1) := by decide +kernel
theorem dX6_walk_187 : decode cX6_walk 187 = .ok (.getfield 142, 3) := by decide +kernel
theorem dX6_walk_190 : decode cX6_walk 190 = .ok (.iconst 1, 1) := by decide +kernel
theorem dX6_walk_191 : decode cX6_walk 191 = .ok (.iadd, 1) := by decide +kernel
theorem dX6_walk_192 : decode cX6_walk 192 = .ok (.putfield 142, 3) := by decide +kernel
theorem dX6_walk_195 : decode cX6_walk 195 = .ok (.goto (-162), 3) := by decide +kernel
theorem dX6_walk_198 : decode cX6_walk 198 = .ok (.iconst 1, 1) := by decide +kernel
theorem dX6_walk_199 : decode cX6_walk 199 = .ok (.ireturn, 1) := by decide +kernel
theorem dX6_unite_0 : decode cX6_unite 0 = .ok (.aload_n 0, 1) := by decide +kernel
theorem dX6_unite_1 : decode cX6_unite 1 = .ok (.getfield 52, 3) := by decide +kernel
theorem dX6_unite_4 : decode cX6_unite 4 = .ok (.iconst 0, 1) := by decide +kernel
theorem dX6_unite_5 : decode cX6_unite 5 = .ok (.iconst 0, 1) := by decide +kernel
theorem dX6_unite_6 : decode cX6_unite 6 = .ok (.iastore, 1) := by decide +kernel
theorem dX6_unite_7 : decode cX6_unite 7 = .ok (.iconst 0, 1) := by decide +kernel
theorem dX6_unite_8 : decode cX6_unite 8 = .ok (.istore_n 1, 1) := by decide +kernel
theorem dX6_unite_9 : decode cX6_unite 9 = .ok (.iload_n 1, 1) := by decide +kernel
theorem dX6_unite_10 : decode cX6_unite 10 = .ok (.aload_n 0, 1) := by decide +kernel
theorem dX6_unite_11 : decode cX6_unite 11 = .ok (.getfield 139, 3) := by decide +kernel
theorem dX6_unite_14 : decode cX6_unite 14 = .ok (.if_icmp .ge 51, 3) := by decide +kernel
theorem dX6_unite_17 : decode cX6_unite 17 = .ok (.aload_n 0, 1) := by decide +kernel
theorem dX6_unite_18 : decode cX6_unite 18 = .ok (.getfield 52, 3) := by decide +kernel
theorem dX6_unite_21 : decode cX6_unite 21 = .ok (.iload_n 1, 1) := by decide +kernel
theorem dX6_unite_22 : decode cX6_unite 22 = .ok (.iconst 1, 1) := by decide +kernel
theorem dX6_unite_23 : decode cX6_unite 23 = .ok (.iadd, 1) := by decide +kernel
theorem dX6_unite_24 : decode cX6_unite 24 = .ok (.aload_n 0, 1) := by decide +kernel
theorem dX6_unite_25 : decode cX6_unite 25 = .ok (.getfield 52, 3) := by decide +kernel
theorem dX6_unite_28 : decode cX6_unite 28 = .ok (.iload_n 1, 1) := by decide +kernel
theorem dX6_unite_29 : decode cX6_unite 29 = .ok (.iaload, 1) := by decide +kernel
theorem dX6_unite_30 : decode cX6_unite 30 = .ok (.aload_n 0, 1) := by decide +kernel
theorem dX6_unite_31 : decode cX6_unite 31 = .ok (.getfield 26, 3) := by decide +kernel
theorem dX6_unite_34 : decode cX6_unite 34 = .ok (.aload_n 0, 1) := by decide +kernel
theorem dX6_unite_35 : decode cX6_unite 35 = .ok (.getfield 43, 3) := by decide +kernel
theorem dX6_unite_38 : decode cX6_unite 38 = .ok (.iload_n 1, 1) := by decide +kernel
theorem dX6_unite_39 : decode cX6_unite 39 = .ok (.iaload, 1) := by decide +kernel
theorem dX6_unite_40 : decode cX6_unite 40 = .ok (.iaload, 1) := by decide +kernel
theorem dX6_unite_41 : decode cX6_unite 41 = .ok (.iadd, 1) := by decide +kernel
theorem dX6_unite_42 : decode cX6_unite 42 = .ok (.iastore, 1) := by decide +kernel
theorem dX6_unite_43 : decode cX6_unite 43 = .ok (.aload_n 0, 1) := by decide +kernel
theorem dX6_unite_44 : decode cX6_unite 44 = .ok (.getfield 52, 3) := by decide +kernel
theorem dX6_unite_47 : decode cX6_unite 47 = .ok (.iload_n 1, 1) := by decide +kernel
theorem dX6_unite_48 : decode cX6_unite 48 = .ok (.iconst 1, 1) := by decide +kernel
theorem dX6_unite_49 : decode cX6_unite 49 = .ok (.iadd, 1) := by decide +kernel
theorem dX6_unite_50 : decode cX6_unite 50 = .ok (.iaload, 1) := by decide +kernel
theorem dX6_unite_51 : decode cX6_unite 51 = .ok (.sipush 3000, 3) := by decide +kernel
theorem dX6_unite_54 : decode cX6_unite 54 = .ok (.if_icmp .le 5, 3) := by decide +kernel
theorem dX6_unite_57 : decode cX6_unite 57 = .ok (.iconst 0, 1) := by decide +kernel
theorem dX6_unite_58 : decode cX6_unite 58 = .ok (.ireturn, 1) := by decide +kernel
theorem dX6_unite_59 : decode cX6_unite 59 = .ok (.iinc 1 1, 3) := by decide +kernel
theorem dX6_unite_62 : decode cX6_unite 62 = .ok (.goto (-53), 3) := by decide +kernel
theorem dX6_unite_65 : decode cX6_unite 65 = .ok (.iconst 0, 1) := by decide +kernel
theorem dX6_unite_66 : decode cX6_unite 66 = .ok (.istore_n 1, 1) := by decide +kernel
theorem dX6_unite_67 : decode cX6_unite 67 = .ok (.iload_n 1, 1) := by decide +kernel
theorem dX6_unite_68 : decode cX6_unite 68 = .ok (.aload_n 0, 1) := by decide +kernel
theorem dX6_unite_69 : decode cX6_unite 69 = .ok (.getfield 52, 3) := by decide +kernel
theorem dX6_unite_72 : decode cX6_unite 72 = .ok (.aload_n 0, 1) := by decide +kernel
theorem dX6_unite_73 : decode cX6_unite 73 = .ok (.getfield 139, 3) := by decide +kernel
theorem dX6_unite_76 : decode cX6_unite 76 = .ok (.iaload, 1) := by decide +kernel
theorem dX6_unite_77 : decode cX6_unite 77 = .ok (.if_icmp .ge 16, 3) := by decide +kernel
theorem dX6_unite_80 : decode cX6_unite 80 = .ok (.aload_n 0, 1) := by decide +kernel
theorem dX6_unite_81 : decode cX6_unite 81 = .ok (.getfield 67, 3) := by decide +kernel
theorem dX6_unite_84 : decode cX6_unite 84 = .ok (.iload_n 1, 1) := by decide +kernel
theorem dX6_unite_85 : decode cX6_unite 85 = .ok (.iload_n 1, 1) := by decide +kernel
theorem dX6_unite_86 : decode cX6_unite 86 = .ok (.iastore, 1) := by decide +kernel
theorem dX6_unite_87 : decode cX6_unite 87 = .ok (.iinc 1 1, 3) := by decide +kernel
theorem dX6_unite_90 : decode cX6_unite 90 = .ok (.goto (-23), 3) := by decide +kernel
theorem dX6_unite_93 : decode cX6_unite 93 = .ok (.iconst 1, 1) := by decide +kernel
theorem dX6_unite_94 : decode cX6_unite 94 = .ok (.istore_n 1, 1) := by decide +kernel
theorem dX6_unite_95 : decode cX6_unite 95 = .ok (.iload_n 1, 1) := by decide +kernel
theorem dX6_unite_96 : decode cX6_unite 96 = .ok (.ifCond .eq 149, 3) := by decide +kernel
theorem dX6_unite_99 : decode cX6_unite 99 = .ok (.iconst 0, 1) := by decide +kernel
theorem dX6_unite_100 : decode cX6_unite 100 = .ok (.istore_n 1, 1) := by decide +kernel
theorem dX6_unite_101 : decode cX6_unite 101 = .ok (.iconst 1, 1) := by decide +kernel
theorem dX6_unite_102 : decode cX6_unite 102 = .ok (.istore_n 2, 1) := by decide +kernel
theorem dX6_unite_103 : decode cX6_unite 103 = .ok (.iload_n 2, 1) := by decide +kernel
theorem dX6_unite_104 : decode cX6_unite 104 = .ok (.aload_n 0, 1) := by decide +kernel
theorem dX6_unite_105 : decode cX6_unite 105 = .ok (.getfield 139, 3) := by decide +kernel
theorem dX6_unite_108 : decode cX6_unite 108 = .ok (.if_icmp .ge 134, 3) := by decide +kernel
theorem dX6_unite_111 : decode cX6_unite 111 = .ok (.aload_n 0, 1) := by decide +kernel
theorem dX6_unite_112 : decode cX6_unite 112 = .ok (.getfield 46, 3) := by decide +kernel
theorem dX6_unite_115 : decode cX6_unite 115 = .ok (.iload_n 2, 1) := by decide +kernel
theorem dX6_unite_116 : decode cX6_unite 116 = .ok (.iaload, 1) := by decide +kernel
theorem dX6_unite_117 : decode cX6_unite 117 = .ok (.istore_n 3, 1) := by decide +kernel
theorem dX6_unite_118 : decode cX6_unite 118 = .ok (.aload_n 0, 1) := by decide +kernel
theorem dX6_unite_119 : decode cX6_unite 119 = .ok (.aload_n 0, 1) := by decide +kernel
theorem dX6_unite_120 : decode cX6_unite 120 = .ok (.getfield 43, 3) := by decide +kernel
theorem dX6_unite_123 : decode cX6_unite 123 = .ok (.iload_n 2, 1) := by decide +kernel
theorem dX6_unite_124 : decode cX6_unite 124 = .ok (.iaload, 1) := by decide +kernel
theorem dX6_unite_125 : decode cX6_unite 125 = .ok (.invokevirtual 117, 3) := by decide +kernel
theorem dX6_unite_128 : decode cX6_unite 128 = .ok (.istore 4, 2) := by decide +kernel
theorem dX6_unite_130 : decode cX6_unite 130 = .ok (.iconst 0, 1) := by decide +kernel
theorem dX6_unite_131 : decode cX6_unite 131 = .ok (.istore 5, 2) := by decide +kernel
theorem dX6_unite_133 : decode cX6_unite 133 = .ok (.iload 5, 2) := by decide +kernel
theorem dX6_unite_135 : decode cX6_unite 135 = .ok (.iload 4, 2) := by decide +kernel
theorem dX6_unite_137 : decode cX6_unite 137 = .ok (.if_icmp .ge 99, 3) := by decide +kernel
theorem dX6_unite_140 : decode cX6_unite 140 = .ok (.aload_n 0, 1) := by decide +kernel
theorem dX6_unite_141 : decode cX6_unite 141 = .ok (.getfield 33, 3) := by decide +kernel
theorem dX6_unite_144 : decode cX6_unite 144 = .ok (.aload_n 0, 1) := by decide +kernel
theorem dX6_unite_145 : decode cX6_unite 145 = .ok (.getfield 43, 3) := by decide +kernel
theorem dX6_unite_148 : decode cX6_unite 148 = .ok (.iload_n 3, 1) := by decide +kernel
theorem dX6_unite_149 : decode cX6_unite 149 = .ok (.iaload, 1) := by decide +kernel
theorem dX6_unite_150 : decode cX6_unite 150 = .ok (.aload_n 0, 1) := by decide +kernel
theorem dX6_unite_151 : decode cX6_unite 151 = .ok (.getfield 49, 3) := by decide +kernel
theorem dX6_unite_154 : decode cX6_unite 154 = .ok (.iload_n 2, 1) := by decide +kernel
theorem dX6_unite_155 : decode cX6_unite 155 = .ok (.iaload, 1) := by decide +kernel
theorem dX6_unite_156 : decode cX6_unite 156 = .ok (.iload 5, 2) := by decide +kernel
theorem dX6_unite_158 : decode cX6_unite 158 = .ok (.invokestatic 125, 3) := by decide +kernel
theorem dX6_unite_161 : decode cX6_unite 161 = .ok (.iaload, 1) := by decide +kernel
theorem dX6_unite_162 : decode cX6_unite 162 = .ok (.istore 6, 2) := by decide +kernel
theorem dX6_unite_164 : decode cX6_unite 164 = .ok (.aload_n 0, 1) := by decide +kernel
theorem dX6_unite_165 : decode cX6_unite 165 = .ok (.getfield 33, 3) := by decide +kernel
theorem dX6_unite_168 : decode cX6_unite 168 = .ok (.aload_n 0, 1) := by decide +kernel
theorem dX6_unite_169 : decode cX6_unite 169 = .ok (.getfield 43, 3) := by decide +kernel
theorem dX6_unite_172 : decode cX6_unite 172 = .ok (.iload_n 2, 1) := by decide +kernel
theorem dX6_unite_173 : decode cX6_unite 173 = .ok (.iaload, 1) := by decide +kernel
theorem dX6_unite_174 : decode cX6_unite 174 = .ok (.iconst (-1), 1) := by decide +kernel
theorem dX6_unite_175 : decode cX6_unite 175 = .ok (.iload 5, 2) := by decide +kernel
theorem dX6_unite_177 : decode cX6_unite 177 = .ok (.invokestatic 125, 3) := by decide +kernel
theorem dX6_unite_180 : decode cX6_unite 180 = .ok (.iaload, 1) := by decide +kernel
theorem dX6_unite_181 : decode cX6_unite 181 = .ok (.istore 7, 2) := by decide +kernel
theorem dX6_unite_183 : decode cX6_unite 183 = .ok (.iload 6, 2) := by decide +kernel
theorem dX6_unite_185 : decode cX6_unite 185 = .ok (.iconst (-1), 1) := by decide +kernel
theorem dX6_unite_186 : decode cX6_unite 186 = .ok (.if_icmp .eq 44, 3) := by decide +kernel
theorem dX6_unite_189 : decode cX6_unite 189 = .ok (.iload 7, 2) := by decide +kernel
theorem dX6_unite_191 : decode cX6_unite 191 = .ok (.iconst (-1), 1) := by decide +kernel
theorem dX6_unite_192 : decode cX6_unite 192 = .ok (.if_icmp .eq 38, 3) := by decide +kernel
theorem dX6_unite_195 : decode cX6_unite 195 = .ok (.aload_n 0, 1) := by decide +kernel
theorem dX6_unite_196 : decode cX6_unite 196 = .ok (.aload_n 0, 1) := by decide +kernel
theorem dX6_unite_197 : decode cX6_unite 197 = .ok (.getfield 52, 3) := by decide +kernel
theorem dX6_unite_200 : decode cX6_unite 200 = .ok (.iload_n 3, 1) := by decide +kernel
theorem dX6_unite_201 : decode cX6_unite 201 = .ok (.iaload, 1) := by decide +kernel
theorem dX6_unite_202 : decode cX6_unite 202 = .ok (.iload 6, 2) := by decide +kernel
theorem dX6_unite_204 : decode cX6_unite 204 = .ok (.iadd, 1) := by decide +kernel
theorem dX6_unite_205 : decode cX6_unite 205 = .ok (.aload_n 0, 1) := by decide +kernel
theorem dX6_unite_206 : decode cX6_unite 206 = .ok (.getfield 52, 3) := by decide +kernel
theorem dX6_unite_209 : decode cX6_unite 209 = .ok (.iload_n 2, 1) := by decide +kernel
theorem dX6_unite_210 : decode cX6_unite 210 = .ok (.iaload, 1) := by decide +kernel
theorem dX6_unite_211 : decode cX6_unite 211 = .ok (.iload 7, 2) := by decide +kernel
theorem dX6_unite_213 : decode cX6_unite 213 = .ok (.iadd, 1) := by decide +kernel
theorem dX6_unite_214 : decode cX6_unite 214 = .ok (.invokevirtual 149, 3) := by decide +kernel
theorem dX6_unite_217 : decode cX6_unite 217 = .ok (.ifCond .ne 7, 3) := by decide +kernel
theorem dX6_unite_220 : decode cX6_unite 220 = .ok (.iload_n 1, 1) := by decide +kernel
theorem dX6_unite_221 : decode cX6_unite 221 = .ok (.ifCond .eq 7, 3) := by decide +kernel
theorem dX6_unite_224 : decode cX6_unite 224 = .ok (.iconst 1, 1) := by decide +kernel
theorem dX6_unite_225 : decode cX6_unite 225 = .ok (.goto 4, 3) := by decide +kernel
theorem dX6_unite_228 : decode cX6_unite 228 = .ok (.iconst 0, 1) := by decide +kernel
theorem dX6_unite_229 : decode cX6_unite 229 = .ok (.istore_n 1, 1) := by decide +kernel
theorem dX6_unite_230 : decode cX6_unite 230 = .ok (.iinc 5 1, 3) := by decide +kernel
theorem dX6_unite_233 : decode cX6_unite 233 = .ok (.goto (-100), 3) := by decide +kernel
theorem dX6_unite_236 : decode cX6_unite 236 = .ok (.iinc 2 1, 3) := by decide +kernel
theorem dX6_unite_239 : decode cX6_unite 239 = .ok (.goto (-136), 3) := by decide +kernel
theorem dX6_unite_242 : decode cX6_unite 242 = .ok (.goto (-147), 3) := by decide +kernel
theorem dX6_unite_245 : decode cX6_unite 245 = .ok (.iconst 1, 1) := by decide +kernel
theorem dX6_unite_246 : decode cX6_unite 246 = .ok (.ireturn, 1) := by decide +kernel
theorem dX6_lower_0 : decode cX6_lower 0 = .ok (.aload_n 0, 1) := by decide +kernel
theorem dX6_lower_1 : decode cX6_lower 1 = .ok (.getfield 67, 3) := by decide +kernel
theorem dX6_lower_4 : decode cX6_lower 4 = .ok (.iload_n 1, 1) := by decide +kernel
theorem dX6_lower_5 : decode cX6_lower 5 = .ok (.iaload, 1) := by decide +kernel
theorem dX6_lower_6 : decode cX6_lower 6 = .ok (.aload_n 0, 1) := by decide +kernel
theorem dX6_lower_7 : decode cX6_lower 7 = .ok (.getfield 67, 3) := by decide +kernel
theorem dX6_lower_10 : decode cX6_lower 10 = .ok (.iload_n 2, 1) := by decide +kernel
theorem dX6_lower_11 : decode cX6_lower 11 = .ok (.iaload, 1) := by decide +kernel
theorem dX6_lower_12 : decode cX6_lower 12 = .ok (.if_icmp .ge 12, 3) := by decide +kernel
theorem dX6_lower_15 : decode cX6_lower 15 = .ok (.aload_n 0, 1) := by decide +kernel
theorem dX6_lower_16 : decode cX6_lower 16 = .ok (.getfield 67, 3) := by decide +kernel
theorem dX6_lower_19 : decode cX6_lower 19 = .ok (.iload_n 1, 1) := by decide +kernel
theorem dX6_lower_20 : decode cX6_lower 20 = .ok (.iaload, 1) := by decide +kernel
theorem dX6_lower_21 : decode cX6_lower 21 = .ok (.goto 9, 3) := by decide +kernel
theorem dX6_lower_24 : decode cX6_lower 24 = .ok (.aload_n 0, 1) := by decide +kernel
theorem dX6_lower_25 : decode cX6_lower 25 = .ok (.getfield 67, 3) := by decide +kernel
theorem dX6_lower_28 : decode cX6_lower 28 = .ok (.iload_n 2, 1) := by decide +kernel
theorem dX6_lower_29 : decode cX6_lower 29 = .ok (.iaload, 1) := by decide +kernel
theorem dX6_lower_30 : decode cX6_lower 30 = .ok (.istore_n 3, 1) := by decide +kernel
theorem dX6_lower_31 : decode cX6_lower 31 = .ok (.aload_n 0, 1) := by decide +kernel
theorem dX6_lower_32 : decode cX6_lower 32 = .ok (.getfield 67, 3) := by decide +kernel
theorem dX6_lower_35 : decode cX6_lower 35 = .ok (.iload_n 1, 1) := by decide +kernel
theorem dX6_lower_36 : decode cX6_lower 36 = .ok (.iaload, 1) := by decide +kernel
theorem dX6_lower_37 : decode cX6_lower 37 = .ok (.aload_n 0, 1) := by decide +kernel
theorem dX6_lower_38 : decode cX6_lower 38 = .ok (.getfield 67, 3) := by decide +kernel
theorem dX6_lower_41 : decode cX6_lower 41 = .ok (.iload_n 2, 1) := by decide +kernel
theorem dX6_lower_42 : decode cX6_lower 42 = .ok (.iaload, 1) := by decide +kernel
theorem dX6_lower_43 : decode cX6_lower 43 = .ok (.if_icmp .eq 7, 3) := by decide +kernel
theorem dX6_lower_46 : decode cX6_lower 46 = .ok (.iconst 1, 1) := by decide +kernel
theorem dX6_lower_47 : decode cX6_lower 47 = .ok (.goto 4, 3) := by decide +kernel
theorem dX6_lower_50 : decode cX6_lower 50 = .ok (.iconst 0, 1) := by decide +kernel
theorem dX6_lower_51 : decode cX6_lower 51 = .ok (.istore 4, 2) := by decide +kernel
theorem dX6_lower_53 : decode cX6_lower 53 = .ok (.aload_n 0, 1) := by decide +kernel
theorem dX6_lower_54 : decode cX6_lower 54 = .ok (.getfield 67, 3) := by decide +kernel
theorem dX6_lower_57 : decode cX6_lower 57 = .ok (.iload_n 1, 1) := by decide +kernel
theorem dX6_lower_58 : decode cX6_lower 58 = .ok (.iload_n 3, 1) := by decide +kernel
theorem dX6_lower_59 : decode cX6_lower 59 = .ok (.iastore, 1) := by decide +kernel
theorem dX6_lower_60 : decode cX6_lower 60 = .ok (.aload_n 0, 1) := by decide +kernel
theorem dX6_lower_61 : decode cX6_lower 61 = .ok (.getfield 67, 3) := by decide +kernel
theorem dX6_lower_64 : decode cX6_lower 64 = .ok (.iload_n 2, 1) := by decide +kernel
theorem dX6_lower_65 : decode cX6_lower 65 = .ok (.iload_n 3, 1) := by decide +kernel
theorem dX6_lower_66 : decode cX6_lower 66 = .ok (.iastore, 1) := by decide +kernel
theorem dX6_lower_67 : decode cX6_lower 67 = .ok (.iload 4, 2) := by decide +kernel
theorem dX6_lower_69 : decode cX6_lower 69 = .ok (.ireturn, 1) := by decide +kernel
theorem dX6_number_0 : decode cX6_number 0 = .ok (.iconst 0, 1) := by decide +kernel
theorem dX6_number_1 : decode cX6_number 1 = .ok (.istore_n 1, 1) := by decide +kernel
theorem dX6_number_2 : decode cX6_number 2 = .ok (.iconst 0, 1) := by decide +kernel
theorem dX6_number_3 : decode cX6_number 3 = .ok (.istore_n 2, 1) := by decide +kernel
theorem dX6_number_4 : decode cX6_number 4 = .ok (.iload_n 2, 1) := by decide +kernel
theorem dX6_number_5 : decode cX6_number 5 = .ok (.aload_n 0, 1) := by decide +kernel
theorem dX6_number_6 : decode cX6_number 6 = .ok (.getfield 52, 3) := by decide +kernel
theorem dX6_number_9 : decode cX6_number 9 = .ok (.aload_n 0, 1) := by decide +kernel
theorem dX6_number_10 : decode cX6_number 10 = .ok (.getfield 139, 3) := by decide +kernel
theorem dX6_number_13 : decode cX6_number 13 = .ok (.iaload, 1) := by decide +kernel
theorem dX6_number_14 : decode cX6_number 14 = .ok (.if_icmp .ge 49, 3) := by decide +kernel
theorem dX6_number_17 : decode cX6_number 17 = .ok (.aload_n 0, 1) := by decide +kernel
theorem dX6_number_18 : decode cX6_number 18 = .ok (.getfield 67, 3) := by decide +kernel
theorem dX6_number_21 : decode cX6_number 21 = .ok (.iload_n 2, 1) := by decide +kernel
theorem dX6_number_22 : decode cX6_number 22 = .ok (.iaload, 1) := by decide +kernel
theorem dX6_number_23 : decode cX6_number 23 = .ok (.iload_n 2, 1) := by decide +kernel
theorem dX6_number_24 : decode cX6_number 24 = .ok (.if_icmp .ne 16, 3) := by decide +kernel
theorem dX6_number_27 : decode cX6_number 27 = .ok (.aload_n 0, 1) := by decide +kernel
theorem dX6_number_28 : decode cX6_number 28 = .ok (.getfield 70, 3) := by decide +kernel
theorem dX6_number_31 : decode cX6_number 31 = .ok (.iload_n 2, 1) := by decide +kernel
theorem dX6_number_32 : decode cX6_number 32 = .ok (.iload_n 1, 1) := by decide +kernel
theorem dX6_number_33 : decode cX6_number 33 = .ok (.iastore, 1) := by decide +kernel
theorem dX6_number_34 : decode cX6_number 34 = .ok (.iinc 1 1, 3) := by decide +kernel
theorem dX6_number_37 : decode cX6_number 37 = .ok (.goto 20, 3) := by decide +kernel
theorem dX6_number_40 : decode cX6_number 40 = .ok (.aload_n 0, 1) := by decide +kernel
theorem dX6_number_41 : decode cX6_number 41 = .ok (.getfield 70, 3) := by decide +kernel
theorem dX6_number_44 : decode cX6_number 44 = .ok (.iload_n 2, 1) := by decide +kernel
theorem dX6_number_45 : decode cX6_number 45 = .ok (.aload_n 0, 1) := by decide +kernel
theorem dX6_number_46 : decode cX6_number 46 = .ok (.getfield 70, 3) := by decide +kernel
theorem dX6_number_49 : decode cX6_number 49 = .ok (.aload_n 0, 1) := by decide +kernel
theorem dX6_number_50 : decode cX6_number 50 = .ok (.getfield 67, 3) := by decide +kernel
theorem dX6_number_53 : decode cX6_number 53 = .ok (.iload_n 2, 1) := by decide +kernel
theorem dX6_number_54 : decode cX6_number 54 = .ok (.iaload, 1) := by decide +kernel
theorem dX6_number_55 : decode cX6_number 55 = .ok (.iaload, 1) := by decide +kernel
theorem dX6_number_56 : decode cX6_number 56 = .ok (.iastore, 1) := by decide +kernel
theorem dX6_number_57 : decode cX6_number 57 = .ok (.iinc 2 1, 3) := by decide +kernel
theorem dX6_number_60 : decode cX6_number 60 = .ok (.goto (-56), 3) := by decide +kernel
theorem dX6_number_63 : decode cX6_number 63 = .ok (.iload_n 1, 1) := by decide +kernel
theorem dX6_number_64 : decode cX6_number 64 = .ok (.ireturn, 1) := by decide +kernel
theorem dX6_setWay_0 : decode cX6_setWay 0 = .ok (.iconst 1, 1) := by decide +kernel
theorem dX6_setWay_1 : decode cX6_setWay 1 = .ok (.istore_n 3, 1) := by decide +kernel
theorem dX6_setWay_2 : decode cX6_setWay 2 = .ok (.aload_n 0, 1) := by decide +kernel
theorem dX6_setWay_3 : decode cX6_setWay 3 = .ok (.getfield 55, 3) := by decide +kernel
theorem dX6_setWay_6 : decode cX6_setWay 6 = .ok (.iload_n 2, 1) := by decide +kernel
theorem dX6_setWay_7 : decode cX6_setWay 7 = .ok (.iaload, 1) := by decide +kernel
theorem dX6_setWay_8 : decode cX6_setWay 8 = .ok (.istore 4, 2) := by decide +kernel
theorem dX6_setWay_10 : decode cX6_setWay 10 = .ok (.aload_n 0, 1) := by decide +kernel
theorem dX6_setWay_11 : decode cX6_setWay 11 = .ok (.getfield 46, 3) := by decide +kernel
theorem dX6_setWay_14 : decode cX6_setWay 14 = .ok (.iload 4, 2) := by decide +kernel
theorem dX6_setWay_16 : decode cX6_setWay 16 = .ok (.iaload, 1) := by decide +kernel
theorem dX6_setWay_17 : decode cX6_setWay 17 = .ok (.iconst (-1), 1) := by decide +kernel
theorem dX6_setWay_18 : decode cX6_setWay 18 = .ok (.if_icmp .eq 18, 3) := by decide +kernel
theorem dX6_setWay_21 : decode cX6_setWay 21 = .ok (.iinc 3 1, 3) := by decide +kernel
theorem dX6_setWay_24 : decode cX6_setWay 24 = .ok (.aload_n 0, 1) := by decide +kernel
theorem dX6_setWay_25 : decode cX6_setWay 25 = .ok (.getfield 46, 3) := by decide +kernel
theorem dX6_setWay_28 : decode cX6_setWay 28 = .ok (.iload 4, 2) := by decide +kernel
theorem dX6_setWay_30 : decode cX6_setWay 30 = .ok (.iaload, 1) := by decide +kernel
theorem dX6_setWay_31 : decode cX6_setWay 31 = .ok (.istore 4, 2) := by decide +kernel
theorem dX6_setWay_33 : decode cX6_setWay 33 = .ok (.goto (-23), 3) := by decide +kernel
theorem dX6_setWay_36 : decode cX6_setWay 36 = .ok (.bipush 64, 2) := by decide +kernel
theorem dX6_setWay_38 : decode cX6_setWay 38 = .ok (.iload_n 1, 1) := by decide +kernel
theorem dX6_setWay_39 : decode cX6_setWay 39 = .ok (.imul, 1) := by decide +kernel
theorem dX6_setWay_40 : decode cX6_setWay 40 = .ok (.iload_n 2, 1) := by decide +kernel
theorem dX6_setWay_41 : decode cX6_setWay 41 = .ok (.iadd, 1) := by decide +kernel
theorem dX6_setWay_42 : decode cX6_setWay 42 = .ok (.istore 4, 2) := by decide +kernel
theorem dX6_setWay_44 : decode cX6_setWay 44 = .ok (.aload_n 0, 1) := by decide +kernel
theorem dX6_setWay_45 : decode cX6_setWay 45 = .ok (.getfield 36, 3) := by decide +kernel
theorem dX6_setWay_48 : decode cX6_setWay 48 = .ok (.iload 4, 2) := by decide +kernel
theorem dX6_setWay_50 : decode cX6_setWay 50 = .ok (.iload_n 3, 1) := by decide +kernel
theorem dX6_setWay_51 : decode cX6_setWay 51 = .ok (.iastore, 1) := by decide +kernel
theorem dX6_setWay_52 : decode cX6_setWay 52 = .ok (.aload_n 0, 1) := by decide +kernel
theorem dX6_setWay_53 : decode cX6_setWay 53 = .ok (.getfield 40, 3) := by decide +kernel
theorem dX6_setWay_56 : decode cX6_setWay 56 = .ok (.bipush 24, 2) := by decide +kernel
theorem dX6_setWay_58 : decode cX6_setWay 58 = .ok (.iload 4, 2) := by decide +kernel
theorem dX6_setWay_60 : decode cX6_setWay 60 = .ok (.imul, 1) := by decide +kernel
theorem dX6_setWay_61 : decode cX6_setWay 61 = .ok (.iload_n 3, 1) := by decide +kernel
theorem dX6_setWay_62 : decode cX6_setWay 62 = .ok (.iadd, 1) := by decide +kernel
theorem dX6_setWay_63 : decode cX6_setWay 63 = .ok (.iconst 1, 1) := by decide +kernel
theorem dX6_setWay_64 : decode cX6_setWay 64 = .ok (.isub, 1) := by decide +kernel
theorem dX6_setWay_65 : decode cX6_setWay 65 = .ok (.aload_n 0, 1) := by decide +kernel
theorem dX6_setWay_66 : decode cX6_setWay 66 = .ok (.getfield 58, 3) := by decide +kernel
theorem dX6_setWay_69 : decode cX6_setWay 69 = .ok (.iload_n 2, 1) := by decide +kernel
theorem dX6_setWay_70 : decode cX6_setWay 70 = .ok (.iaload, 1) := by decide +kernel
theorem dX6_setWay_71 : decode cX6_setWay 71 = .ok (.iastore, 1) := by decide +kernel
theorem dX6_setWay_72 : decode cX6_setWay 72 = .ok (.iload_n 3, 1) := by decide +kernel
theorem dX6_setWay_73 : decode cX6_setWay 73 = .ok (.iconst 2, 1) := by decide +kernel
theorem dX6_setWay_74 : decode cX6_setWay 74 = .ok (.isub, 1) := by decide +kernel
theorem dX6_setWay_75 : decode cX6_setWay 75 = .ok (.istore 5, 2) := by decide +kernel
theorem dX6_setWay_77 : decode cX6_setWay 77 = .ok (.aload_n 0, 1) := by decide +kernel
theorem dX6_setWay_78 : decode cX6_setWay 78 = .ok (.getfield 55, 3) := by decide +kernel
theorem dX6_setWay_81 : decode cX6_setWay 81 = .ok (.iload_n 2, 1) := by decide +kernel
theorem dX6_setWay_82 : decode cX6_setWay 82 = .ok (.iaload, 1) := by decide +kernel
theorem dX6_setWay_83 : decode cX6_setWay 83 = .ok (.istore 6, 2) := by decide +kernel
theorem dX6_setWay_85 : decode cX6_setWay 85 = .ok (.aload_n 0, 1) := by decide +kernel
theorem dX6_setWay_86 : decode cX6_setWay 86 = .ok (.getfield 46, 3) := by decide +kernel
theorem dX6_setWay_89 : decode cX6_setWay 89 = .ok (.iload 6, 2) := by decide +kernel
theorem dX6_setWay_91 : decode cX6_setWay 91 = .ok (.iaload, 1) := by decide +kernel
theorem dX6_setWay_92 : decode cX6_setWay 92 = .ok (.iconst (-1), 1) := by decide +kernel
theorem dX6_setWay_93 : decode cX6_setWay 93 = .ok (.if_icmp .eq 38, 3) := by decide +kernel
theorem dX6_setWay_96 : decode cX6_setWay 96 = .ok (.aload_n 0, 1) := by decide +kernel
theorem dX6_setWay_97 : decode cX6_setWay 97 = .ok (.getfield 40, 3) := by decide +kernel
theorem dX6_setWay_100 : decode cX6_setWay 100 = .ok (.bipush 24, 2) := by decide +kernel
theorem dX6_setWay_102 : decode cX6_setWay 102 = .ok (.iload 4, 2) := by decide +kernel
theorem dX6_setWay_104 : decode cX6_setWay 104 = .ok (.imul, 1) := by decide +kernel
theorem dX6_setWay_105 : decode cX6_setWay 105 = .ok (.iload 5, 2) := by decide +kernel
theorem dX6_setWay_107 : decode cX6_setWay 107 = .ok (.iadd, 1) := by decide +kernel
theorem dX6_setWay_108 : decode cX6_setWay 108 = .ok (.aload_n 0, 1) := by decide +kernel
theorem dX6_setWay_109 : decode cX6_setWay 109 = .ok (.getfield 49, 3) := by decide +kernel
theorem dX6_setWay_112 : decode cX6_setWay 112 = .ok (.iload 6, 2) := by decide +kernel
theorem dX6_setWay_114 : decode cX6_setWay 114 = .ok (.iaload, 1) := by decide +kernel
theorem dX6_setWay_115 : decode cX6_setWay 115 = .ok (.iastore, 1) := by decide +kernel
theorem dX6_setWay_116 : decode cX6_setWay 116 = .ok (.iinc 5 (-1), 3) := by decide +kernel
theorem dX6_setWay_119 : decode cX6_setWay 119 = .ok (.aload_n 0, 1) := by decide +kernel
theorem dX6_setWay_120 : decode cX6_setWay 120 = .ok (.getfield 46, 3) := by decide +kernel
theorem dX6_setWay_123 : decode cX6_setWay 123 = .ok (.iload 6, 2) := by decide +kernel
theorem dX6_setWay_125 : decode cX6_setWay 125 = .ok (.iaload, 1) := by decide +kernel
theorem dX6_setWay_126 : decode cX6_setWay 126 = .ok (.istore 6, 2) := by decide +kernel
theorem dX6_setWay_128 : decode cX6_setWay 128 = .ok (.goto (-43), 3) := by decide +kernel
theorem dX6_setWay_131 : decode cX6_setWay 131 = .ok (.return_, 1) := by decide +kernel
theorem dX6_flat_0 : decode cX6_flat 0 = .ok (.iload_n 1, 1) := by decide +kernel
theorem dX6_flat_1 : decode cX6_flat 1 = .ok (.aload_n 0, 1) := by decide +kernel
theorem dX6_flat_2 : decode cX6_flat 2 = .ok (.getfield 89, 3) := by decide +kernel
theorem dX6_flat_5 : decode cX6_flat 5 = .ok (.invokestatic 99, 3) := by decide +kernel
theorem dX6_flat_8 : decode cX6_flat 8 = .ok (.istore_n 2, 1) := by decide +kernel
theorem dX6_flat_9 : decode cX6_flat 9 = .ok (.aload_n 0, 1) := by decide +kernel
theorem dX6_flat_10 : decode cX6_flat 10 = .ok (.iload_n 2, 1) := by decide +kernel
theorem dX6_flat_11 : decode cX6_flat 11 = .ok (.ifCond .ne 7, 3) := by decide +kernel
theorem dX6_flat_14 : decode cX6_flat 14 = .ok (.iconst 1, 1) := by decide +kernel
theorem dX6_flat_15 : decode cX6_flat 15 = .ok (.goto 4, 3) := by decide +kernel
theorem dX6_flat_18 : decode cX6_flat 18 = .ok (.iconst 0, 1) := by decide +kernel
theorem dX6_flat_19 : decode cX6_flat 19 = .ok (.aload_n 0, 1) := by decide +kernel
theorem dX6_flat_20 : decode cX6_flat 20 = .ok (.getfield 89, 3) := by decide +kernel
theorem dX6_flat_23 : decode cX6_flat 23 = .ok (.bipush 24, 2) := by decide +kernel
theorem dX6_flat_25 : decode cX6_flat 25 = .ok (.if_icmp .ne 7, 3) := by decide +kernel
theorem dX6_flat_28 : decode cX6_flat 28 = .ok (.iconst 1, 1) := by decide +kernel
theorem dX6_flat_29 : decode cX6_flat 29 = .ok (.goto 4, 3) := by decide +kernel
theorem dX6_flat_32 : decode cX6_flat 32 = .ok (.iconst 0, 1) := by decide +kernel
theorem dX6_flat_33 : decode cX6_flat 33 = .ok (.invokevirtual 107, 3) := by decide +kernel
theorem dX6_flat_36 : decode cX6_flat 36 = .ok (.ifCond .eq 5, 3) := by decide +kernel
theorem dX6_flat_39 : decode cX6_flat 39 = .ok (.iconst 0, 1) := by decide +kernel
theorem dX6_flat_40 : decode cX6_flat 40 = .ok (.ireturn, 1) := by decide +kernel
theorem dX6_flat_41 : decode cX6_flat 41 = .ok (.iconst 0, 1) := by decide +kernel
theorem dX6_flat_42 : decode cX6_flat 42 = .ok (.istore_n 3, 1) := by decide +kernel
theorem dX6_flat_43 : decode cX6_flat 43 = .ok (.aload_n 0, 1) := by decide +kernel
theorem dX6_flat_44 : decode cX6_flat 44 = .ok (.iload_n 1, 1) := by decide +kernel
theorem dX6_flat_45 : decode cX6_flat 45 = .ok (.invokevirtual 152, 3) := by decide +kernel
theorem dX6_flat_48 : decode cX6_flat 48 = .ok (.ifCond .eq 14, 3) := by decide +kernel
theorem dX6_flat_51 : decode cX6_flat 51 = .ok (.aload_n 0, 1) := by decide +kernel
theorem dX6_flat_52 : decode cX6_flat 52 = .ok (.invokevirtual 155, 3) := by decide +kernel
theorem dX6_flat_55 : decode cX6_flat 55 = .ok (.ifCond .eq 7, 3) := by decide +kernel
theorem dX6_flat_58 : decode cX6_flat 58 = .ok (.iconst 1, 1) := by decide +kernel
theorem dX6_flat_59 : decode cX6_flat 59 = .ok (.goto 4, 3) := by decide +kernel
theorem dX6_flat_62 : decode cX6_flat 62 = .ok (.iconst 0, 1) := by decide +kernel
theorem dX6_flat_63 : decode cX6_flat 63 = .ok (.istore 4, 2) := by decide +kernel
theorem dX6_flat_65 : decode cX6_flat 65 = .ok (.iload 4, 2) := by decide +kernel
theorem dX6_flat_67 : decode cX6_flat 67 = .ok (.ifCond .eq 8, 3) := by decide +kernel
theorem dX6_flat_70 : decode cX6_flat 70 = .ok (.aload_n 0, 1) := by decide +kernel
theorem dX6_flat_71 : decode cX6_flat 71 = .ok (.invokevirtual 159, 3) := by decide +kernel
theorem dX6_flat_74 : decode cX6_flat 74 = .ok (.istore_n 3, 1) := by decide +kernel
theorem dX6_flat_75 : decode cX6_flat 75 = .ok (.aload_n 0, 1) := by decide +kernel
theorem dX6_flat_76 : decode cX6_flat 76 = .ok (.iload 4, 2) := by decide +kernel
theorem dX6_flat_78 : decode cX6_flat 78 = .ok (.ifCond .eq 14, 3) := by decide +kernel
theorem dX6_flat_81 : decode cX6_flat 81 = .ok (.iload_n 3, 1) := by decide +kernel
theorem dX6_flat_82 : decode cX6_flat 82 = .ok (.sipush 128, 3) := by decide +kernel
theorem dX6_flat_85 : decode cX6_flat 85 = .ok (.if_icmp .gt 7, 3) := by decide +kernel
theorem dX6_flat_88 : decode cX6_flat 88 = .ok (.iconst 0, 1) := by decide +kernel
theorem dX6_flat_89 : decode cX6_flat 89 = .ok (.goto 4, 3) := by decide +kernel
theorem dX6_flat_92 : decode cX6_flat 92 = .ok (.iconst 3, 1) := by decide +kernel
theorem dX6_flat_93 : decode cX6_flat 93 = .ok (.putfield 85, 3) := by decide +kernel
theorem dX6_flat_96 : decode cX6_flat 96 = .ok (.aload_n 0, 1) := by decide +kernel
theorem dX6_flat_97 : decode cX6_flat 97 = .ok (.getfield 85, 3) := by decide +kernel
theorem dX6_flat_100 : decode cX6_flat 100 = .ok (.ifCond .le 5, 3) := by decide +kernel
theorem dX6_flat_103 : decode cX6_flat 103 = .ok (.iconst 0, 1) := by decide +kernel
theorem dX6_flat_104 : decode cX6_flat 104 = .ok (.ireturn, 1) := by decide +kernel
theorem dX6_flat_105 : decode cX6_flat 105 = .ok (.aload_n 0, 1) := by decide +kernel
theorem dX6_flat_106 : decode cX6_flat 106 = .ok (.getfield 89, 3) := by decide +kernel
theorem dX6_flat_109 : decode cX6_flat 109 = .ok (.istore 5, 2) := by decide +kernel
theorem dX6_flat_111 : decode cX6_flat 111 = .ok (.aload_n 0, 1) := by decide +kernel
theorem dX6_flat_112 : decode cX6_flat 112 = .ok (.iload 5, 2) := by decide +kernel
theorem dX6_flat_114 : decode cX6_flat 114 = .ok (.invokevirtual 92, 3) := by decide +kernel
theorem dX6_flat_117 : decode cX6_flat 117 = .ok (.aload_n 0, 1) := by decide +kernel
theorem dX6_flat_118 : decode cX6_flat 118 = .ok (.dup, 1) := by decide +kernel
theorem dX6_flat_119 : decode cX6_flat 119 = .ok (.getfield 89, 3) := by decide +kernel
theorem dX6_flat_122 : decode cX6_flat 122 = .ok (.iconst 1, 1) := by decide +kernel
theorem dX6_flat_123 : decode cX6_flat 123 = .ok (.iadd, 1) := by decide +kernel
theorem dX6_flat_124 : decode cX6_flat 124 = .ok (.putfield 89, 3) := by decide +kernel
theorem dX6_flat_127 : decode cX6_flat 127 = .ok (.aload_n 0, 1) := by decide +kernel
theorem dX6_flat_128 : decode cX6_flat 128 = .ok (.getfield 7, 3) := by decide +kernel
theorem dX6_flat_131 : decode cX6_flat 131 = .ok (.iload 5, 2) := by decide +kernel
theorem dX6_flat_133 : decode cX6_flat 133 = .ok (.aload_n 0, 1) := by decide +kernel
theorem dX6_flat_134 : decode cX6_flat 134 = .ok (.getfield 7, 3) := by decide +kernel
theorem dX6_flat_137 : decode cX6_flat 137 = .ok (.iload_n 1, 1) := by decide +kernel
theorem dX6_flat_138 : decode cX6_flat 138 = .ok (.iaload, 1) := by decide +kernel
theorem dX6_flat_139 : decode cX6_flat 139 = .ok (.iastore, 1) := by decide +kernel
theorem dX6_flat_140 : decode cX6_flat 140 = .ok (.iconst 0, 1) := by decide +kernel
theorem dX6_flat_141 : decode cX6_flat 141 = .ok (.istore 6, 2) := by decide +kernel
theorem dX6_flat_143 : decode cX6_flat 143 = .ok (.iload 6, 2) := by decide +kernel
theorem dX6_flat_145 : decode cX6_flat 145 = .ok (.bipush 16, 2) := by decide +kernel
theorem dX6_flat_147 : decode cX6_flat 147 = .ok (.if_icmp .ge 59, 3) := by decide +kernel
theorem dX6_flat_150 : decode cX6_flat 150 = .ok (.aload_n 0, 1) := by decide +kernel
theorem dX6_flat_151 : decode cX6_flat 151 = .ok (.getfield 13, 3) := by decide +kernel
theorem dX6_flat_154 : decode cX6_flat 154 = .ok (.bipush 16, 2) := by decide +kernel
theorem dX6_flat_156 : decode cX6_flat 156 = .ok (.iload 5, 2) := by decide +kernel
theorem dX6_flat_158 : decode cX6_flat 158 = .ok (.imul, 1) := by decide +kernel
theorem dX6_flat_159 : decode cX6_flat 159 = .ok (.iload 6, 2) := by decide +kernel
theorem dX6_flat_161 : decode cX6_flat 161 = .ok (.iadd, 1) := by decide +kernel
theorem dX6_flat_162 : decode cX6_flat 162 = .ok (.aload_n 0, 1) := by decide +kernel
theorem dX6_flat_163 : decode cX6_flat 163 = .ok (.getfield 13, 3) := by decide +kernel
theorem dX6_flat_166 : decode cX6_flat 166 = .ok (.bipush 16, 2) := by decide +kernel
theorem dX6_flat_168 : decode cX6_flat 168 = .ok (.iload_n 1, 1) := by decide +kernel
theorem dX6_flat_169 : decode cX6_flat 169 = .ok (.imul, 1) := by decide +kernel
theorem dX6_flat_170 : decode cX6_flat 170 = .ok (.iload 6, 2) := by decide +kernel
theorem dX6_flat_172 : decode cX6_flat 172 = .ok (.iadd, 1) := by decide +kernel
theorem dX6_flat_173 : decode cX6_flat 173 = .ok (.iaload, 1) := by decide +kernel
theorem dX6_flat_174 : decode cX6_flat 174 = .ok (.iastore, 1) := by decide +kernel
theorem dX6_flat_175 : decode cX6_flat 175 = .ok (.aload_n 0, 1) := by decide +kernel
theorem dX6_flat_176 : decode cX6_flat 176 = .ok (.getfield 16, 3) := by decide +kernel
theorem dX6_flat_179 : decode cX6_flat 179 = .ok (.bipush 16, 2) := by decide +kernel
theorem dX6_flat_181 : decode cX6_flat 181 = .ok (.iload 5, 2) := by decide +kernel
theorem dX6_flat_183 : decode cX6_flat 183 = .ok (.imul, 1) := by decide +kernel
theorem dX6_flat_184 : decode cX6_flat 184 = .ok (.iload 6, 2) := by decide +kernel
theorem dX6_flat_186 : decode cX6_flat 186 = .ok (.iadd, 1) := by decide +kernel
theorem dX6_flat_187 : decode cX6_flat 187 = .ok (.aload_n 0, 1) := by decide +kernel
theorem dX6_flat_188 : decode cX6_flat 188 = .ok (.getfield 16, 3) := by decide +kernel
theorem dX6_flat_191 : decode cX6_flat 191 = .ok (.bipush 16, 2) := by decide +kernel
theorem dX6_flat_193 : decode cX6_flat 193 = .ok (.iload_n 1, 1) := by decide +kernel
theorem dX6_flat_194 : decode cX6_flat 194 = .ok (.imul, 1) := by decide +kernel
theorem dX6_flat_195 : decode cX6_flat 195 = .ok (.iload 6, 2) := by decide +kernel
theorem dX6_flat_197 : decode cX6_flat 197 = .ok (.iadd, 1) := by decide +kernel
theorem dX6_flat_198 : decode cX6_flat 198 = .ok (.baload, 1) := by decide +kernel
theorem dX6_flat_199 : decode cX6_flat 199 = .ok (.bastore, 1) := by decide +kernel
theorem dX6_flat_200 : decode cX6_flat 200 = .ok (.iinc 6 1, 3) := by decide +kernel
theorem dX6_flat_203 : decode cX6_flat 203 = .ok (.goto (-60), 3) := by decide +kernel
theorem dX6_flat_206 : decode cX6_flat 206 = .ok (.aload_n 0, 1) := by decide +kernel
theorem dX6_flat_207 : decode cX6_flat 207 = .ok (.getfield 26, 3) := by decide +kernel
theorem dX6_flat_210 : decode cX6_flat 210 = .ok (.iload 5, 2) := by decide +kernel
theorem dX6_flat_212 : decode cX6_flat 212 = .ok (.iload_n 3, 1) := by decide +kernel
theorem dX6_flat_213 : decode cX6_flat 213 = .ok (.iastore, 1) := by decide +kernel
theorem dX6_flat_214 : decode cX6_flat 214 = .ok (.aload_n 0, 1) := by decide +kernel
theorem dX6_flat_215 : decode cX6_flat 215 = .ok (.getfield 20, 3) := by decide +kernel
theorem dX6_flat_218 : decode cX6_flat 218 = .ok (.iload 5, 2) := by decide +kernel
theorem dX6_flat_220 : decode cX6_flat 220 = .ok (.aload_n 0, 1) := by decide +kernel
theorem dX6_flat_221 : decode cX6_flat 221 = .ok (.getfield 142, 3) := by decide +kernel
theorem dX6_flat_224 : decode cX6_flat 224 = .ok (.iastore, 1) := by decide +kernel
theorem dX6_flat_225 : decode cX6_flat 225 = .ok (.iconst 0, 1) := by decide +kernel
theorem dX6_flat_226 : decode cX6_flat 226 = .ok (.istore 6, 2) := by decide +kernel
theorem dX6_flat_228 : decode cX6_flat 228 = .ok (.iload 6, 2) := by decide +kernel
theorem dX6_flat_230 : decode cX6_flat 230 = .ok (.aload_n 0, 1) := by decide +kernel
theorem dX6_flat_231 : decode cX6_flat 231 = .ok (.iload 5, 2) := by decide +kernel
theorem dX6_flat_233 : decode cX6_flat 233 = .ok (.invokevirtual 117, 3) := by decide +kernel
theorem dX6_flat_236 : decode cX6_flat 236 = .ok (.if_icmp .ge 53, 3) := by decide +kernel
theorem dX6_flat_239 : decode cX6_flat 239 = .ok (.aload_n 0, 1) := by decide +kernel
theorem dX6_flat_240 : decode cX6_flat 240 = .ok (.getfield 33, 3) := by decide +kernel
theorem dX6_flat_243 : decode cX6_flat 243 = .ok (.iload_n 1, 1) := by decide +kernel
theorem dX6_flat_244 : decode cX6_flat 244 = .ok (.iconst (-1), 1) := by decide +kernel
theorem dX6_flat_245 : decode cX6_flat 245 = .ok (.iload 6, 2) := by decide +kernel
theorem dX6_flat_247 : decode cX6_flat 247 = .ok (.invokestatic 125, 3) := by decide +kernel
theorem dX6_flat_250 : decode cX6_flat 250 = .ok (.iaload, 1) := by decide +kernel
theorem dX6_flat_251 : decode cX6_flat 251 = .ok (.istore 7, 2) := by decide +kernel
theorem dX6_flat_253 : decode cX6_flat 253 = .ok (.aload_n 0, 1) := by decide +kernel
theorem dX6_flat_254 : decode cX6_flat 254 = .ok (.getfield 33, 3) := by decide +kernel
theorem dX6_flat_257 : decode cX6_flat 257 = .ok (.iload 5, 2) := by decide +kernel
theorem dX6_flat_259 : decode cX6_flat 259 = .ok (.iconst (-1), 1) := by decide +kernel
theorem dX6_flat_260 : decode cX6_flat 260 = .ok (.iload 6, 2) := by decide +kernel
theorem dX6_flat_262 : decode cX6_flat 262 = .ok (.invokestatic 125, 3) := by decide +kernel
theorem dX6_flat_265 : decode cX6_flat 265 = .ok (.iload 7, 2) := by decide +kernel
theorem dX6_flat_267 : decode cX6_flat 267 = .ok (.iconst (-1), 1) := by decide +kernel
theorem dX6_flat_268 : decode cX6_flat 268 = .ok (.if_icmp .ne 7, 3) := by decide +kernel
theorem dX6_flat_271 : decode cX6_flat 271 = .ok (.iconst (-1), 1) := by decide +kernel
theorem dX6_flat_272 : decode cX6_flat 272 = .ok (.goto 10, 3) := by decide +kernel
theorem dX6_flat_275 : decode cX6_flat 275 = .ok (.aload_n 0, 1) := by decide +kernel
theorem dX6_flat_276 : decode cX6_flat 276 = .ok (.getfield 70, 3) := by decide +kernel
theorem dX6_flat_279 : decode cX6_flat 279 = .ok (.iload 7, 2) := by decide +kernel
theorem dX6_flat_281 : decode cX6_flat 281 = .ok (.iaload, 1) := by decide +kernel
theorem dX6_flat_282 : decode cX6_flat 282 = .ok (.iastore, 1) := by decide +kernel
theorem dX6_flat_283 : decode cX6_flat 283 = .ok (.iinc 6 1, 3) := by decide +kernel
theorem dX6_flat_286 : decode cX6_flat 286 = .ok (.goto (-58), 3) := by decide +kernel
theorem dX6_flat_289 : decode cX6_flat 289 = .ok (.iconst 0, 1) := by decide +kernel
theorem dX6_flat_290 : decode cX6_flat 290 = .ok (.istore 6, 2) := by decide +kernel
theorem dX6_flat_292 : decode cX6_flat 292 = .ok (.iload 6, 2) := by decide +kernel
theorem dX6_flat_294 : decode cX6_flat 294 = .ok (.aload_n 0, 1) := by decide +kernel
theorem dX6_flat_295 : decode cX6_flat 295 = .ok (.getfield 142, 3) := by decide +kernel
theorem dX6_flat_298 : decode cX6_flat 298 = .ok (.if_icmp .ge 151, 3) := by decide +kernel
theorem dX6_flat_301 : decode cX6_flat 301 = .ok (.aload_n 0, 1) := by decide +kernel
theorem dX6_flat_302 : decode cX6_flat 302 = .ok (.getfield 43, 3) := by decide +kernel
theorem dX6_flat_305 : decode cX6_flat 305 = .ok (.aload_n 0, 1) := by decide +kernel
theorem dX6_flat_306 : decode cX6_flat 306 = .ok (.getfield 55, 3) := by decide +kernel
theorem dX6_flat_309 : decode cX6_flat 309 = .ok (.iload 6, 2) := by decide +kernel
theorem dX6_flat_311 : decode cX6_flat 311 = .ok (.iaload, 1) := by decide +kernel
theorem dX6_flat_312 : decode cX6_flat 312 = .ok (.iaload, 1) := by decide +kernel
theorem dX6_flat_313 : decode cX6_flat 313 = .ok (.istore 7, 2) := by decide +kernel
theorem dX6_flat_315 : decode cX6_flat 315 = .ok (.aload_n 0, 1) := by decide +kernel
theorem dX6_flat_316 : decode cX6_flat 316 = .ok (.getfield 23, 3) := by decide +kernel
theorem dX6_flat_319 : decode cX6_flat 319 = .ok (.bipush 64, 2) := by decide +kernel
theorem dX6_flat_321 : decode cX6_flat 321 = .ok (.iload 7, 2) := by decide +kernel
theorem dX6_flat_323 : decode cX6_flat 323 = .ok (.imul, 1) := by decide +kernel
theorem dX6_flat_324 : decode cX6_flat 324 = .ok (.aload_n 0, 1) := by decide +kernel
theorem dX6_flat_325 : decode cX6_flat 325 = .ok (.getfield 58, 3) := by decide +kernel
theorem dX6_flat_328 : decode cX6_flat 328 = .ok (.iload 6, 2) := by decide +kernel
theorem dX6_flat_330 : decode cX6_flat 330 = .ok (.iaload, 1) := by decide +kernel
theorem dX6_flat_331 : decode cX6_flat 331 = .ok (.iadd, 1) := by decide +kernel
theorem dX6_flat_332 : decode cX6_flat 332 = .ok (.iaload, 1) := by decide +kernel
theorem dX6_flat_333 : decode cX6_flat 333 = .ok (.istore 8, 2) := by decide +kernel
theorem dX6_flat_335 : decode cX6_flat 335 = .ok (.aload_n 0, 1) := by decide +kernel
theorem dX6_flat_336 : decode cX6_flat 336 = .ok (.getfield 23, 3) := by decide +kernel
theorem dX6_flat_339 : decode cX6_flat 339 = .ok (.bipush 64, 2) := by decide +kernel
theorem dX6_flat_341 : decode cX6_flat 341 = .ok (.iload 5, 2) := by decide +kernel
theorem dX6_flat_343 : decode cX6_flat 343 = .ok (.imul, 1) := by decide +kernel
theorem dX6_flat_344 : decode cX6_flat 344 = .ok (.iload 6, 2) := by decide +kernel
theorem dX6_flat_346 : decode cX6_flat 346 = .ok (.iadd, 1) := by decide +kernel
theorem dX6_flat_347 : decode cX6_flat 347 = .ok (.iload 8, 2) := by decide +kernel
theorem dX6_flat_349 : decode cX6_flat 349 = .ok (.iastore, 1) := by decide +kernel
theorem dX6_flat_350 : decode cX6_flat 350 = .ok (.aload_n 0, 1) := by decide +kernel
theorem dX6_flat_351 : decode cX6_flat 351 = .ok (.iload 5, 2) := by decide +kernel
theorem dX6_flat_353 : decode cX6_flat 353 = .ok (.iload 6, 2) := by decide +kernel
theorem dX6_flat_355 : decode cX6_flat 355 = .ok (.invokevirtual 163, 3) := by decide +kernel
theorem dX6_flat_358 : decode cX6_flat 358 = .ok (.iconst 0, 1) := by decide +kernel
theorem dX6_flat_359 : decode cX6_flat 359 = .ok (.istore 9, 2) := by decide +kernel
theorem dX6_flat_361 : decode cX6_flat 361 = .ok (.iload 9, 2) := by decide +kernel
theorem dX6_flat_363 : decode cX6_flat 363 = .ok (.aload_n 0, 1) := by decide +kernel
theorem dX6_flat_364 : decode cX6_flat 364 = .ok (.iload 8, 2) := by decide +kernel
theorem dX6_flat_366 : decode cX6_flat 366 = .ok (.invokevirtual 117, 3) := by decide +kernel
theorem dX6_flat_369 : decode cX6_flat 369 = .ok (.if_icmp .ge 74, 3) := by decide +kernel
theorem dX6_flat_372 : decode cX6_flat 372 = .ok (.aload_n 0, 1) := by decide +kernel
theorem dX6_flat_373 : decode cX6_flat 373 = .ok (.getfield 33, 3) := by decide +kernel
theorem dX6_flat_376 : decode cX6_flat 376 = .ok (.iload 7, 2) := by decide +kernel
theorem dX6_flat_378 : decode cX6_flat 378 = .ok (.aload_n 0, 1) := by decide +kernel
theorem dX6_flat_379 : decode cX6_flat 379 = .ok (.getfield 58, 3) := by decide +kernel
theorem dX6_flat_382 : decode cX6_flat 382 = .ok (.iload 6, 2) := by decide +kernel
theorem dX6_flat_384 : decode cX6_flat 384 = .ok (.iaload, 1) := by decide +kernel
theorem dX6_flat_385 : decode cX6_flat 385 = .ok (.iload 9, 2) := by decide +kernel
theorem dX6_flat_387 : decode cX6_flat 387 = .ok (.invokestatic 125, 3) := by decide +kernel
theorem dX6_flat_390 : decode cX6_flat 390 = .ok (.iaload, 1) := by decide +kernel
theorem dX6_flat_391 : decode cX6_flat 391 = .ok (.istore 10, 2) := by decide +kernel
theorem dX6_flat_393 : decode cX6_flat 393 = .ok (.aload_n 0, 1) := by decide +kernel
theorem dX6_flat_394 : decode cX6_flat 394 = .ok (.getfield 33, 3) := by decide +kernel
theorem dX6_flat_397 : decode cX6_flat 397 = .ok (.iload 5, 2) := by decide +kernel
theorem dX6_flat_399 : decode cX6_flat 399 = .ok (.iload 6, 2) := by decide +kernel
theorem dX6_flat_401 : decode cX6_flat 401 = .ok (.iload 9, 2) := by decide +kernel
theorem dX6_flat_403 : decode cX6_flat 403 = .ok (.invokestatic 125, 3) := by decide +kernel
theorem dX6_flat_406 : decode cX6_flat 406 = .ok (.iload 10, 2) := by decide +kernel
theorem dX6_flat_408 : decode cX6_flat 408 = .ok (.iconst (-1), 1) := by decide +kernel
theorem dX6_flat_409 : decode cX6_flat 409 = .ok (.if_icmp .ne 7, 3) := by decide +kernel
theorem dX6_flat_412 : decode cX6_flat 412 = .ok (.iconst (-1), 1) := by decide +kernel
theorem dX6_flat_413 : decode cX6_flat 413 = .ok (.goto 23, 3) := by decide +kernel
theorem dX6_flat_416 : decode cX6_flat 416 = .ok (.aload_n 0, 1) := by decide +kernel
theorem dX6_flat_417 : decode cX6_flat 417 = .ok (.getfield 70, 3) := by decide +kernel
theorem dX6_flat_420 : decode cX6_flat 420 = .ok (.aload_n 0, 1) := by decide +kernel
theorem dX6_flat_421 : decode cX6_flat 421 = .ok (.getfield 52, 3) := by decide +kernel
theorem dX6_flat_424 : decode cX6_flat 424 = .ok (.aload_n 0, 1) := by decide +kernel
theorem dX6_flat_425 : decode cX6_flat 425 = .ok (.getfield 55, 3) := by decide +kernel
theorem dX6_flat_428 : decode cX6_flat 428 = .ok (.iload 6, 2) := by decide +kernel
theorem dX6_flat_430 : decode cX6_flat 430 = .ok (.iaload, 1) := by decide +kernel
theorem dX6_flat_431 : decode cX6_flat 431 = .ok (.iaload, 1) := by decide +kernel
theorem dX6_flat_432 : decode cX6_flat 432 = .ok (.iload 10, 2) := by decide +kernel
theorem dX6_flat_434 : decode cX6_flat 434 = .ok (.iadd, 1) := by decide +kernel
theorem dX6_flat_435 : decode cX6_flat 435 = .ok (.iaload, 1) := by decide +kernel
theorem dX6_flat_436 : decode cX6_flat 436 = .ok (.iastore, 1) := by decide +kernel
theorem dX6_flat_437 : decode cX6_flat 437 = .ok (.iinc 9 1, 3) := by decide +kernel
theorem dX6_flat_440 : decode cX6_flat 440 = .ok (.goto (-79), 3) := by decide +kernel
theorem dX6_flat_443 : decode cX6_flat 443 = .ok (.iinc 6 1, 3) := by decide +kernel
theorem dX6_flat_446 : decode cX6_flat 446 = .ok (.goto (-154), 3) := by decide +kernel
theorem dX6_flat_449 : decode cX6_flat 449 = .ok (.iload 5, 2) := by decide +kernel
theorem dX6_flat_451 : decode cX6_flat 451 = .ok (.ireturn, 1) := by decide +kernel
theorem dX6_path_0 : decode cX6_path 0 = .ok (.iload_n 1, 1) := by decide +kernel
theorem dX6_path_1 : decode cX6_path 1 = .ok (.aload_n 0, 1) := by decide +kernel
theorem dX6_path_2 : decode cX6_path 2 = .ok (.getfield 89, 3) := by decide +kernel
theorem dX6_path_5 : decode cX6_path 5 = .ok (.invokestatic 99, 3) := by decide +kernel
theorem dX6_path_8 : decode cX6_path 8 = .ok (.ifCond .eq 24, 3) := by decide +kernel
theorem dX6_path_11 : decode cX6_path 11 = .ok (.iload_n 2, 1) := by decide +kernel
theorem dX6_path_12 : decode cX6_path 12 = .ok (.aload_n 0, 1) := by decide +kernel
theorem dX6_path_13 : decode cX6_path 13 = .ok (.getfield 20, 3) := by decide +kernel
theorem dX6_path_16 : decode cX6_path 16 = .ok (.iload_n 1, 1) := by decide +kernel
theorem dX6_path_17 : decode cX6_path 17 = .ok (.iaload, 1) := by decide +kernel
theorem dX6_path_18 : decode cX6_path 18 = .ok (.invokestatic 99, 3) := by decide +kernel
theorem dX6_path_21 : decode cX6_path 21 = .ok (.ifCond .eq 11, 3) := by decide +kernel
theorem dX6_path_24 : decode cX6_path 24 = .ok (.iload_n 3, 1) := by decide +kernel
theorem dX6_path_25 : decode cX6_path 25 = .ok (.ifCond .lt 7, 3) := by decide +kernel
theorem dX6_path_28 : decode cX6_path 28 = .ok (.iconst 1, 1) := by decide +kernel
theorem dX6_path_29 : decode cX6_path 29 = .ok (.goto 4, 3) := by decide +kernel
theorem dX6_path_32 : decode cX6_path 32 = .ok (.iconst 0, 1) := by decide +kernel
theorem dX6_path_33 : decode cX6_path 33 = .ok (.istore 4, 2) := by decide +kernel
theorem dX6_path_35 : decode cX6_path 35 = .ok (.aload_n 0, 1) := by decide +kernel
theorem dX6_path_36 : decode cX6_path 36 = .ok (.iload 4, 2) := by decide +kernel
theorem dX6_path_38 : decode cX6_path 38 = .ok (.ifCond .ne 7, 3) := by decide +kernel
theorem dX6_path_41 : decode cX6_path 41 = .ok (.iconst 1, 1) := by decide +kernel
theorem dX6_path_42 : decode cX6_path 42 = .ok (.goto 4, 3) := by decide +kernel
theorem dX6_path_45 : decode cX6_path 45 = .ok (.iconst 0, 1) := by decide +kernel
theorem dX6_path_46 : decode cX6_path 46 = .ok (.iconst 0, 1) := by decide +kernel
theorem dX6_path_47 : decode cX6_path 47 = .ok (.invokevirtual 107, 3) := by decide +kernel
theorem dX6_path_50 : decode cX6_path 50 = .ok (.ifCond .eq 5, 3) := by decide +kernel
theorem dX6_path_53 : decode cX6_path 53 = .ok (.iconst 0, 1) := by decide +kernel
theorem dX6_path_54 : decode cX6_path 54 = .ok (.ireturn, 1) := by decide +kernel
theorem dX6_path_55 : decode cX6_path 55 = .ok (.bipush 64, 2) := by decide +kernel
theorem dX6_path_57 : decode cX6_path 57 = .ok (.iload_n 1, 1) := by decide +kernel
theorem dX6_path_58 : decode cX6_path 58 = .ok (.imul, 1) := by decide +kernel
theorem dX6_path_59 : decode cX6_path 59 = .ok (.iload_n 2, 1) := by decide +kernel
theorem dX6_path_60 : decode cX6_path 60 = .ok (.iadd, 1) := by decide +kernel
theorem dX6_path_61 : decode cX6_path 61 = .ok (.istore 5, 2) := by decide +kernel
theorem dX6_path_63 : decode cX6_path 63 = .ok (.aload_n 0, 1) := by decide +kernel
theorem dX6_path_64 : decode cX6_path 64 = .ok (.getfield 36, 3) := by decide +kernel
theorem dX6_path_67 : decode cX6_path 67 = .ok (.iload 5, 2) := by decide +kernel
theorem dX6_path_69 : decode cX6_path 69 = .ok (.iaload, 1) := by decide +kernel
theorem dX6_path_70 : decode cX6_path 70 = .ok (.ifCond .ne 13, 3) := by decide +kernel
theorem dX6_path_73 : decode cX6_path 73 = .ok (.iload_n 3, 1) := by decide +kernel
theorem dX6_path_74 : decode cX6_path 74 = .ok (.ifCond .ne 7, 3) := by decide +kernel
theorem dX6_path_77 : decode cX6_path 77 = .ok (.iload_n 2, 1) := by decide +kernel
theorem dX6_path_78 : decode cX6_path 78 = .ok (.goto 4, 3) := by decide +kernel
theorem dX6_path_81 : decode cX6_path 81 = .ok (.iconst (-1), 1) := by decide +kernel
theorem dX6_path_82 : decode cX6_path 82 = .ok (.ireturn, 1) := by decide +kernel
theorem dX6_path_83 : decode cX6_path 83 = .ok (.iload_n 3, 1) := by decide +kernel
theorem dX6_path_84 : decode cX6_path 84 = .ok (.aload_n 0, 1) := by decide +kernel
theorem dX6_path_85 : decode cX6_path 85 = .ok (.getfield 36, 3) := by decide +kernel
theorem dX6_path_88 : decode cX6_path 88 = .ok (.iload 5, 2) := by decide +kernel
theorem dX6_path_90 : decode cX6_path 90 = .ok (.iaload, 1) := by decide +kernel
theorem dX6_path_91 : decode cX6_path 91 = .ok (.if_icmp .ge 18, 3) := by decide +kernel
theorem dX6_path_94 : decode cX6_path 94 = .ok (.aload_n 0, 1) := by decide +kernel
theorem dX6_path_95 : decode cX6_path 95 = .ok (.getfield 40, 3) := by decide +kernel
theorem dX6_path_98 : decode cX6_path 98 = .ok (.bipush 24, 2) := by decide +kernel
theorem dX6_path_100 : decode cX6_path 100 = .ok (.iload 5, 2) := by decide +kernel
theorem dX6_path_102 : decode cX6_path 102 = .ok (.imul, 1) := by decide +kernel
theorem dX6_path_103 : decode cX6_path 103 = .ok (.iload_n 3, 1) := by decide +kernel
theorem dX6_path_104 : decode cX6_path 104 = .ok (.iadd, 1) := by decide +kernel
theorem dX6_path_105 : decode cX6_path 105 = .ok (.iaload, 1) := by decide +kernel
theorem dX6_path_106 : decode cX6_path 106 = .ok (.goto 4, 3) := by decide +kernel
theorem dX6_path_109 : decode cX6_path 109 = .ok (.iconst (-1), 1) := by decide +kernel
theorem dX6_path_110 : decode cX6_path 110 = .ok (.ireturn, 1) := by decide +kernel
theorem dX6_doubled_0 : decode cX6_doubled 0 = .ok (.aload_n 0, 1) := by decide +kernel
theorem dX6_doubled_1 : decode cX6_doubled 1 = .ok (.iload_n 1, 1) := by decide +kernel
theorem dX6_doubled_2 : decode cX6_doubled 2 = .ok (.aload_n 0, 1) := by decide +kernel
theorem dX6_doubled_3 : decode cX6_doubled 3 = .ok (.getfield 89, 3) := by decide +kernel
theorem dX6_doubled_6 : decode cX6_doubled 6 = .ok (.invokestatic 99, 3) := by decide +kernel
theorem dX6_doubled_9 : decode cX6_doubled 9 = .ok (.ifCond .eq 7, 3) := by decide +kernel
theorem dX6_doubled_12 : decode cX6_doubled 12 = .ok (.iload_n 2, 1) := by decide +kernel
theorem dX6_doubled_13 : decode cX6_doubled 13 = .ok (.ifCond .ge 7, 3) := by decide +kernel
theorem dX6_doubled_16 : decode cX6_doubled 16 = .ok (.iconst 1, 1) := by decide +kernel
theorem dX6_doubled_17 : decode cX6_doubled 17 = .ok (.goto 4, 3) := by decide +kernel
theorem dX6_doubled_20 : decode cX6_doubled 20 = .ok (.iconst 0, 1) := by decide +kernel
theorem dX6_doubled_21 : decode cX6_doubled 21 = .ok (.iconst 0, 1) := by decide +kernel
theorem dX6_doubled_22 : decode cX6_doubled 22 = .ok (.invokevirtual 107, 3) := by decide +kernel
theorem dX6_doubled_25 : decode cX6_doubled 25 = .ok (.ifCond .eq 5, 3) := by decide +kernel
theorem dX6_doubled_28 : decode cX6_doubled 28 = .ok (.iconst 0, 1) := by decide +kernel
theorem dX6_doubled_29 : decode cX6_doubled 29 = .ok (.ireturn, 1) := by decide +kernel
theorem dX6_doubled_30 : decode cX6_doubled 30 = .ok (.iload_n 2, 1) := by decide +kernel
theorem dX6_doubled_31 : decode cX6_doubled 31 = .ok (.istore_n 3, 1) := by decide +kernel
theorem dX6_doubled_32 : decode cX6_doubled 32 = .ok (.iconst 0, 1) := by decide +kernel
theorem dX6_doubled_33 : decode cX6_doubled 33 = .ok (.istore 4, 2) := by decide +kernel
theorem dX6_doubled_35 : decode cX6_doubled 35 = .ok (.iload 4, 2) := by decide +kernel
theorem dX6_doubled_37 : decode cX6_doubled 37 = .ok (.aload_n 0, 1) := by decide +kernel
theorem dX6_doubled_38 : decode cX6_doubled 38 = .ok (.getfield 26, 3) := by decide +kernel
theorem dX6_doubled_41 : decode cX6_doubled 41 = .ok (.iload_n 1, 1) := by decide +kernel
theorem dX6_doubled_42 : decode cX6_doubled 42 = .ok (.iaload, 1) := by decide +kernel
theorem dX6_doubled_43 : decode cX6_doubled 43 = .ok (.if_icmp .ge 31, 3) := by decide +kernel
theorem dX6_doubled_46 : decode cX6_doubled 46 = .ok (.aload_n 0, 1) := by decide +kernel
theorem dX6_doubled_47 : decode cX6_doubled 47 = .ok (.iload_n 1, 1) := by decide +kernel
theorem dX6_doubled_48 : decode cX6_doubled 48 = .ok (.iload 4, 2) := by decide +kernel
theorem dX6_doubled_50 : decode cX6_doubled 50 = .ok (.iconst 1, 1) := by decide +kernel
theorem dX6_doubled_51 : decode cX6_doubled 51 = .ok (.invokevirtual 135, 3) := by decide +kernel
theorem dX6_doubled_54 : decode cX6_doubled 54 = .ok (.iconst 1, 1) := by decide +kernel
theorem dX6_doubled_55 : decode cX6_doubled 55 = .ok (.if_icmp .le 13, 3) := by decide +kernel
theorem dX6_doubled_58 : decode cX6_doubled 58 = .ok (.iload_n 3, 1) := by decide +kernel
theorem dX6_doubled_59 : decode cX6_doubled 59 = .ok (.ifCond .ne 6, 3) := by decide +kernel
theorem dX6_doubled_62 : decode cX6_doubled 62 = .ok (.iload 4, 2) := by decide +kernel
theorem dX6_doubled_64 : decode cX6_doubled 64 = .ok (.ireturn, 1) := by decide +kernel
theorem dX6_doubled_65 : decode cX6_doubled 65 = .ok (.iinc 3 (-1), 3) := by decide +kernel
theorem dX6_doubled_68 : decode cX6_doubled 68 = .ok (.iinc 4 1, 3) := by decide +kernel
theorem dX6_doubled_71 : decode cX6_doubled 71 = .ok (.goto (-36), 3) := by decide +kernel
theorem dX6_doubled_74 : decode cX6_doubled 74 = .ok (.iconst (-1), 1) := by decide +kernel
theorem dX6_doubled_75 : decode cX6_doubled 75 = .ok (.ireturn, 1) := by decide +kernel
theorem dX6_open_0 : decode cX6_open 0 = .ok (.aload_n 0, 1) := by decide +kernel
theorem dX6_open_1 : decode cX6_open 1 = .ok (.iload_n 1, 1) := by decide +kernel
theorem dX6_open_2 : decode cX6_open 2 = .ok (.aload_n 0, 1) := by decide +kernel
theorem dX6_open_3 : decode cX6_open 3 = .ok (.getfield 89, 3) := by decide +kernel
theorem dX6_open_6 : decode cX6_open 6 = .ok (.invokestatic 99, 3) := by decide +kernel
theorem dX6_open_9 : decode cX6_open 9 = .ok (.ifCond .eq 7, 3) := by decide +kernel
theorem dX6_open_12 : decode cX6_open 12 = .ok (.iload_n 2, 1) := by decide +kernel
theorem dX6_open_13 : decode cX6_open 13 = .ok (.ifCond .ge 7, 3) := by decide +kernel
theorem dX6_open_16 : decode cX6_open 16 = .ok (.iconst 1, 1) := by decide +kernel
theorem dX6_open_17 : decode cX6_open 17 = .ok (.goto 4, 3) := by decide +kernel
theorem dX6_open_20 : decode cX6_open 20 = .ok (.iconst 0, 1) := by decide +kernel
theorem dX6_open_21 : decode cX6_open 21 = .ok (.iconst 0, 1) := by decide +kernel
theorem dX6_open_22 : decode cX6_open 22 = .ok (.invokevirtual 107, 3) := by decide +kernel
theorem dX6_open_25 : decode cX6_open 25 = .ok (.ifCond .eq 5, 3) := by decide +kernel
theorem dX6_open_28 : decode cX6_open 28 = .ok (.iconst 0, 1) := by decide +kernel
theorem dX6_open_29 : decode cX6_open 29 = .ok (.ireturn, 1) := by decide +kernel
theorem dX6_open_30 : decode cX6_open 30 = .ok (.iload_n 2, 1) := by decide +kernel
theorem dX6_open_31 : decode cX6_open 31 = .ok (.istore_n 3, 1) := by decide +kernel
theorem dX6_open_32 : decode cX6_open 32 = .ok (.iconst 0, 1) := by decide +kernel
theorem dX6_open_33 : decode cX6_open 33 = .ok (.istore 4, 2) := by decide +kernel
theorem dX6_open_35 : decode cX6_open 35 = .ok (.iload 4, 2) := by decide +kernel
theorem dX6_open_37 : decode cX6_open 37 = .ok (.aload_n 0, 1) := by decide +kernel
theorem dX6_open_38 : decode cX6_open 38 = .ok (.getfield 26, 3) := by decide +kernel
theorem dX6_open_41 : decode cX6_open 41 = .ok (.iload_n 1, 1) := by decide +kernel
theorem dX6_open_42 : decode cX6_open 42 = .ok (.iaload, 1) := by decide +kernel
theorem dX6_open_43 : decode cX6_open 43 = .ok (.if_icmp .ge 41, 3) := by decide +kernel
theorem dX6_open_46 : decode cX6_open 46 = .ok (.aload_n 0, 1) := by decide +kernel
theorem dX6_open_47 : decode cX6_open 47 = .ok (.iload_n 1, 1) := by decide +kernel
theorem dX6_open_48 : decode cX6_open 48 = .ok (.iload 4, 2) := by decide +kernel
theorem dX6_open_50 : decode cX6_open 50 = .ok (.iconst 0, 1) := by decide +kernel
theorem dX6_open_51 : decode cX6_open 51 = .ok (.invokevirtual 135, 3) := by decide +kernel
theorem dX6_open_54 : decode cX6_open 54 = .ok (.ifCond .le 24, 3) := by decide +kernel
theorem dX6_open_57 : decode cX6_open 57 = .ok (.aload_n 0, 1) := by decide +kernel
theorem dX6_open_58 : decode cX6_open 58 = .ok (.iload_n 1, 1) := by decide +kernel
theorem dX6_open_59 : decode cX6_open 59 = .ok (.iload 4, 2) := by decide +kernel
theorem dX6_open_61 : decode cX6_open 61 = .ok (.iconst 1, 1) := by decide +kernel
theorem dX6_open_62 : decode cX6_open 62 = .ok (.invokevirtual 135, 3) := by decide +kernel
theorem dX6_open_65 : decode cX6_open 65 = .ok (.ifCond .ne 13, 3) := by decide +kernel
theorem dX6_open_68 : decode cX6_open 68 = .ok (.iload_n 3, 1) := by decide +kernel
theorem dX6_open_69 : decode cX6_open 69 = .ok (.ifCond .ne 6, 3) := by decide +kernel
theorem dX6_open_72 : decode cX6_open 72 = .ok (.iload 4, 2) := by decide +kernel
theorem dX6_open_74 : decode cX6_open 74 = .ok (.ireturn, 1) := by decide +kernel
theorem dX6_open_75 : decode cX6_open 75 = .ok (.iinc 3 (-1), 3) := by decide +kernel
theorem dX6_open_78 : decode cX6_open 78 = .ok (.iinc 4 1, 3) := by decide +kernel
theorem dX6_open_81 : decode cX6_open 81 = .ok (.goto (-46), 3) := by decide +kernel
theorem dX6_open_84 : decode cX6_open 84 = .ok (.iconst (-1), 1) := by decide +kernel
theorem dX6_open_85 : decode cX6_open 85 = .ok (.ireturn, 1) := by decide +kernel
theorem dX6_looksAlike_0 : decode cX6_looksAlike 0 = .ok (.aload_n 0, 1) := by decide +kernel
theorem dX6_looksAlike_1 : decode cX6_looksAlike 1 = .ok (.getfield 7, 3) := by decide +kernel
theorem dX6_looksAlike_4 : decode cX6_looksAlike 4 = .ok (.iload_n 1, 1) := by decide +kernel
theorem dX6_looksAlike_5 : decode cX6_looksAlike 5 = .ok (.iaload, 1) := by decide +kernel
theorem dX6_looksAlike_6 : decode cX6_looksAlike 6 = .ok (.aload_n 0, 1) := by decide +kernel
theorem dX6_looksAlike_7 : decode cX6_looksAlike 7 = .ok (.getfield 7, 3) := by decide +kernel
theorem dX6_looksAlike_10 : decode cX6_looksAlike 10 = .ok (.iload_n 2, 1) := by decide +kernel
theorem dX6_looksAlike_11 : decode cX6_looksAlike 11 = .ok (.iaload, 1) := by decide +kernel
theorem dX6_looksAlike_12 : decode cX6_looksAlike 12 = .ok (.if_icmp .ne 37, 3) := by decide +kernel
theorem dX6_looksAlike_15 : decode cX6_looksAlike 15 = .ok (.aload_n 0, 1) := by decide +kernel
theorem dX6_looksAlike_16 : decode cX6_looksAlike 16 = .ok (.getfield 20, 3) := by decide +kernel
theorem dX6_looksAlike_19 : decode cX6_looksAlike 19 = .ok (.iload_n 1, 1) := by decide +kernel
theorem dX6_looksAlike_20 : decode cX6_looksAlike 20 = .ok (.iaload, 1) := by decide +kernel
theorem dX6_looksAlike_21 : decode cX6_looksAlike 21 = .ok (.aload_n 0, 1) := by decide +kernel
theorem dX6_looksAlike_22 : decode cX6_looksAlike 22 = .ok (.getfield 20, 3) := by decide +kernel
theorem dX6_looksAlike_25 : decode cX6_looksAlike 25 = .ok (.iload_n 2, 1) := by decide +kernel
theorem dX6_looksAlike_26 : decode cX6_looksAlike 26 = .ok (.iaload, 1) := by decide +kernel
theorem dX6_looksAlike_27 : decode cX6_looksAlike 27 = .ok (.if_icmp .ne 22, 3) := by decide +kernel
theorem dX6_looksAlike_30 : decode cX6_looksAlike 30 = .ok (.aload_n 0, 1) := by decide +kernel
theorem dX6_looksAlike_31 : decode cX6_looksAlike 31 = .ok (.getfield 26, 3) := by decide +kernel
theorem dX6_looksAlike_34 : decode cX6_looksAlike 34 = .ok (.iload_n 1, 1) := by decide +kernel
theorem dX6_looksAlike_35 : decode cX6_looksAlike 35 = .ok (.iaload, 1) := by decide +kernel
theorem dX6_looksAlike_36 : decode cX6_looksAlike 36 = .ok (.aload_n 0, 1) := by decide +kernel
theorem dX6_looksAlike_37 : decode cX6_looksAlike 37 = .ok (.getfield 26, 3) := by decide +kernel
theorem dX6_looksAlike_40 : decode cX6_looksAlike 40 = .ok (.iload_n 2, 1) := by decide +kernel
theorem dX6_looksAlike_41 : decode cX6_looksAlike 41 = .ok (.iaload, 1) := by decide +kernel
theorem dX6_looksAlike_42 : decode cX6_looksAlike 42 = .ok (.if_icmp .ne 7, 3) := by decide +kernel
theorem dX6_looksAlike_45 : decode cX6_looksAlike 45 = .ok (.iconst 1, 1) := by decide +kernel
theorem dX6_looksAlike_46 : decode cX6_looksAlike 46 = .ok (.goto 4, 3) := by decide +kernel
theorem dX6_looksAlike_49 : decode cX6_looksAlike 49 = .ok (.iconst 0, 1) := by decide +kernel
theorem dX6_looksAlike_50 : decode cX6_looksAlike 50 = .ok (.istore_n 3, 1) := by decide +kernel
theorem dX6_looksAlike_51 : decode cX6_looksAlike 51 = .ok (.iconst 0, 1) := by decide +kernel
theorem dX6_looksAlike_52 : decode cX6_looksAlike 52 = .ok (.istore 4, 2) := by decide +kernel
theorem dX6_looksAlike_54 : decode cX6_looksAlike 54 = .ok (.iload 4, 2) := by decide +kernel
theorem dX6_looksAlike_56 : decode cX6_looksAlike 56 = .ok (.aload_n 0, 1) := by decide +kernel
theorem dX6_looksAlike_57 : decode cX6_looksAlike 57 = .ok (.getfield 7, 3) := by decide +kernel
theorem dX6_looksAlike_60 : decode cX6_looksAlike 60 = .ok (.iload_n 1, 1) := by decide +kernel
theorem dX6_looksAlike_61 : decode cX6_looksAlike 61 = .ok (.iaload, 1) := by decide +kernel
theorem dX6_looksAlike_62 : decode cX6_looksAlike 62 = .ok (.if_icmp .ge 73, 3) := by decide +kernel
theorem dX6_looksAlike_65 : decode cX6_looksAlike 65 = .ok (.iload_n 3, 1) := by decide +kernel
theorem dX6_looksAlike_66 : decode cX6_looksAlike 66 = .ok (.ifCond .eq 69, 3) := by decide +kernel
theorem dX6_looksAlike_69 : decode cX6_looksAlike 69 = .ok (.aload_n 0, 1) := by decide +kernel
theorem dX6_looksAlike_70 : decode cX6_looksAlike 70 = .ok (.getfield 13, 3) := by decide +kernel
theorem dX6_looksAlike_73 : decode cX6_looksAlike 73 = .ok (.bipush 16, 2) := by decide +kernel
theorem dX6_looksAlike_75 : decode cX6_looksAlike 75 = .ok (.iload_n 1, 1) := by decide +kernel
theorem dX6_looksAlike_76 : decode cX6_looksAlike 76 = .ok (.imul, 1) := by decide +kernel
theorem dX6_looksAlike_77 : decode cX6_looksAlike 77 = .ok (.iload 4, 2) := by decide +kernel
theorem dX6_looksAlike_79 : decode cX6_looksAlike 79 = .ok (.iadd, 1) := by decide +kernel
theorem dX6_looksAlike_80 : decode cX6_looksAlike 80 = .ok (.iaload, 1) := by decide +kernel
theorem dX6_looksAlike_81 : decode cX6_looksAlike 81 = .ok (.aload_n 0, 1) := by decide +kernel
theorem dX6_looksAlike_82 : decode cX6_looksAlike 82 = .ok (.getfield 13, 3) := by decide +kernel
theorem dX6_looksAlike_85 : decode cX6_looksAlike 85 = .ok (.bipush 16, 2) := by decide +kernel
theorem dX6_looksAlike_87 : decode cX6_looksAlike 87 = .ok (.iload_n 2, 1) := by decide +kernel
theorem dX6_looksAlike_88 : decode cX6_looksAlike 88 = .ok (.imul, 1) := by decide +kernel
theorem dX6_looksAlike_89 : decode cX6_looksAlike 89 = .ok (.iload 4, 2) := by decide +kernel
theorem dX6_looksAlike_91 : decode cX6_looksAlike 91 = .ok (.iadd, 1) := by decide +kernel
theorem dX6_looksAlike_92 : decode cX6_looksAlike 92 = .ok (.iaload, 1) := by decide +kernel
theorem dX6_looksAlike_93 : decode cX6_looksAlike 93 = .ok (.if_icmp .ne 34, 3) := by decide +kernel
theorem dX6_looksAlike_96 : decode cX6_looksAlike 96 = .ok (.aload_n 0, 1) := by decide +kernel
theorem dX6_looksAlike_97 : decode cX6_looksAlike 97 = .ok (.getfield 16, 3) := by decide +kernel
theorem dX6_looksAlike_100 : decode cX6_looksAlike 100 = .ok (.bipush 16, 2) := by decide +kernel
theorem dX6_looksAlike_102 : decode cX6_looksAlike 102 = .ok (.iload_n 1, 1) := by decide +kernel
theorem dX6_looksAlike_103 : decode cX6_looksAlike 103 = .ok (.imul, 1) := by decide +kernel
theorem dX6_looksAlike_104 : decode cX6_looksAlike 104 = .ok (.iload 4, 2) := by decide +kernel
theorem dX6_looksAlike_106 : decode cX6_looksAlike 106 = .ok (.iadd, 1) := by decide +kernel
theorem dX6_looksAlike_107 : decode cX6_looksAlike 107 = .ok (.baload, 1) := by decide +kernel
theorem dX6_looksAlike_108 : decode cX6_looksAlike 108 = .ok (.aload_n 0, 1) := by decide +kernel
theorem dX6_looksAlike_109 : decode cX6_looksAlike 109 = .ok (.getfield 16, 3) := by decide +kernel
theorem dX6_looksAlike_112 : decode cX6_looksAlike 112 = .ok (.bipush 16, 2) := by decide +kernel
theorem dX6_looksAlike_114 : decode cX6_looksAlike 114 = .ok (.iload_n 2, 1) := by decide +kernel
theorem dX6_looksAlike_115 : decode cX6_looksAlike 115 = .ok (.imul, 1) := by decide +kernel
theorem dX6_looksAlike_116 : decode cX6_looksAlike 116 = .ok (.iload 4, 2) := by decide +kernel
theorem dX6_looksAlike_118 : decode cX6_looksAlike 118 = .ok (.iadd, 1) := by decide +kernel
theorem dX6_looksAlike_119 : decode cX6_looksAlike 119 = .ok (.baload, 1) := by decide +kernel
theorem dX6_looksAlike_120 : decode cX6_looksAlike 120 = .ok (.if_icmp .ne 7, 3) := by decide +kernel
theorem dX6_looksAlike_123 : decode cX6_looksAlike 123 = .ok (.iconst 1, 1) := by decide +kernel
theorem dX6_looksAlike_124 : decode cX6_looksAlike 124 = .ok (.goto 4, 3) := by decide +kernel
theorem dX6_looksAlike_127 : decode cX6_looksAlike 127 = .ok (.iconst 0, 1) := by decide +kernel
theorem dX6_looksAlike_128 : decode cX6_looksAlike 128 = .ok (.istore_n 3, 1) := by decide +kernel
theorem dX6_looksAlike_129 : decode cX6_looksAlike 129 = .ok (.iinc 4 1, 3) := by decide +kernel
theorem dX6_looksAlike_132 : decode cX6_looksAlike 132 = .ok (.goto (-78), 3) := by decide +kernel
theorem dX6_looksAlike_135 : decode cX6_looksAlike 135 = .ok (.iconst 0, 1) := by decide +kernel
theorem dX6_looksAlike_136 : decode cX6_looksAlike 136 = .ok (.istore 4, 2) := by decide +kernel
theorem dX6_looksAlike_138 : decode cX6_looksAlike 138 = .ok (.iload 4, 2) := by decide +kernel
theorem dX6_looksAlike_140 : decode cX6_looksAlike 140 = .ok (.aload_n 0, 1) := by decide +kernel
theorem dX6_looksAlike_141 : decode cX6_looksAlike 141 = .ok (.getfield 20, 3) := by decide +kernel
theorem dX6_looksAlike_144 : decode cX6_looksAlike 144 = .ok (.iload_n 1, 1) := by decide +kernel
theorem dX6_looksAlike_145 : decode cX6_looksAlike 145 = .ok (.iaload, 1) := by decide +kernel
theorem dX6_looksAlike_146 : decode cX6_looksAlike 146 = .ok (.if_icmp .ge 47, 3) := by decide +kernel
theorem dX6_looksAlike_149 : decode cX6_looksAlike 149 = .ok (.iload_n 3, 1) := by decide +kernel
theorem dX6_looksAlike_150 : decode cX6_looksAlike 150 = .ok (.ifCond .eq 43, 3) := by decide +kernel
theorem dX6_looksAlike_153 : decode cX6_looksAlike 153 = .ok (.aload_n 0, 1) := by decide +kernel
theorem dX6_looksAlike_154 : decode cX6_looksAlike 154 = .ok (.getfield 73, 3) := by decide +kernel
theorem dX6_looksAlike_157 : decode cX6_looksAlike 157 = .ok (.bipush 24, 2) := by decide +kernel
theorem dX6_looksAlike_159 : decode cX6_looksAlike 159 = .ok (.aload_n 0, 1) := by decide +kernel
theorem dX6_looksAlike_160 : decode cX6_looksAlike 160 = .ok (.getfield 23, 3) := by decide +kernel
theorem dX6_looksAlike_163 : decode cX6_looksAlike 163 = .ok (.bipush 64, 2) := by decide +kernel
theorem dX6_looksAlike_165 : decode cX6_looksAlike 165 = .ok (.iload_n 1, 1) := by decide +kernel
theorem dX6_looksAlike_166 : decode cX6_looksAlike 166 = .ok (.imul, 1) := by decide +kernel
theorem dX6_looksAlike_167 : decode cX6_looksAlike 167 = .ok (.iload 4, 2) := by decide +kernel
theorem dX6_looksAlike_169 : decode cX6_looksAlike 169 = .ok (.iadd, 1) := by decide +kernel
theorem dX6_looksAlike_170 : decode cX6_looksAlike 170 = .ok (.iaload, 1) := by decide +kernel
theorem dX6_looksAlike_171 : decode cX6_looksAlike 171 = .ok (.imul, 1) := by decide +kernel
theorem dX6_looksAlike_172 : decode cX6_looksAlike 172 = .ok (.aload_n 0, 1) := by decide +kernel
theorem dX6_looksAlike_173 : decode cX6_looksAlike 173 = .ok (.getfield 23, 3) := by decide +kernel
theorem dX6_looksAlike_176 : decode cX6_looksAlike 176 = .ok (.bipush 64, 2) := by decide +kernel
theorem dX6_looksAlike_178 : decode cX6_looksAlike 178 = .ok (.iload_n 2, 1) := by decide +kernel
theorem dX6_looksAlike_179 : decode cX6_looksAlike 179 = .ok (.imul, 1) := by decide +kernel
theorem dX6_looksAlike_180 : decode cX6_looksAlike 180 = .ok (.iload 4, 2) := by decide +kernel
theorem dX6_looksAlike_182 : decode cX6_looksAlike 182 = .ok (.iadd, 1) := by decide +kernel
theorem dX6_looksAlike_183 : decode cX6_looksAlike 183 = .ok (.iaload, 1) := by decide +kernel
theorem dX6_looksAlike_184 : decode cX6_looksAlike 184 = .ok (.iadd, 1) := by decide +kernel
theorem dX6_looksAlike_185 : decode cX6_looksAlike 185 = .ok (.baload, 1) := by decide +kernel
theorem dX6_looksAlike_186 : decode cX6_looksAlike 186 = .ok (.istore_n 3, 1) := by decide +kernel
theorem dX6_looksAlike_187 : decode cX6_looksAlike 187 = .ok (.iinc 4 1, 3) := by decide +kernel
theorem dX6_looksAlike_190 : decode cX6_looksAlike 190 = .ok (.goto (-52), 3) := by decide +kernel
theorem dX6_looksAlike_193 : decode cX6_looksAlike 193 = .ok (.iconst (-1), 1) := by decide +kernel
theorem dX6_looksAlike_194 : decode cX6_looksAlike 194 = .ok (.istore 4, 2) := by decide +kernel
theorem dX6_looksAlike_196 : decode cX6_looksAlike 196 = .ok (.iload 4, 2) := by decide +kernel
theorem dX6_looksAlike_198 : decode cX6_looksAlike 198 = .ok (.aload_n 0, 1) := by decide +kernel
theorem dX6_looksAlike_199 : decode cX6_looksAlike 199 = .ok (.getfield 20, 3) := by decide +kernel
theorem dX6_looksAlike_202 : decode cX6_looksAlike 202 = .ok (.iload_n 1, 1) := by decide +kernel
theorem dX6_looksAlike_203 : decode cX6_looksAlike 203 = .ok (.iaload, 1) := by decide +kernel
theorem dX6_looksAlike_204 : decode cX6_looksAlike 204 = .ok (.if_icmp .ge 96, 3) := by decide +kernel
theorem dX6_looksAlike_207 : decode cX6_looksAlike 207 = .ok (.iload_n 3, 1) := by decide +kernel
theorem dX6_looksAlike_208 : decode cX6_looksAlike 208 = .ok (.ifCond .eq 92, 3) := by decide +kernel
theorem dX6_looksAlike_211 : decode cX6_looksAlike 211 = .ok (.aload_n 0, 1) := by decide +kernel
theorem dX6_looksAlike_212 : decode cX6_looksAlike 212 = .ok (.iload 4, 2) := by decide +kernel
theorem dX6_looksAlike_214 : decode cX6_looksAlike 214 = .ok (.iconst (-1), 1) := by decide +kernel
theorem dX6_looksAlike_215 : decode cX6_looksAlike 215 = .ok (.if_icmp .ne 7, 3) := by decide +kernel
theorem dX6_looksAlike_218 : decode cX6_looksAlike 218 = .ok (.iload_n 1, 1) := by decide +kernel
theorem dX6_looksAlike_219 : decode cX6_looksAlike 219 = .ok (.goto 15, 3) := by decide +kernel
theorem dX6_looksAlike_222 : decode cX6_looksAlike 222 = .ok (.aload_n 0, 1) := by decide +kernel
theorem dX6_looksAlike_223 : decode cX6_looksAlike 223 = .ok (.getfield 23, 3) := by decide +kernel
theorem dX6_looksAlike_226 : decode cX6_looksAlike 226 = .ok (.bipush 64, 2) := by decide +kernel
theorem dX6_looksAlike_228 : decode cX6_looksAlike 228 = .ok (.iload_n 1, 1) := by decide +kernel
theorem dX6_looksAlike_229 : decode cX6_looksAlike 229 = .ok (.imul, 1) := by decide +kernel
theorem dX6_looksAlike_230 : decode cX6_looksAlike 230 = .ok (.iload 4, 2) := by decide +kernel
theorem dX6_looksAlike_232 : decode cX6_looksAlike 232 = .ok (.iadd, 1) := by decide +kernel
theorem dX6_looksAlike_233 : decode cX6_looksAlike 233 = .ok (.iaload, 1) := by decide +kernel
theorem dX6_looksAlike_234 : decode cX6_looksAlike 234 = .ok (.invokevirtual 117, 3) := by decide +kernel
theorem dX6_looksAlike_237 : decode cX6_looksAlike 237 = .ok (.istore 5, 2) := by decide +kernel
theorem dX6_looksAlike_239 : decode cX6_looksAlike 239 = .ok (.iconst 0, 1) := by decide +kernel
theorem dX6_looksAlike_240 : decode cX6_looksAlike 240 = .ok (.istore 6, 2) := by decide +kernel
theorem dX6_looksAlike_242 : decode cX6_looksAlike 242 = .ok (.iload 6, 2) := by decide +kernel
theorem dX6_looksAlike_244 : decode cX6_looksAlike 244 = .ok (.iload 5, 2) := by decide +kernel
theorem dX6_looksAlike_246 : decode cX6_looksAlike 246 = .ok (.if_icmp .ge 48, 3) := by decide +kernel
theorem dX6_looksAlike_249 : decode cX6_looksAlike 249 = .ok (.iload_n 3, 1) := by decide +kernel
theorem dX6_looksAlike_250 : decode cX6_looksAlike 250 = .ok (.ifCond .eq 44, 3) := by decide +kernel
theorem dX6_looksAlike_253 : decode cX6_looksAlike 253 = .ok (.aload_n 0, 1) := by decide +kernel
theorem dX6_looksAlike_254 : decode cX6_looksAlike 254 = .ok (.getfield 33, 3) := by decide +kernel
theorem dX6_looksAlike_257 : decode cX6_looksAlike 257 = .ok (.iload_n 1, 1) := by decide +kernel
theorem dX6_looksAlike_258 : decode cX6_looksAlike 258 = .ok (.iload 4, 2) := by decide +kernel
theorem dX6_looksAlike_260 : decode cX6_looksAlike 260 = .ok (.iload 6, 2) := by decide +kernel
theorem dX6_looksAlike_262 : decode cX6_looksAlike 262 = .ok (.invokestatic 125, 3) := by decide +kernel
theorem dX6_looksAlike_265 : decode cX6_looksAlike 265 = .ok (.iaload, 1) := by decide +kernel
theorem dX6_looksAlike_266 : decode cX6_looksAlike 266 = .ok (.aload_n 0, 1) := by decide +kernel
theorem dX6_looksAlike_267 : decode cX6_looksAlike 267 = .ok (.getfield 33, 3) := by decide +kernel
theorem dX6_looksAlike_270 : decode cX6_looksAlike 270 = .ok (.iload_n 2, 1) := by decide +kernel
theorem dX6_looksAlike_271 : decode cX6_looksAlike 271 = .ok (.iload 4, 2) := by decide +kernel
theorem dX6_looksAlike_273 : decode cX6_looksAlike 273 = .ok (.iload 6, 2) := by decide +kernel
theorem dX6_looksAlike_275 : decode cX6_looksAlike 275 = .ok (.invokestatic 125, 3) := by decide +kernel
theorem dX6_looksAlike_278 : decode cX6_looksAlike 278 = .ok (.iaload, 1) := by decide +kernel
theorem dX6_looksAlike_279 : decode cX6_looksAlike 279 = .ok (.if_icmp .ne 7, 3) := by decide +kernel
theorem dX6_looksAlike_282 : decode cX6_looksAlike 282 = .ok (.iconst 1, 1) := by decide +kernel
theorem dX6_looksAlike_283 : decode cX6_looksAlike 283 = .ok (.goto 4, 3) := by decide +kernel
theorem dX6_looksAlike_286 : decode cX6_looksAlike 286 = .ok (.iconst 0, 1) := by decide +kernel
theorem dX6_looksAlike_287 : decode cX6_looksAlike 287 = .ok (.istore_n 3, 1) := by decide +kernel
theorem dX6_looksAlike_288 : decode cX6_looksAlike 288 = .ok (.iinc 6 1, 3) := by decide +kernel
theorem dX6_looksAlike_291 : decode cX6_looksAlike 291 = .ok (.goto (-49), 3) := by decide +kernel
theorem dX6_looksAlike_294 : decode cX6_looksAlike 294 = .ok (.iinc 4 1, 3) := by decide +kernel
theorem dX6_looksAlike_297 : decode cX6_looksAlike 297 = .ok (.goto (-101), 3) := by decide +kernel
theorem dX6_looksAlike_300 : decode cX6_looksAlike 300 = .ok (.iload_n 3, 1) := by decide +kernel
theorem dX6_looksAlike_301 : decode cX6_looksAlike 301 = .ok (.ireturn, 1) := by decide +kernel
theorem dX6_findAlike_0 : decode cX6_findAlike 0 = .ok (.iconst 0, 1) := by decide +kernel
theorem dX6_findAlike_1 : decode cX6_findAlike 1 = .ok (.istore_n 1, 1) := by decide +kernel
theorem dX6_findAlike_2 : decode cX6_findAlike 2 = .ok (.iload_n 1, 1) := by decide +kernel
theorem dX6_findAlike_3 : decode cX6_findAlike 3 = .ok (.sipush 576, 3) := by decide +kernel
theorem dX6_findAlike_6 : decode cX6_findAlike 6 = .ok (.if_icmp .ge 16, 3) := by decide +kernel
theorem dX6_findAlike_9 : decode cX6_findAlike 9 = .ok (.aload_n 0, 1) := by decide +kernel
theorem dX6_findAlike_10 : decode cX6_findAlike 10 = .ok (.getfield 73, 3) := by decide +kernel
theorem dX6_findAlike_13 : decode cX6_findAlike 13 = .ok (.iload_n 1, 1) := by decide +kernel
theorem dX6_findAlike_14 : decode cX6_findAlike 14 = .ok (.iconst 1, 1) := by decide +kernel
theorem dX6_findAlike_15 : decode cX6_findAlike 15 = .ok (.bastore, 1) := by decide +kernel
theorem dX6_findAlike_16 : decode cX6_findAlike 16 = .ok (.iinc 1 1, 3) := by decide +kernel
theorem dX6_findAlike_19 : decode cX6_findAlike 19 = .ok (.goto (-17), 3) := by decide +kernel
theorem dX6_findAlike_22 : decode cX6_findAlike 22 = .ok (.iconst 1, 1) := by decide +kernel
theorem dX6_findAlike_23 : decode cX6_findAlike 23 = .ok (.istore_n 1, 1) := by decide +kernel
theorem dX6_findAlike_24 : decode cX6_findAlike 24 = .ok (.iload_n 1, 1) := by decide +kernel
theorem dX6_findAlike_25 : decode cX6_findAlike 25 = .ok (.ifCond .eq 77, 3) := by decide +kernel
theorem dX6_findAlike_28 : decode cX6_findAlike 28 = .ok (.iconst 0, 1) := by decide +kernel
theorem dX6_findAlike_29 : decode cX6_findAlike 29 = .ok (.istore_n 1, 1) := by decide +kernel
theorem dX6_findAlike_30 : decode cX6_findAlike 30 = .ok (.iconst 0, 1) := by decide +kernel
theorem dX6_findAlike_31 : decode cX6_findAlike 31 = .ok (.istore_n 2, 1) := by decide +kernel
theorem dX6_findAlike_32 : decode cX6_findAlike 32 = .ok (.iload_n 2, 1) := by decide +kernel
theorem dX6_findAlike_33 : decode cX6_findAlike 33 = .ok (.aload_n 0, 1) := by decide +kernel
theorem dX6_findAlike_34 : decode cX6_findAlike 34 = .ok (.getfield 89, 3) := by decide +kernel
theorem dX6_findAlike_37 : decode cX6_findAlike 37 = .ok (.if_icmp .ge 62, 3) := by decide +kernel
theorem dX6_findAlike_40 : decode cX6_findAlike 40 = .ok (.iconst 0, 1) := by decide +kernel
theorem dX6_findAlike_41 : decode cX6_findAlike 41 = .ok (.istore_n 3, 1) := by decide +kernel
theorem dX6_findAlike_42 : decode cX6_findAlike 42 = .ok (.iload_n 3, 1) := by decide +kernel
theorem dX6_findAlike_43 : decode cX6_findAlike 43 = .ok (.aload_n 0, 1) := by decide +kernel
theorem dX6_findAlike_44 : decode cX6_findAlike 44 = .ok (.getfield 89, 3) := by decide +kernel
theorem dX6_findAlike_47 : decode cX6_findAlike 47 = .ok (.if_icmp .ge 46, 3) := by decide +kernel
theorem dX6_findAlike_50 : decode cX6_findAlike 50 = .ok (.aload_n 0, 1) := by decide +kernel
theorem dX6_findAlike_51 : decode cX6_findAlike 51 = .ok (.getfield 73, 3) := by decide +kernel
theorem dX6_findAlike_54 : decode cX6_findAlike 54 = .ok (.bipush 24, 2) := by decide +kernel
theorem dX6_findAlike_56 : decode cX6_findAlike 56 = .ok (.iload_n 2, 1) := by decide +kernel
theorem dX6_findAlike_57 : decode cX6_findAlike 57 = .ok (.imul, 1) := by decide +kernel
theorem dX6_findAlike_58 : decode cX6_findAlike 58 = .ok (.iload_n 3, 1) := by decide +kernel
theorem dX6_findAlike_59 : decode cX6_findAlike 59 = .ok (.iadd, 1) := by decide +kernel
theorem dX6_findAlike_60 : decode cX6_findAlike 60 = .ok (.baload, 1) := by decide +kernel
theorem dX6_findAlike_61 : decode cX6_findAlike 61 = .ok (.ifCond .eq 26, 3) := by decide +kernel
theorem dX6_findAlike_64 : decode cX6_findAlike 64 = .ok (.aload_n 0, 1) := by decide +kernel
theorem dX6_findAlike_65 : decode cX6_findAlike 65 = .ok (.iload_n 2, 1) := by decide +kernel
theorem dX6_findAlike_66 : decode cX6_findAlike 66 = .ok (.iload_n 3, 1) := by decide +kernel
theorem dX6_findAlike_67 : decode cX6_findAlike 67 = .ok (.invokevirtual 167, 3) := by decide +kernel
theorem dX6_findAlike_70 : decode cX6_findAlike 70 = .ok (.ifCond .ne 17, 3) := by decide +kernel
theorem dX6_findAlike_73 : decode cX6_findAlike 73 = .ok (.aload_n 0, 1) := by decide +kernel
theorem dX6_findAlike_74 : decode cX6_findAlike 74 = .ok (.getfield 73, 3) := by decide +kernel
theorem dX6_findAlike_77 : decode cX6_findAlike 77 = .ok (.bipush 24, 2) := by decide +kernel
theorem dX6_findAlike_79 : decode cX6_findAlike 79 = .ok (.iload_n 2, 1) := by decide +kernel
theorem dX6_findAlike_80 : decode cX6_findAlike 80 = .ok (.imul, 1) := by decide +kernel
theorem dX6_findAlike_81 : decode cX6_findAlike 81 = .ok (.iload_n 3, 1) := by decide +kernel
theorem dX6_findAlike_82 : decode cX6_findAlike 82 = .ok (.iadd, 1) := by decide +kernel
theorem dX6_findAlike_83 : decode cX6_findAlike 83 = .ok (.iconst 0, 1) := by decide +kernel
theorem dX6_findAlike_84 : decode cX6_findAlike 84 = .ok (.bastore, 1) := by decide +kernel
theorem dX6_findAlike_85 : decode cX6_findAlike 85 = .ok (.iconst 1, 1) := by decide +kernel
theorem dX6_findAlike_86 : decode cX6_findAlike 86 = .ok (.istore_n 1, 1) := by decide +kernel
theorem dX6_findAlike_87 : decode cX6_findAlike 87 = .ok (.iinc 3 1, 3) := by decide +kernel
theorem dX6_findAlike_90 : decode cX6_findAlike 90 = .ok (.goto (-48), 3) := by decide +kernel
theorem dX6_findAlike_93 : decode cX6_findAlike 93 = .ok (.iinc 2 1, 3) := by decide +kernel
theorem dX6_findAlike_96 : decode cX6_findAlike 96 = .ok (.goto (-64), 3) := by decide +kernel
theorem dX6_findAlike_99 : decode cX6_findAlike 99 = .ok (.goto (-75), 3) := by decide +kernel
theorem dX6_findAlike_102 : decode cX6_findAlike 102 = .ok (.return_, 1) := by decide +kernel
theorem dX6_alike_0 : decode cX6_alike 0 = .ok (.aload_n 0, 1) := by decide +kernel
theorem dX6_alike_1 : decode cX6_alike 1 = .ok (.iload_n 1, 1) := by decide +kernel
theorem dX6_alike_2 : decode cX6_alike 2 = .ok (.aload_n 0, 1) := by decide +kernel
theorem dX6_alike_3 : decode cX6_alike 3 = .ok (.getfield 89, 3) := by decide +kernel
theorem dX6_alike_6 : decode cX6_alike 6 = .ok (.invokestatic 99, 3) := by decide +kernel
theorem dX6_alike_9 : decode cX6_alike 9 = .ok (.ifCond .eq 14, 3) := by decide +kernel
theorem dX6_alike_12 : decode cX6_alike 12 = .ok (.iload_n 2, 1) := by decide +kernel
theorem dX6_alike_13 : decode cX6_alike 13 = .ok (.aload_n 0, 1) := by decide +kernel
theorem dX6_alike_14 : decode cX6_alike 14 = .ok (.getfield 89, 3) := by decide +kernel
theorem dX6_alike_17 : decode cX6_alike 17 = .ok (.invokestatic 99, 3) := by decide +kernel
theorem dX6_alike_20 : decode cX6_alike 20 = .ok (.ifCond .ne 7, 3) := by decide +kernel
theorem dX6_alike_23 : decode cX6_alike 23 = .ok (.iconst 1, 1) := by decide +kernel
theorem dX6_alike_24 : decode cX6_alike 24 = .ok (.goto 4, 3) := by decide +kernel
theorem dX6_alike_27 : decode cX6_alike 27 = .ok (.iconst 0, 1) := by decide +kernel
theorem dX6_alike_28 : decode cX6_alike 28 = .ok (.iconst 0, 1) := by decide +kernel
theorem dX6_alike_29 : decode cX6_alike 29 = .ok (.invokevirtual 107, 3) := by decide +kernel
theorem dX6_alike_32 : decode cX6_alike 32 = .ok (.ifCond .eq 5, 3) := by decide +kernel
theorem dX6_alike_35 : decode cX6_alike 35 = .ok (.iconst 0, 1) := by decide +kernel
theorem dX6_alike_36 : decode cX6_alike 36 = .ok (.ireturn, 1) := by decide +kernel
theorem dX6_alike_37 : decode cX6_alike 37 = .ok (.aload_n 0, 1) := by decide +kernel
theorem dX6_alike_38 : decode cX6_alike 38 = .ok (.invokevirtual 170, 3) := by decide +kernel
theorem dX6_alike_41 : decode cX6_alike 41 = .ok (.aload_n 0, 1) := by decide +kernel
theorem dX6_alike_42 : decode cX6_alike 42 = .ok (.getfield 73, 3) := by decide +kernel
theorem dX6_alike_45 : decode cX6_alike 45 = .ok (.bipush 24, 2) := by decide +kernel
theorem dX6_alike_47 : decode cX6_alike 47 = .ok (.iload_n 1, 1) := by decide +kernel
theorem dX6_alike_48 : decode cX6_alike 48 = .ok (.imul, 1) := by decide +kernel
theorem dX6_alike_49 : decode cX6_alike 49 = .ok (.iload_n 2, 1) := by decide +kernel
theorem dX6_alike_50 : decode cX6_alike 50 = .ok (.iadd, 1) := by decide +kernel
theorem dX6_alike_51 : decode cX6_alike 51 = .ok (.baload, 1) := by decide +kernel
theorem dX6_alike_52 : decode cX6_alike 52 = .ok (.ireturn, 1) := by decide +kernel
theorem dX6_kinds_0 : decode cX6_kinds 0 = .ok (.aload_n 0, 1) := by decide +kernel
theorem dX6_kinds_1 : decode cX6_kinds 1 = .ok (.iconst 0, 1) := by decide +kernel
theorem dX6_kinds_2 : decode cX6_kinds 2 = .ok (.putfield 85, 3) := by decide +kernel
theorem dX6_kinds_5 : decode cX6_kinds 5 = .ok (.aload_n 0, 1) := by decide +kernel
theorem dX6_kinds_6 : decode cX6_kinds 6 = .ok (.invokevirtual 170, 3) := by decide +kernel
theorem dX6_kinds_9 : decode cX6_kinds 9 = .ok (.iconst 0, 1) := by decide +kernel
theorem dX6_kinds_10 : decode cX6_kinds 10 = .ok (.istore_n 1, 1) := by decide +kernel
theorem dX6_kinds_11 : decode cX6_kinds 11 = .ok (.iconst 0, 1) := by decide +kernel
theorem dX6_kinds_12 : decode cX6_kinds 12 = .ok (.istore_n 2, 1) := by decide +kernel
theorem dX6_kinds_13 : decode cX6_kinds 13 = .ok (.iload_n 2, 1) := by decide +kernel
theorem dX6_kinds_14 : decode cX6_kinds 14 = .ok (.aload_n 0, 1) := by decide +kernel
theorem dX6_kinds_15 : decode cX6_kinds 15 = .ok (.getfield 89, 3) := by decide +kernel
theorem dX6_kinds_18 : decode cX6_kinds 18 = .ok (.if_icmp .ge 63, 3) := by decide +kernel
theorem dX6_kinds_21 : decode cX6_kinds 21 = .ok (.iconst 1, 1) := by decide +kernel
theorem dX6_kinds_22 : decode cX6_kinds 22 = .ok (.istore_n 3, 1) := by decide +kernel
theorem dX6_kinds_23 : decode cX6_kinds 23 = .ok (.iconst 0, 1) := by decide +kernel
theorem dX6_kinds_24 : decode cX6_kinds 24 = .ok (.istore 4, 2) := by decide +kernel
theorem dX6_kinds_26 : decode cX6_kinds 26 = .ok (.iload 4, 2) := by decide +kernel
theorem dX6_kinds_28 : decode cX6_kinds 28 = .ok (.iload_n 2, 1) := by decide +kernel
theorem dX6_kinds_29 : decode cX6_kinds 29 = .ok (.if_icmp .ge 34, 3) := by decide +kernel
theorem dX6_kinds_32 : decode cX6_kinds 32 = .ok (.iload_n 3, 1) := by decide +kernel
theorem dX6_kinds_33 : decode cX6_kinds 33 = .ok (.ifCond .eq 22, 3) := by decide +kernel
theorem dX6_kinds_36 : decode cX6_kinds 36 = .ok (.aload_n 0, 1) := by decide +kernel
theorem dX6_kinds_37 : decode cX6_kinds 37 = .ok (.getfield 73, 3) := by decide +kernel
theorem dX6_kinds_40 : decode cX6_kinds 40 = .ok (.bipush 24, 2) := by decide +kernel
theorem dX6_kinds_42 : decode cX6_kinds 42 = .ok (.iload 4, 2) := by decide +kernel
theorem dX6_kinds_44 : decode cX6_kinds 44 = .ok (.imul, 1) := by decide +kernel
theorem dX6_kinds_45 : decode cX6_kinds 45 = .ok (.iload_n 2, 1) := by decide +kernel
theorem dX6_kinds_46 : decode cX6_kinds 46 = .ok (.iadd, 1) := by decide +kernel
theorem dX6_kinds_47 : decode cX6_kinds 47 = .ok (.baload, 1) := by decide +kernel
theorem dX6_kinds_48 : decode cX6_kinds 48 = .ok (.ifCond .ne 7, 3) := by decide +kernel
theorem dX6_kinds_51 : decode cX6_kinds 51 = .ok (.iconst 1, 1) := by decide +kernel
theorem dX6_kinds_52 : decode cX6_kinds 52 = .ok (.goto 4, 3) := by decide +kernel
theorem dX6_kinds_55 : decode cX6_kinds 55 = .ok (.iconst 0, 1) := by decide +kernel
theorem dX6_kinds_56 : decode cX6_kinds 56 = .ok (.istore_n 3, 1) := by decide +kernel
theorem dX6_kinds_57 : decode cX6_kinds 57 = .ok (.iinc 4 1, 3) := by decide +kernel
theorem dX6_kinds_60 : decode cX6_kinds 60 = .ok (.goto (-34), 3) := by decide +kernel
theorem dX6_kinds_63 : decode cX6_kinds 63 = .ok (.iload_n 3, 1) := by decide +kernel
theorem dX6_kinds_64 : decode cX6_kinds 64 = .ok (.ifCond .eq 9, 3) := by decide +kernel
theorem dX6_kinds_67 : decode cX6_kinds 67 = .ok (.iload_n 1, 1) := by decide +kernel
theorem dX6_kinds_68 : decode cX6_kinds 68 = .ok (.iconst 1, 1) := by decide +kernel
theorem dX6_kinds_69 : decode cX6_kinds 69 = .ok (.iadd, 1) := by decide +kernel
theorem dX6_kinds_70 : decode cX6_kinds 70 = .ok (.goto 4, 3) := by decide +kernel
theorem dX6_kinds_73 : decode cX6_kinds 73 = .ok (.iload_n 1, 1) := by decide +kernel
theorem dX6_kinds_74 : decode cX6_kinds 74 = .ok (.istore_n 1, 1) := by decide +kernel
theorem dX6_kinds_75 : decode cX6_kinds 75 = .ok (.iinc 2 1, 3) := by decide +kernel
theorem dX6_kinds_78 : decode cX6_kinds 78 = .ok (.goto (-65), 3) := by decide +kernel
theorem dX6_kinds_81 : decode cX6_kinds 81 = .ok (.iload_n 1, 1) := by decide +kernel
theorem dX6_kinds_82 : decode cX6_kinds 82 = .ok (.ireturn, 1) := by decide +kernel
theorem dX6_measure_0 : decode cX6_measure 0 = .ok (.iconst 0, 1) := by decide +kernel
theorem dX6_measure_1 : decode cX6_measure 1 = .ok (.istore_n 1, 1) := by decide +kernel
theorem dX6_measure_2 : decode cX6_measure 2 = .ok (.iload_n 1, 1) := by decide +kernel
theorem dX6_measure_3 : decode cX6_measure 3 = .ok (.aload_n 0, 1) := by decide +kernel
theorem dX6_measure_4 : decode cX6_measure 4 = .ok (.getfield 89, 3) := by decide +kernel
theorem dX6_measure_7 : decode cX6_measure 7 = .ok (.if_icmp .ge 23, 3) := by decide +kernel
theorem dX6_measure_10 : decode cX6_measure 10 = .ok (.aload_n 0, 1) := by decide +kernel
theorem dX6_measure_11 : decode cX6_measure 11 = .ok (.getfield 76, 3) := by decide +kernel
theorem dX6_measure_14 : decode cX6_measure 14 = .ok (.iload_n 1, 1) := by decide +kernel
theorem dX6_measure_15 : decode cX6_measure 15 = .ok (.iconst 0, 1) := by decide +kernel
theorem dX6_measure_16 : decode cX6_measure 16 = .ok (.iastore, 1) := by decide +kernel
theorem dX6_measure_17 : decode cX6_measure 17 = .ok (.aload_n 0, 1) := by decide +kernel
theorem dX6_measure_18 : decode cX6_measure 18 = .ok (.getfield 79, 3) := by decide +kernel
theorem dX6_measure_21 : decode cX6_measure 21 = .ok (.iload_n 1, 1) := by decide +kernel
theorem dX6_measure_22 : decode cX6_measure 22 = .ok (.iconst 1, 1) := by decide +kernel
theorem dX6_measure_23 : decode cX6_measure 23 = .ok (.iastore, 1) := by decide +kernel
theorem dX6_measure_24 : decode cX6_measure 24 = .ok (.iinc 1 1, 3) := by decide +kernel
theorem dX6_measure_27 : decode cX6_measure 27 = .ok (.goto (-25), 3) := by decide +kernel
theorem dX6_measure_30 : decode cX6_measure 30 = .ok (.iconst 1, 1) := by decide +kernel
theorem dX6_measure_31 : decode cX6_measure 31 = .ok (.istore_n 1, 1) := by decide +kernel
theorem dX6_measure_32 : decode cX6_measure 32 = .ok (.iload_n 1, 1) := by decide +kernel
theorem dX6_measure_33 : decode cX6_measure 33 = .ok (.ifCond .eq 181, 3) := by decide +kernel
theorem dX6_measure_36 : decode cX6_measure 36 = .ok (.iconst 0, 1) := by decide +kernel
theorem dX6_measure_37 : decode cX6_measure 37 = .ok (.istore_n 1, 1) := by decide +kernel
theorem dX6_measure_38 : decode cX6_measure 38 = .ok (.iconst 0, 1) := by decide +kernel
theorem dX6_measure_39 : decode cX6_measure 39 = .ok (.istore_n 2, 1) := by decide +kernel
theorem dX6_measure_40 : decode cX6_measure 40 = .ok (.iload_n 2, 1) := by decide +kernel
theorem dX6_measure_41 : decode cX6_measure 41 = .ok (.aload_n 0, 1) := by decide +kernel
theorem dX6_measure_42 : decode cX6_measure 42 = .ok (.getfield 89, 3) := by decide +kernel
theorem dX6_measure_45 : decode cX6_measure 45 = .ok (.if_icmp .ge 166, 3) := by decide +kernel
theorem dX6_measure_48 : decode cX6_measure 48 = .ok (.iconst 0, 1) := by decide +kernel
theorem dX6_measure_49 : decode cX6_measure 49 = .ok (.istore_n 3, 1) := by decide +kernel
theorem dX6_measure_50 : decode cX6_measure 50 = .ok (.aload_n 0, 1) := by decide +kernel
theorem dX6_measure_51 : decode cX6_measure 51 = .ok (.getfield 20, 3) := by decide +kernel
theorem dX6_measure_54 : decode cX6_measure 54 = .ok (.iload_n 2, 1) := by decide +kernel
theorem dX6_measure_55 : decode cX6_measure 55 = .ok (.iaload, 1) := by decide +kernel
theorem dX6_measure_56 : decode cX6_measure 56 = .ok (.ifCond .ne 7, 3) := by decide +kernel
theorem dX6_measure_59 : decode cX6_measure 59 = .ok (.iconst 1, 1) := by decide +kernel
theorem dX6_measure_60 : decode cX6_measure 60 = .ok (.goto 4, 3) := by decide +kernel
theorem dX6_measure_63 : decode cX6_measure 63 = .ok (.iconst 0, 1) := by decide +kernel
theorem dX6_measure_64 : decode cX6_measure 64 = .ok (.istore 4, 2) := by decide +kernel
theorem dX6_measure_66 : decode cX6_measure 66 = .ok (.iconst 0, 1) := by decide +kernel
theorem dX6_measure_67 : decode cX6_measure 67 = .ok (.istore 5, 2) := by decide +kernel
theorem dX6_measure_69 : decode cX6_measure 69 = .ok (.iload 5, 2) := by decide +kernel
theorem dX6_measure_71 : decode cX6_measure 71 = .ok (.aload_n 0, 1) := by decide +kernel
theorem dX6_measure_72 : decode cX6_measure 72 = .ok (.getfield 20, 3) := by decide +kernel
theorem dX6_measure_75 : decode cX6_measure 75 = .ok (.iload_n 2, 1) := by decide +kernel
theorem dX6_measure_76 : decode cX6_measure 76 = .ok (.iaload, 1) := by decide +kernel
theorem dX6_measure_77 : decode cX6_measure 77 = .ok (.if_icmp .ge 82, 3) := by decide +kernel
theorem dX6_measure_80 : decode cX6_measure 80 = .ok (.aload_n 0, 1) := by decide +kernel
theorem dX6_measure_81 : decode cX6_measure 81 = .ok (.getfield 23, 3) := by decide +kernel
theorem dX6_measure_84 : decode cX6_measure 84 = .ok (.bipush 64, 2) := by decide +kernel
theorem dX6_measure_86 : decode cX6_measure 86 = .ok (.iload_n 2, 1) := by decide +kernel
theorem dX6_measure_87 : decode cX6_measure 87 = .ok (.imul, 1) := by decide +kernel
theorem dX6_measure_88 : decode cX6_measure 88 = .ok (.iload 5, 2) := by decide +kernel
theorem dX6_measure_90 : decode cX6_measure 90 = .ok (.iadd, 1) := by decide +kernel
theorem dX6_measure_91 : decode cX6_measure 91 = .ok (.iaload, 1) := by decide +kernel
theorem dX6_measure_92 : decode cX6_measure 92 = .ok (.istore 6, 2) := by decide +kernel
theorem dX6_measure_94 : decode cX6_measure 94 = .ok (.aload_n 0, 1) := by decide +kernel
theorem dX6_measure_95 : decode cX6_measure 95 = .ok (.getfield 76, 3) := by decide +kernel
theorem dX6_measure_98 : decode cX6_measure 98 = .ok (.iload 6, 2) := by decide +kernel
theorem dX6_measure_100 : decode cX6_measure 100 = .ok (.iaload, 1) := by decide +kernel
theorem dX6_measure_101 : decode cX6_measure 101 = .ok (.iconst 1, 1) := by decide +kernel
theorem dX6_measure_102 : decode cX6_measure 102 = .ok (.iadd, 1) := by decide +kernel
theorem dX6_measure_103 : decode cX6_measure 103 = .ok (.iload_n 3, 1) := by decide +kernel
theorem dX6_measure_104 : decode cX6_measure 104 = .ok (.if_icmp .le 15, 3) := by decide +kernel
theorem dX6_measure_107 : decode cX6_measure 107 = .ok (.aload_n 0, 1) := by decide +kernel
theorem dX6_measure_108 : decode cX6_measure 108 = .ok (.getfield 76, 3) := by decide +kernel
theorem dX6_measure_111 : decode cX6_measure 111 = .ok (.iload 6, 2) := by decide +kernel
theorem dX6_measure_113 : decode cX6_measure 113 = .ok (.iaload, 1) := by decide +kernel
theorem dX6_measure_114 : decode cX6_measure 114 = .ok (.iconst 1, 1) := by decide +kernel
theorem dX6_measure_115 : decode cX6_measure 115 = .ok (.iadd, 1) := by decide +kernel
theorem dX6_measure_116 : decode cX6_measure 116 = .ok (.goto 4, 3) := by decide +kernel
theorem dX6_measure_119 : decode cX6_measure 119 = .ok (.iload_n 3, 1) := by decide +kernel
theorem dX6_measure_120 : decode cX6_measure 120 = .ok (.istore_n 3, 1) := by decide +kernel
theorem dX6_measure_121 : decode cX6_measure 121 = .ok (.iload 4, 2) := by decide +kernel
theorem dX6_measure_123 : decode cX6_measure 123 = .ok (.aload_n 0, 1) := by decide +kernel
theorem dX6_measure_124 : decode cX6_measure 124 = .ok (.getfield 79, 3) := by decide +kernel
theorem dX6_measure_127 : decode cX6_measure 127 = .ok (.iload 6, 2) := by decide +kernel
theorem dX6_measure_129 : decode cX6_measure 129 = .ok (.iaload, 1) := by decide +kernel
theorem dX6_measure_130 : decode cX6_measure 130 = .ok (.iadd, 1) := by decide +kernel
theorem dX6_measure_131 : decode cX6_measure 131 = .ok (.ldc 173, 2) := by decide +kernel
theorem dX6_measure_133 : decode cX6_measure 133 = .ok (.if_icmp .le 8, 3) := by decide +kernel
theorem dX6_measure_136 : decode cX6_measure 136 = .ok (.ldc 173, 2) := by decide +kernel
theorem dX6_measure_138 : decode cX6_measure 138 = .ok (.goto 13, 3) := by decide +kernel
theorem dX6_measure_141 : decode cX6_measure 141 = .ok (.iload 4, 2) := by decide +kernel
theorem dX6_measure_143 : decode cX6_measure 143 = .ok (.aload_n 0, 1) := by decide +kernel
theorem dX6_measure_144 : decode cX6_measure 144 = .ok (.getfield 79, 3) := by decide +kernel
theorem dX6_measure_147 : decode cX6_measure 147 = .ok (.iload 6, 2) := by decide +kernel
theorem dX6_measure_149 : decode cX6_measure 149 = .ok (.iaload, 1) := by decide +kernel
theorem dX6_measure_150 : decode cX6_measure 150 = .ok (.iadd, 1) := by decide +kernel
theorem dX6_measure_151 : decode cX6_measure 151 = .ok (.istore 4, 2) := by decide +kernel
theorem dX6_measure_153 : decode cX6_measure 153 = .ok (.iinc 5 1, 3) := by decide +kernel
theorem dX6_measure_156 : decode cX6_measure 156 = .ok (.goto (-87), 3) := by decide +kernel
theorem dX6_measure_159 : decode cX6_measure 159 = .ok (.iload_n 1, 1) := by decide +kernel
theorem dX6_measure_160 : decode cX6_measure 160 = .ok (.ifCond .ne 24, 3) := by decide +kernel
theorem dX6_measure_163 : decode cX6_measure 163 = .ok (.iload_n 3, 1) := by decide +kernel
theorem dX6_measure_164 : decode cX6_measure 164 = .ok (.aload_n 0, 1) := by decide +kernel
theorem dX6_measure_165 : decode cX6_measure 165 = .ok (.getfield 76, 3) := by decide +kernel
theorem dX6_measure_168 : decode cX6_measure 168 = .ok (.iload_n 2, 1) := by decide +kernel
theorem dX6_measure_169 : decode cX6_measure 169 = .ok (.iaload, 1) := by decide +kernel
theorem dX6_measure_170 : decode cX6_measure 170 = .ok (.if_icmp .ne 14, 3) := by decide +kernel
theorem dX6_measure_173 : decode cX6_measure 173 = .ok (.iload 4, 2) := by decide +kernel
theorem dX6_measure_175 : decode cX6_measure 175 = .ok (.aload_n 0, 1) := by decide +kernel
theorem dX6_measure_176 : decode cX6_measure 176 = .ok (.getfield 79, 3) := by decide +kernel
theorem dX6_measure_179 : decode cX6_measure 179 = .ok (.iload_n 2, 1) := by decide +kernel
theorem dX6_measure_180 : decode cX6_measure 180 = .ok (.iaload, 1) := by decide +kernel
theorem dX6_measure_181 : decode cX6_measure 181 = .ok (.if_icmp .eq 7, 3) := by decide +kernel
theorem dX6_measure_184 : decode cX6_measure 184 = .ok (.iconst 1, 1) := by decide +kernel
theorem dX6_measure_185 : decode cX6_measure 185 = .ok (.goto 4, 3) := by decide +kernel
theorem dX6_measure_188 : decode cX6_measure 188 = .ok (.iconst 0, 1) := by decide +kernel
theorem dX6_measure_189 : decode cX6_measure 189 = .ok (.istore_n 1, 1) := by decide +kernel
theorem dX6_measure_190 : decode cX6_measure 190 = .ok (.aload_n 0, 1) := by decide +kernel
theorem dX6_measure_191 : decode cX6_measure 191 = .ok (.getfield 76, 3) := by decide +kernel
theorem dX6_measure_194 : decode cX6_measure 194 = .ok (.iload_n 2, 1) := by decide +kernel
theorem dX6_measure_195 : decode cX6_measure 195 = .ok (.iload_n 3, 1) := by decide +kernel
theorem dX6_measure_196 : decode cX6_measure 196 = .ok (.iastore, 1) := by decide +kernel
theorem dX6_measure_197 : decode cX6_measure 197 = .ok (.aload_n 0, 1) := by decide +kernel
theorem dX6_measure_198 : decode cX6_measure 198 = .ok (.getfield 79, 3) := by decide +kernel
theorem dX6_measure_201 : decode cX6_measure 201 = .ok (.iload_n 2, 1) := by decide +kernel
theorem dX6_measure_202 : decode cX6_measure 202 = .ok (.iload 4, 2) := by decide +kernel
theorem dX6_measure_204 : decode cX6_measure 204 = .ok (.iastore, 1) := by decide +kernel
theorem dX6_measure_205 : decode cX6_measure 205 = .ok (.iinc 2 1, 3) := by decide +kernel
theorem dX6_measure_208 : decode cX6_measure 208 = .ok (.goto (-168), 3) := by decide +kernel
theorem dX6_measure_211 : decode cX6_measure 211 = .ok (.goto (-179), 3) := by decide +kernel
theorem dX6_measure_214 : decode cX6_measure 214 = .ok (.return_, 1) := by decide +kernel
theorem dX6_count_0 : decode cX6_count 0 = .ok (.aload_n 0, 1) := by decide +kernel
theorem dX6_count_1 : decode cX6_count 1 = .ok (.iload_n 1, 1) := by decide +kernel
theorem dX6_count_2 : decode cX6_count 2 = .ok (.aload_n 0, 1) := by decide +kernel
theorem dX6_count_3 : decode cX6_count 3 = .ok (.getfield 89, 3) := by decide +kernel
theorem dX6_count_6 : decode cX6_count 6 = .ok (.invokestatic 99, 3) := by decide +kernel
theorem dX6_count_9 : decode cX6_count 9 = .ok (.ifCond .eq 12, 3) := by decide +kernel
theorem dX6_count_12 : decode cX6_count 12 = .ok (.iload_n 2, 1) := by decide +kernel
theorem dX6_count_13 : decode cX6_count 13 = .ok (.bipush 6, 2) := by decide +kernel
theorem dX6_count_15 : decode cX6_count 15 = .ok (.invokestatic 99, 3) := by decide +kernel
theorem dX6_count_18 : decode cX6_count 18 = .ok (.ifCond .ne 7, 3) := by decide +kernel
theorem dX6_count_21 : decode cX6_count 21 = .ok (.iconst 1, 1) := by decide +kernel
theorem dX6_count_22 : decode cX6_count 22 = .ok (.goto 4, 3) := by decide +kernel
theorem dX6_count_25 : decode cX6_count 25 = .ok (.iconst 0, 1) := by decide +kernel
theorem dX6_count_26 : decode cX6_count 26 = .ok (.iconst 0, 1) := by decide +kernel
theorem dX6_count_27 : decode cX6_count 27 = .ok (.invokevirtual 107, 3) := by decide +kernel
theorem dX6_count_30 : decode cX6_count 30 = .ok (.ifCond .eq 5, 3) := by decide +kernel
theorem dX6_count_33 : decode cX6_count 33 = .ok (.iconst 0, 1) := by decide +kernel
theorem dX6_count_34 : decode cX6_count 34 = .ok (.ireturn, 1) := by decide +kernel
theorem dX6_count_35 : decode cX6_count 35 = .ok (.aload_n 0, 1) := by decide +kernel
theorem dX6_count_36 : decode cX6_count 36 = .ok (.invokevirtual 174, 3) := by decide +kernel
theorem dX6_count_39 : decode cX6_count 39 = .ok (.iload_n 2, 1) := by decide +kernel
theorem dX6_count_40 : decode cX6_count 40 = .ok (.tableswitch 70 0 4 #[36, 43, 50, 57, 63], 36) := by decide +kernel
theorem dX6_count_76 : decode cX6_count 76 = .ok (.aload_n 0, 1) := by decide +kernel
theorem dX6_count_77 : decode cX6_count 77 = .ok (.getfield 7, 3) := by decide +kernel
theorem dX6_count_80 : decode cX6_count 80 = .ok (.iload_n 1, 1) := by decide +kernel
theorem dX6_count_81 : decode cX6_count 81 = .ok (.iaload, 1) := by decide +kernel
theorem dX6_count_82 : decode cX6_count 82 = .ok (.ireturn, 1) := by decide +kernel
theorem dX6_count_83 : decode cX6_count 83 = .ok (.aload_n 0, 1) := by decide +kernel
theorem dX6_count_84 : decode cX6_count 84 = .ok (.getfield 20, 3) := by decide +kernel
theorem dX6_count_87 : decode cX6_count 87 = .ok (.iload_n 1, 1) := by decide +kernel
theorem dX6_count_88 : decode cX6_count 88 = .ok (.iaload, 1) := by decide +kernel
theorem dX6_count_89 : decode cX6_count 89 = .ok (.ireturn, 1) := by decide +kernel
theorem dX6_count_90 : decode cX6_count 90 = .ok (.aload_n 0, 1) := by decide +kernel
theorem dX6_count_91 : decode cX6_count 91 = .ok (.getfield 26, 3) := by decide +kernel
theorem dX6_count_94 : decode cX6_count 94 = .ok (.iload_n 1, 1) := by decide +kernel
theorem dX6_count_95 : decode cX6_count 95 = .ok (.iaload, 1) := by decide +kernel
theorem dX6_count_96 : decode cX6_count 96 = .ok (.ireturn, 1) := by decide +kernel
theorem dX6_count_97 : decode cX6_count 97 = .ok (.aload_n 0, 1) := by decide +kernel
theorem dX6_count_98 : decode cX6_count 98 = .ok (.iload_n 1, 1) := by decide +kernel
theorem dX6_count_99 : decode cX6_count 99 = .ok (.invokevirtual 117, 3) := by decide +kernel
theorem dX6_count_102 : decode cX6_count 102 = .ok (.ireturn, 1) := by decide +kernel
theorem dX6_count_103 : decode cX6_count 103 = .ok (.aload_n 0, 1) := by decide +kernel
theorem dX6_count_104 : decode cX6_count 104 = .ok (.getfield 76, 3) := by decide +kernel
theorem dX6_count_107 : decode cX6_count 107 = .ok (.iload_n 1, 1) := by decide +kernel
theorem dX6_count_108 : decode cX6_count 108 = .ok (.iaload, 1) := by decide +kernel
theorem dX6_count_109 : decode cX6_count 109 = .ok (.ireturn, 1) := by decide +kernel
theorem dX6_count_110 : decode cX6_count 110 = .ok (.aload_n 0, 1) := by decide +kernel
theorem dX6_count_111 : decode cX6_count 111 = .ok (.getfield 79, 3) := by decide +kernel
theorem dX6_count_114 : decode cX6_count 114 = .ok (.iload_n 1, 1) := by decide +kernel
theorem dX6_count_115 : decode cX6_count 115 = .ok (.iaload, 1) := by decide +kernel
theorem dX6_count_116 : decode cX6_count 116 = .ok (.ireturn, 1) := by decide +kernel
theorem dX6_moduleOf_0 : decode cX6_moduleOf 0 = .ok (.iload_n 1, 1) := by decide +kernel
theorem dX6_moduleOf_1 : decode cX6_moduleOf 1 = .ok (.aload_n 0, 1) := by decide +kernel
theorem dX6_moduleOf_2 : decode cX6_moduleOf 2 = .ok (.getfield 89, 3) := by decide +kernel
theorem dX6_moduleOf_5 : decode cX6_moduleOf 5 = .ok (.invokestatic 99, 3) := by decide +kernel
theorem dX6_moduleOf_8 : decode cX6_moduleOf 8 = .ok (.ifCond .eq 20, 3) := by decide +kernel
theorem dX6_moduleOf_11 : decode cX6_moduleOf 11 = .ok (.iload_n 2, 1) := by decide +kernel
theorem dX6_moduleOf_12 : decode cX6_moduleOf 12 = .ok (.aload_n 0, 1) := by decide +kernel
theorem dX6_moduleOf_13 : decode cX6_moduleOf 13 = .ok (.getfield 20, 3) := by decide +kernel
theorem dX6_moduleOf_16 : decode cX6_moduleOf 16 = .ok (.iload_n 1, 1) := by decide +kernel
theorem dX6_moduleOf_17 : decode cX6_moduleOf 17 = .ok (.iaload, 1) := by decide +kernel
theorem dX6_moduleOf_18 : decode cX6_moduleOf 18 = .ok (.invokestatic 99, 3) := by decide +kernel
theorem dX6_moduleOf_21 : decode cX6_moduleOf 21 = .ok (.ifCond .eq 7, 3) := by decide +kernel
theorem dX6_moduleOf_24 : decode cX6_moduleOf 24 = .ok (.iconst 1, 1) := by decide +kernel
theorem dX6_moduleOf_25 : decode cX6_moduleOf 25 = .ok (.goto 4, 3) := by decide +kernel
theorem dX6_moduleOf_28 : decode cX6_moduleOf 28 = .ok (.iconst 0, 1) := by decide +kernel
theorem dX6_moduleOf_29 : decode cX6_moduleOf 29 = .ok (.istore_n 3, 1) := by decide +kernel
theorem dX6_moduleOf_30 : decode cX6_moduleOf 30 = .ok (.aload_n 0, 1) := by decide +kernel
theorem dX6_moduleOf_31 : decode cX6_moduleOf 31 = .ok (.iload_n 3, 1) := by decide +kernel
theorem dX6_moduleOf_32 : decode cX6_moduleOf 32 = .ok (.ifCond .ne 7, 3) := by decide +kernel
theorem dX6_moduleOf_35 : decode cX6_moduleOf 35 = .ok (.iconst 1, 1) := by decide +kernel
theorem dX6_moduleOf_36 : decode cX6_moduleOf 36 = .ok (.goto 4, 3) := by decide +kernel
theorem dX6_moduleOf_39 : decode cX6_moduleOf 39 = .ok (.iconst 0, 1) := by decide +kernel
theorem dX6_moduleOf_40 : decode cX6_moduleOf 40 = .ok (.iconst 0, 1) := by decide +kernel
theorem dX6_moduleOf_41 : decode cX6_moduleOf 41 = .ok (.invokevirtual 107, 3) := by decide +kernel
theorem dX6_moduleOf_44 : decode cX6_moduleOf 44 = .ok (.ifCond .eq 7, 3) := by decide +kernel
theorem dX6_moduleOf_47 : decode cX6_moduleOf 47 = .ok (.iconst 0, 1) := by decide +kernel
theorem dX6_moduleOf_48 : decode cX6_moduleOf 48 = .ok (.goto 14, 3) := by decide +kernel
theorem dX6_moduleOf_51 : decode cX6_moduleOf 51 = .ok (.aload_n 0, 1) := by decide +kernel
theorem dX6_moduleOf_52 : decode cX6_moduleOf 52 = .ok (.getfield 23, 3) := by decide +kernel
theorem dX6_moduleOf_55 : decode cX6_moduleOf 55 = .ok (.bipush 64, 2) := by decide +kernel
theorem dX6_moduleOf_57 : decode cX6_moduleOf 57 = .ok (.iload_n 1, 1) := by decide +kernel
theorem dX6_moduleOf_58 : decode cX6_moduleOf 58 = .ok (.imul, 1) := by decide +kernel
theorem dX6_moduleOf_59 : decode cX6_moduleOf 59 = .ok (.iload_n 2, 1) := by decide +kernel
theorem dX6_moduleOf_60 : decode cX6_moduleOf 60 = .ok (.iadd, 1) := by decide +kernel
theorem dX6_moduleOf_61 : decode cX6_moduleOf 61 = .ok (.iaload, 1) := by decide +kernel
theorem dX6_moduleOf_62 : decode cX6_moduleOf 62 = .ok (.ireturn, 1) := by decide +kernel
theorem dX6_modules_0 : decode cX6_modules 0 = .ok (.aload_n 0, 1) := by decide +kernel
theorem dX6_modules_1 : decode cX6_modules 1 = .ok (.iconst 0, 1) := by decide +kernel
theorem dX6_modules_2 : decode cX6_modules 2 = .ok (.putfield 85, 3) := by decide +kernel
theorem dX6_modules_5 : decode cX6_modules 5 = .ok (.aload_n 0, 1) := by decide +kernel
theorem dX6_modules_6 : decode cX6_modules 6 = .ok (.getfield 89, 3) := by decide +kernel
theorem dX6_modules_9 : decode cX6_modules 9 = .ok (.ireturn, 1) := by decide +kernel
theorem dX6_clear_0 : decode cX6_clear 0 = .ok (.aload_n 0, 1) := by decide +kernel
theorem dX6_clear_1 : decode cX6_clear 1 = .ok (.iconst 0, 1) := by decide +kernel
theorem dX6_clear_2 : decode cX6_clear 2 = .ok (.putfield 85, 3) := by decide +kernel
theorem dX6_clear_5 : decode cX6_clear 5 = .ok (.aload_n 0, 1) := by decide +kernel
theorem dX6_clear_6 : decode cX6_clear 6 = .ok (.iconst 0, 1) := by decide +kernel
theorem dX6_clear_7 : decode cX6_clear 7 = .ok (.putfield 89, 3) := by decide +kernel
theorem dX6_clear_10 : decode cX6_clear 10 = .ok (.return_, 1) := by decide +kernel
end
section
/-! THE PICTURE OF THE HEAP: addresses from the law's start on, counted from 0. A state of it: how many cells, how many slots, each cell's kind, its length, its ints, its references. -/
abbrev AS : Type := Nat × Nat × (Nat → Nat) × (Nat → Nat) × (Nat → Nat → Int) × (Nat → Nat → Option Nat)
abbrev RS : Type := (Nat × Int × Option Nat) × AS
def hn (S : AS) : Nat := S.1
def hu (S : AS) : Nat := S.2.1
def hk (S : AS) : Nat → Nat := S.2.2.1
def hl (S : AS) : Nat → Nat := S.2.2.2.1
def hI (S : AS) : Nat → Nat → Int := S.2.2.2.2.1
def hR (S : AS) : Nat → Nat → Option Nat := S.2.2.2.2.2
def CM : Nat := 601024
def UM : Nat := 7293034
abbrev inR (x : Int) : Prop := -2147483648 ≤ x ∧ x ≤ 2147483647
def iv (x : Int) : Value := .int (Int32.ofInt x)
def lvv (x : Int) : Value := .long (Int64.ofInt x)
def rf (b : Nat) (r : Option Nat) : Value := va_rf (r.map (b + ·))
/-- the types of the fields of class ci, and how many there are -/
def tyC (ci : Nat) : Nat → FieldType := match ci with
  | 0 => tyX0
  | 1 => tyX1
  | 2 => tyX2
  | 3 => tyX3
  | 4 => tyX4
  | 5 => tyX5
  | _ => tyX6
def NC (ci : Nat) : Nat := match ci with
  | 0 => 5
  | 1 => 7
  | 2 => 3
  | 3 => 3
  | 4 => 7
  | 5 => 7
  | _ => 28
def fv (b : Nat) (ty : FieldType) (i : Int) (r : Option Nat) : Value := match ty with
  | .int => iv i
  | .boolean => iv i
  | _ => rf b r
def fls (b ci : Nat) (I : Nat → Int) (R : Nat → Option Nat) : List Value := (List.range (NC ci)).map fun k => fv b (tyC ci k) (I k) (R k)
/-- kinds: 1 to 7 objects of class 0 to 6; 8 ints, 9 booleans, 10 Placements, 11 Shells, 12 rows of ints, 13 longs -/
def hp_e (b : Nat) (dA : Nat → ClassId) (kd len : Nat) (I : Nat → Int) (R : Nat → Option Nat) : va_E :=
  if kd ≤ 7 then .inr (kd - 1, fls b (kd - 1) I R)
  else if kd ≤ 9 then .inl (dA kd, len, .inl (fun j => Int32.ofInt (I j)))
  else if kd ≤ 12 then .inl (dA kd, len, .inr (.inr (.inr (.inr (fun j => (R j).map (b + ·))))))
  else .inl (dA kd, len, .inr (.inl (fun j => Int64.ofInt (I j))))
def hp_sum (b : Nat) (H : Heap) : Nat := ((H.toList.drop b).map (·.slots.size)).sum
def hp_R (b : Nat) (D : va_G) (dA : Nat → ClassId) (S : AS) (H : Heap) : Prop :=
  H.size = b + hn S ∧ hp_sum b H = hu S ∧ (∀ a, hk S a ≠ 0 → a < hn S ∧ hk S a ≤ 13 ∧ va_at D vwCl (b + a, hp_e b dA (hk S a) (hl S a) (hI S a) (hR S a)) H) ∧ (∀ a k, inR (hI S a k)) ∧ ∀ a k, hk S a = 9 → hI S a k = 0 ∨ hI S a k = 1
/-- the writes -/
def wI (S : AS) (a k : Nat) (v : Int) : AS := (hn S, hu S, hk S, hl S, (fun b j => if b = a ∧ j = k then v else hI S b j), hR S)
def wR (S : AS) (a k : Nat) (v : Option Nat) : AS := (hn S, hu S, hk S, hl S, hI S, (fun b j => if b = a ∧ j = k then v else hR S b j))
/-- a new cell of a kind, all of it 0 and null, and how many slots it takes -/
def wN (S : AS) (kd len sl : Nat) : AS := (hn S + 1, hu S + sl, (fun b => if b = hn S then kd else hk S b), (fun b => if b = hn S then len else hl S b), (fun b j => if b = hn S then 0 else hI S b j), (fun b j => if b = hn S then none else hR S b j))
/-- a new cell of which nothing is kept (an exception) -/
def wX (S : AS) : AS := (hn S + 1, hu S + 6, (fun b => if b = hn S then 0 else hk S b), hl S, hI S, hR S)
/-! the readers of the writes -/
theorem hn_wI (S : AS) (a k : Nat) (v : Int) : hn (wI S a k v) = hn S := rfl
theorem hu_wI (S : AS) (a k : Nat) (v : Int) : hu (wI S a k v) = hu S := rfl
theorem hk_wI (S : AS) (a k : Nat) (v : Int) : hk (wI S a k v) = hk S := rfl
theorem hl_wI (S : AS) (a k : Nat) (v : Int) : hl (wI S a k v) = hl S := rfl
theorem hR_wI (S : AS) (a k : Nat) (v : Int) : hR (wI S a k v) = hR S := rfl
theorem hI_wI (S : AS) (a k : Nat) (v : Int) (b j : Nat) : hI (wI S a k v) b j = if b = a ∧ j = k then v else hI S b j := rfl
theorem hn_wR (S : AS) (a k : Nat) (v : Option Nat) : hn (wR S a k v) = hn S := rfl
theorem hu_wR (S : AS) (a k : Nat) (v : Option Nat) : hu (wR S a k v) = hu S := rfl
theorem hk_wR (S : AS) (a k : Nat) (v : Option Nat) : hk (wR S a k v) = hk S := rfl
theorem hl_wR (S : AS) (a k : Nat) (v : Option Nat) : hl (wR S a k v) = hl S := rfl
theorem hI_wR (S : AS) (a k : Nat) (v : Option Nat) : hI (wR S a k v) = hI S := rfl
theorem hR_wR (S : AS) (a k : Nat) (v : Option Nat) (b j : Nat) : hR (wR S a k v) b j = if b = a ∧ j = k then v else hR S b j := rfl
theorem hn_wN (S : AS) (kd len sl : Nat) : hn (wN S kd len sl) = hn S + 1 := rfl
theorem hu_wN (S : AS) (kd len sl : Nat) : hu (wN S kd len sl) = hu S + sl := rfl
theorem hk_wN (S : AS) (kd len sl b : Nat) : hk (wN S kd len sl) b = if b = hn S then kd else hk S b := rfl
theorem hl_wN (S : AS) (kd len sl b : Nat) : hl (wN S kd len sl) b = if b = hn S then len else hl S b := rfl
theorem hI_wN (S : AS) (kd len sl b j : Nat) : hI (wN S kd len sl) b j = if b = hn S then 0 else hI S b j := rfl
theorem hR_wN (S : AS) (kd len sl b j : Nat) : hR (wN S kd len sl) b j = if b = hn S then none else hR S b j := rfl
theorem hn_wX (S : AS) : hn (wX S) = hn S + 1 := rfl
theorem hu_wX (S : AS) : hu (wX S) = hu S + 6 := rfl
theorem hk_wX (S : AS) (b : Nat) : hk (wX S) b = if b = hn S then 0 else hk S b := rfl
theorem hl_wX (S : AS) : hl (wX S) = hl S := rfl
theorem hI_wX (S : AS) : hI (wX S) = hI S := rfl
theorem hR_wX (S : AS) : hR (wX S) = hR S := rfl
/-! what an instruction does to the picture: none where the machine would not go through -/
def chk (x : Int) : Option Int := if inR x then some x else none
def isK (S : AS) (r : Option Nat) (kd : Nat) : Bool := match r with
  | some a => decide (hk S a = kd)
  | none => false
def gI (S : AS) (r : Option Nat) (kd k : Nat) : Option Int := match r with
  | some a => if hk S a = kd then some (hI S a k) else none
  | none => none
def gR (S : AS) (r : Option Nat) (kd k : Nat) : Option (Option Nat) := match r with
  | some a => if hk S a = kd then some (hR S a k) else none
  | none => none
def pI (S : AS) (r : Option Nat) (kd k : Nat) (v : Int) : Option AS := match r with
  | some a => if hk S a = kd then some (wI S a k v) else none
  | none => none
def pZ (S : AS) (r : Option Nat) (kd k : Nat) (v : Int) : Option AS := match r with
  | some a => if hk S a = kd ∧ (v = 0 ∨ v = 1) then some (wI S a k v) else none
  | none => none
def pR (S : AS) (r : Option Nat) (kd k : Nat) (v : Option Nat) : Option AS := match r with
  | some a => if hk S a = kd then some (wR S a k v) else none
  | none => none
def aI (S : AS) (r : Option Nat) (kd : Nat) (i : Int) : Option Int := match r with
  | some a => if hk S a = kd ∧ 0 ≤ i ∧ i < hl S a then some (hI S a i.toNat) else none
  | none => none
def aR (S : AS) (r : Option Nat) (kd : Nat) (i : Int) : Option (Option Nat) := match r with
  | some a => if hk S a = kd ∧ 0 ≤ i ∧ i < hl S a then some (hR S a i.toNat) else none
  | none => none
def sI (S : AS) (r : Option Nat) (kd : Nat) (i v : Int) : Option AS := match r with
  | some a => if hk S a = kd ∧ 0 ≤ i ∧ i < hl S a then some (wI S a i.toNat v) else none
  | none => none
def sZ (S : AS) (r : Option Nat) (i v : Int) : Option AS := match r with
  | some a => if hk S a = 9 ∧ 0 ≤ i ∧ i < hl S a ∧ (v = 0 ∨ v = 1) then some (wI S a i.toNat v) else none
  | none => none
def ek (kd : Nat) : Nat := if kd = 10 then 4 else if kd = 11 then 5 else 8
def sR (S : AS) (r : Option Nat) (kd : Nat) (i : Int) (v : Option Nat) : Option AS := match r, v with
  | some a, some w => if hk S a = kd ∧ 0 ≤ i ∧ i < hl S a ∧ hk S w = ek kd then some (wR S a i.toNat (some w)) else none
  | _, _ => none
def ln (S : AS) (r : Option Nat) (kd : Nat) : Option Int := match r with
  | some a => if hk S a = kd then some (hl S a : Int) else none
  | none => none
def nO (S : AS) (kd : Nat) : Option AS := if hn S < CM ∧ hu S + NC (kd - 1) ≤ UM then some (wN S kd 0 (NC (kd - 1))) else none
def nA (S : AS) (kd : Nat) (n : Int) : Option AS := if 0 ≤ n ∧ n ≤ 4000000 ∧ hn S < CM ∧ hu S + n.toNat ≤ UM then some (wN S kd n.toNat n.toNat) else none
/-- ends of a method, and calls -/
def rV (S : AS) : Option RS := some ((0, 0, none), S)
def rI (x : Int) (S : AS) : Option RS := some ((0, x, none), S)
def rR (r : Option Nat) (S : AS) : Option RS := some ((0, 0, r), S)
def rX (k : Nat) (S : AS) : Option RS := if hn S < CM ∧ hu S + 6 ≤ UM then some ((k, 0, none), wX S) else none
def cV (c : Option RS) (k : AS → Option RS) : Option RS := c.bind fun q => if q.1.1 = 0 then k q.2 else some q
def cI (c : Option RS) (k : Int → AS → Option RS) : Option RS := c.bind fun q => if q.1.1 = 0 then k q.1.2.1 q.2 else some q
def cR (c : Option RS) (k : Option Nat → AS → Option RS) : Option RS := c.bind fun q => if q.1.1 = 0 then k q.1.2.2 q.2 else some q
/-! rows on them -/
theorem gI_some {S : AS} {r : Option Nat} {kd k : Nat} {v : Int} (h : gI S r kd k = some v) : ∃ a, r = some a ∧ hk S a = kd ∧ v = hI S a k := by
  cases r with
  | none => simp [gI] at h
  | some a =>
    simp only [gI] at h
    split at h
    · exact ⟨a, rfl, by assumption, (Option.some.inj h).symm⟩
    · cases h
theorem gR_some {S : AS} {r : Option Nat} {kd k : Nat} {v : Option Nat} (h : gR S r kd k = some v) : ∃ a, r = some a ∧ hk S a = kd ∧ v = hR S a k := by
  cases r with
  | none => simp [gR] at h
  | some a =>
    simp only [gR] at h
    split at h
    · exact ⟨a, rfl, by assumption, (Option.some.inj h).symm⟩
    · cases h
theorem pI_some {S S' : AS} {r : Option Nat} {kd k : Nat} {v : Int} (h : pI S r kd k v = some S') : ∃ a, r = some a ∧ hk S a = kd ∧ S' = wI S a k v := by
  cases r with
  | none => simp [pI] at h
  | some a =>
    simp only [pI] at h
    split at h
    · exact ⟨a, rfl, by assumption, (Option.some.inj h).symm⟩
    · cases h
theorem pZ_some {S S' : AS} {r : Option Nat} {kd k : Nat} {v : Int} (h : pZ S r kd k v = some S') : ∃ a, r = some a ∧ hk S a = kd ∧ (v = 0 ∨ v = 1) ∧ S' = wI S a k v := by
  cases r with
  | none => simp [pZ] at h
  | some a =>
    simp only [pZ] at h
    split at h
    · rename_i q
      exact ⟨a, rfl, q.1, q.2, (Option.some.inj h).symm⟩
    · cases h
theorem pR_some {S S' : AS} {r : Option Nat} {kd k : Nat} {v : Option Nat} (h : pR S r kd k v = some S') : ∃ a, r = some a ∧ hk S a = kd ∧ S' = wR S a k v := by
  cases r with
  | none => simp [pR] at h
  | some a =>
    simp only [pR] at h
    split at h
    · exact ⟨a, rfl, by assumption, (Option.some.inj h).symm⟩
    · cases h
theorem aI_some {S : AS} {r : Option Nat} {kd : Nat} {i v : Int} (h : aI S r kd i = some v) : ∃ a, r = some a ∧ hk S a = kd ∧ 0 ≤ i ∧ i < hl S a ∧ v = hI S a i.toNat := by
  cases r with
  | none => simp [aI] at h
  | some a =>
    simp only [aI] at h
    split at h
    · rename_i q
      exact ⟨a, rfl, q.1, q.2.1, q.2.2, (Option.some.inj h).symm⟩
    · cases h
theorem aR_some {S : AS} {r : Option Nat} {kd : Nat} {i : Int} {v : Option Nat} (h : aR S r kd i = some v) : ∃ a, r = some a ∧ hk S a = kd ∧ 0 ≤ i ∧ i < hl S a ∧ v = hR S a i.toNat := by
  cases r with
  | none => simp [aR] at h
  | some a =>
    simp only [aR] at h
    split at h
    · rename_i q
      exact ⟨a, rfl, q.1, q.2.1, q.2.2, (Option.some.inj h).symm⟩
    · cases h
theorem sI_some {S S' : AS} {r : Option Nat} {kd : Nat} {i v : Int} (h : sI S r kd i v = some S') : ∃ a, r = some a ∧ hk S a = kd ∧ 0 ≤ i ∧ i < hl S a ∧ S' = wI S a i.toNat v := by
  cases r with
  | none => simp [sI] at h
  | some a =>
    simp only [sI] at h
    split at h
    · rename_i q
      exact ⟨a, rfl, q.1, q.2.1, q.2.2, (Option.some.inj h).symm⟩
    · cases h
theorem sZ_some {S S' : AS} {r : Option Nat} {i v : Int} (h : sZ S r i v = some S') : ∃ a, r = some a ∧ hk S a = 9 ∧ 0 ≤ i ∧ i < hl S a ∧ (v = 0 ∨ v = 1) ∧ S' = wI S a i.toNat v := by
  cases r with
  | none => simp [sZ] at h
  | some a =>
    simp only [sZ] at h
    split at h
    · rename_i q
      exact ⟨a, rfl, q.1, q.2.1, q.2.2.1, q.2.2.2, (Option.some.inj h).symm⟩
    · cases h
theorem sR_some {S S' : AS} {r v : Option Nat} {kd : Nat} {i : Int} (h : sR S r kd i v = some S') : ∃ a w, r = some a ∧ v = some w ∧ hk S a = kd ∧ 0 ≤ i ∧ i < hl S a ∧ hk S w = ek kd ∧ S' = wR S a i.toNat (some w) := by
  cases r with
  | none => simp [sR] at h
  | some a =>
    cases v with
    | none => simp [sR] at h
    | some w =>
      simp only [sR] at h
      split at h
      · rename_i q
        exact ⟨a, w, rfl, rfl, q.1, q.2.1, q.2.2.1, q.2.2.2, (Option.some.inj h).symm⟩
      · cases h
theorem ln_some {S : AS} {r : Option Nat} {kd : Nat} {v : Int} (h : ln S r kd = some v) : ∃ a, r = some a ∧ hk S a = kd ∧ v = (hl S a : Int) := by
  cases r with
  | none => simp [ln] at h
  | some a =>
    simp only [ln] at h
    split at h
    · exact ⟨a, rfl, by assumption, (Option.some.inj h).symm⟩
    · cases h
theorem chk_some {x z : Int} (h : chk x = some z) : z = x ∧ inR x := by
  unfold chk at h
  split at h
  · exact ⟨(Option.some.inj h).symm, by assumption⟩
  · cases h
theorem nO_some {S S' : AS} {kd : Nat} (h : nO S kd = some S') : hn S < CM ∧ hu S + NC (kd - 1) ≤ UM ∧ S' = wN S kd 0 (NC (kd - 1)) := by
  unfold nO at h
  split at h
  · rename_i q
    exact ⟨q.1, q.2, (Option.some.inj h).symm⟩
  · cases h
theorem nA_some {S S' : AS} {kd : Nat} {n : Int} (h : nA S kd n = some S') : 0 ≤ n ∧ n ≤ 4000000 ∧ hn S < CM ∧ hu S + n.toNat ≤ UM ∧ S' = wN S kd n.toNat n.toNat := by
  unfold nA at h
  split at h
  · rename_i q
    exact ⟨q.1, q.2.1, q.2.2.1, q.2.2.2, (Option.some.inj h).symm⟩
  · cases h
theorem rX_some {k : Nat} {S : AS} {q : RS} (h : rX k S = some q) : hn S < CM ∧ hu S + 6 ≤ UM ∧ q = ((k, 0, none), wX S) := by
  unfold rX at h
  split at h
  · rename_i g
    exact ⟨g.1, g.2, (Option.some.inj h).symm⟩
  · cases h
theorem isK_some {S : AS} {r : Option Nat} {kd : Nat} (h : isK S r kd = true) : ∃ a, r = some a ∧ hk S a = kd := by
  cases r with
  | none => simp [isK] at h
  | some a => exact ⟨a, rfl, by simpa [isK] using h⟩
theorem cV_some {c : Option RS} {k : AS → Option RS} {q : RS} (h : cV c k = some q) : (∃ S', ∃ x : Int × Option Nat, c = some ((0, x), S') ∧ k S' = some q) ∨ (c = some q ∧ q.1.1 ≠ 0) := by
  cases c with
  | none => simp [cV] at h
  | some y =>
    obtain ⟨⟨e, x⟩, S'⟩ := y
    simp only [cV, Option.bind_some] at h
    by_cases he : e = 0
    · subst he
      rw [if_pos rfl] at h
      exact Or.inl ⟨S', x, rfl, h⟩
    · rw [if_neg he] at h
      exact Or.inr ⟨h, by rw [← Option.some.inj h]; exact he⟩
theorem cI_some {c : Option RS} {k : Int → AS → Option RS} {q : RS} (h : cI c k = some q) : (∃ S' v r, c = some ((0, v, r), S') ∧ k v S' = some q) ∨ (c = some q ∧ q.1.1 ≠ 0) := by
  cases c with
  | none => simp [cI] at h
  | some y =>
    obtain ⟨⟨e, v, r⟩, S'⟩ := y
    simp only [cI, Option.bind_some] at h
    by_cases he : e = 0
    · subst he
      rw [if_pos rfl] at h
      exact Or.inl ⟨S', v, r, rfl, h⟩
    · rw [if_neg he] at h
      exact Or.inr ⟨h, by rw [← Option.some.inj h]; exact he⟩
theorem cR_some {c : Option RS} {k : Option Nat → AS → Option RS} {q : RS} (h : cR c k = some q) : (∃ S' v r, c = some ((0, v, r), S') ∧ k r S' = some q) ∨ (c = some q ∧ q.1.1 ≠ 0) := by
  cases c with
  | none => simp [cR] at h
  | some y =>
    obtain ⟨⟨e, v, r⟩, S'⟩ := y
    simp only [cR, Option.bind_some] at h
    by_cases he : e = 0
    · subst he
      rw [if_pos rfl] at h
      exact Or.inl ⟨S', v, r, rfl, h⟩
    · rw [if_neg he] at h
      exact Or.inr ⟨h, by rw [← Option.some.inj h]; exact he⟩
/-! numbers -/
theorem iv_toInt {x : Int} (h : inR x) : (Int32.ofInt x).toInt = x := Int32.toInt_ofInt_of_le (by omega) (by omega)
theorem iv_inj {x y : Int} (hx : inR x) (hy : inR y) : Int32.ofInt x = Int32.ofInt y ↔ x = y := ⟨fun h => by rw [← iv_toInt hx, ← iv_toInt hy, h], fun h => by rw [h]⟩
theorem iv_lt {x y : Int} (hx : inR x) (hy : inR y) : Int32.ofInt x < Int32.ofInt y ↔ x < y := by rw [Int32.lt_iff_toInt_lt, iv_toInt hx, iv_toInt hy]
theorem iv_le {x y : Int} (hx : inR x) (hy : inR y) : Int32.ofInt x ≤ Int32.ofInt y ↔ x ≤ y := by rw [Int32.le_iff_toInt_le, iv_toInt hx, iv_toInt hy]
theorem iv_clamp {x : Int} (h : inR x) : (Int32.ofInt x).toNatClampNeg = x.toNat := by
  show (Int32.ofInt x).toInt.toNat = x.toNat
  rw [iv_toInt h]
theorem iv_in {x : Int} {n : Nat} (h : inR x) (h0 : 0 ≤ x) (h1 : x < n) : vp_in (Int32.ofInt x) n := vp_in_iff.mpr (by rw [iv_toInt h]; exact ⟨h0, h1⟩)
theorem iv_z : (0 : Int32) = Int32.ofInt 0 := by decide
end
section
def RC (ci : Nat) : String := match ci with
  | 0 => RX0
  | 1 => RX1
  | 2 => RX2
  | 3 => RX3
  | 4 => RX4
  | 5 => RX5
  | _ => RX6
def TC (ci : Nat) : u_T := match ci with
  | 0 => TX0
  | 1 => TX1
  | 2 => TX2
  | 3 => TX3
  | 4 => TX4
  | 5 => TX5
  | _ => TX6
theorem vwC {ci : Nat} (h : ci < 7) : vwCl[ci]? = some (RC ci, TC ci, NC ci) := by
  match ci, h with
  | 0, _ => rfl
  | 1, _ => rfl
  | 2, _ => rfl
  | 3, _ => rfl
  | 4, _ => rfl
  | 5, _ => rfl
  | 6, _ => rfl
theorem tyC_ok {ci : Nat} (h : ci < 7) : ∀ k, k < NC ci → parseFieldDescriptor (TC ci k).2.2.1 = some (tyC ci k) := by
  match ci, h with
  | 0, _ => exact tyX0_ok
  | 1, _ => exact tyX1_ok
  | 2, _ => exact tyX2_ok
  | 3, _ => exact tyX3_ok
  | 4, _ => exact tyX4_ok
  | 5, _ => exact tyX5_ok
  | 6, _ => exact tyX6_ok
theorem nmC {ci : Nat} (h : ci < 7) : ∀ a, a < NC ci → ∀ b, b < NC ci → a ≠ b → (TC ci a).2.1 ≠ (TC ci b).2.1 := by
  match ci, h with
  | 0, _ => exact nmX0
  | 1, _ => exact nmX1
  | 2, _ => exact nmX2
  | 3, _ => exact nmX3
  | 4, _ => exact nmX4
  | 5, _ => exact nmX5
  | 6, _ => exact nmX6
theorem inC0 : ∀ w ∈ u_ws RX0 TX0 5, w ∈ lw_tbl := by decide +kernel
theorem inC1 : ∀ w ∈ u_ws RX1 TX1 7, w ∈ lw_tbl := by decide +kernel
theorem inC2 : ∀ w ∈ u_ws RX2 TX2 3, w ∈ lw_tbl := by decide +kernel
theorem inC3 : ∀ w ∈ u_ws RX3 TX3 3, w ∈ lw_tbl := by decide +kernel
theorem inC4 : ∀ w ∈ u_ws RX4 TX4 7, w ∈ lw_tbl := by decide +kernel
theorem inC5 : ∀ w ∈ u_ws RX5 TX5 7, w ∈ lw_tbl := by decide +kernel
theorem inC6 : ∀ w ∈ u_ws RX6 TX6 28, w ∈ lw_tbl := by decide +kernel
theorem inC {ci : Nat} (h : ci < 7) : ∀ w ∈ u_ws (RC ci) (TC ci) (NC ci), w ∈ lw_tbl := by
  match ci, h with
  | 0, _ => exact inC0
  | 1, _ => exact inC1
  | 2, _ => exact inC2
  | 3, _ => exact inC3
  | 4, _ => exact inC4
  | 5, _ => exact inC5
  | 6, _ => exact inC6
/-! the slots in use, out of the heap -/
theorem hp_sum_eq {b : Nat} {H H' : Heap} (h : ∀ q : Nat, (H'[q]?).map (fun c => c.slots.size) = (H[q]?).map (fun c => c.slots.size)) : hp_sum b H' = hp_sum b H := by
  unfold hp_sum
  congr 1
  apply List.ext_getElem?
  intro i
  rw [List.getElem?_map, List.getElem?_map, List.getElem?_drop, List.getElem?_drop, Array.getElem?_toList, Array.getElem?_toList]
  exact h (b + i)
theorem hp_sum_push {b : Nat} {H H' : Heap} {x : Cell} (hb : b ≤ H.size) (z : H'.size = H.size + 1) (o : ∀ q, q < H.size → H'[q]? = H[q]?) (e : H'[H.size]? = some x) : hp_sum b H' = hp_sum b H + x.slots.size := by
  have h1 : H'.toList = H.toList ++ [x] := by
    apply List.ext_getElem?
    intro i
    rw [Array.getElem?_toList]
    by_cases hi : i < H.size
    · rw [o i hi, List.getElem?_append_left (by simpa using hi), Array.getElem?_toList]
    · by_cases h2 : i = H.size
      · subst h2
        rw [e, List.getElem?_append_right (by simp)]
        simp
      · rw [Array.getElem?_eq_none (by omega), List.getElem?_eq_none (by simp; omega)]
  unfold hp_sum
  rw [h1, List.drop_append_of_le_length (by simpa using hb)]
  simp
theorem hp_sum_split {b : Nat} {H0 H : Heap} (hb : b ≤ H0.size) (z : H0.size ≤ H.size) (o : ∀ q, q < H0.size → (H[q]?).map (fun c => c.slots.size) = (H0[q]?).map (fun c => c.slots.size)) : hp_sum b H = hp_sum b H0 + ((H.toList.drop H0.size).map (·.slots.size)).sum := by
  have h1 : H.toList.map (·.slots.size) = H0.toList.map (·.slots.size) ++ (H.toList.drop H0.size).map (·.slots.size) := by
    apply List.ext_getElem?
    intro i
    by_cases hi : i < H0.size
    · rw [List.getElem?_append_left (by simpa using hi), List.getElem?_map, List.getElem?_map, Array.getElem?_toList, Array.getElem?_toList]
      exact o i hi
    · rw [List.getElem?_append_right (by simpa using hi), List.getElem?_map, List.getElem?_map, List.getElem?_drop]
      simp only [List.length_map, Array.length_toList]
      rw [show H0.size + (i - H0.size) = i by omega]
  unfold hp_sum
  rw [List.map_drop, List.map_drop, h1, List.drop_append_of_le_length (by simpa using hb), List.sum_append]
section HPW
variable {p : Program} {l : Launch} {e : Env} {R : Room} {s : State} {m : MethodId} {args : Array Value} {below : List Frame} {meth : Method} {c : Code} {H : Heap} {locs : List Loc} {cells slots : Nat} {Q : State → Prop}
/-- what has been made, counted anew -/
theorem hp_tight {b k n : Nat} {g : JFrame} (hb : b ≤ s.heap.size) (h1 : H.size ≤ s.heap.size + k) (h2 : hp_sum b H ≤ hp_sum b s.heap + n) (kk : W p l e R s m args below meth c H locs k n Q g) : W p l e R s m args below meth c H locs cells slots Q g := by
  intro T hT X
  refine kk T hT ⟨X.admits, X.cas, X.clock, X.frames, X.room, X.hears, X.method, X.code, X.here, X.tail, X.warmed, X.limits, X.bytes, ?_⟩
  obtain ⟨e1, e2, e3, e4, e5, e6⟩ := X.same
  have hTh : (T.setVm s.vm).heap = H := hT
  rw [hTh] at e2 e3 e4 e5 e6
  have hs : hp_sum b H = hp_sum b s.heap + ((H.toList.drop s.heap.size).map (·.slots.size)).sum := by
    refine hp_sum_split hb e2 fun q hq => ?_
    obtain ⟨c', h3, -, h5, -⟩ := e6 q _ (Array.getElem?_eq_getElem hq)
    rw [h3, Array.getElem?_eq_getElem hq]
    simp [h5]
  refine ⟨e1, by rw [hTh]; exact e2, by rw [hTh]; exact h1, by rw [hTh]; exact e4, by rw [hTh]; omega, by rw [hTh]; exact e6⟩
end HPW
/-! the picture through a write and a new cell -/
theorem va_at_size {D : va_G} {b : Nat} {dA : Nat → ClassId} {kd len len' : Nat} {I I' : Nat → Int} {Rf Rf' : Nat → Option Nat} {H : Heap} {a : Nat} : va_at D vwCl (a, hp_e b dA kd len I Rf) H → ∃ c : Cell, H[a]? = some c := by
  intro h
  unfold va_at hp_e at h
  by_cases h1 : kd ≤ 7
  · simp only [if_pos h1] at h
    obtain ⟨r, -, c, hc, -⟩ := h
    exact ⟨c, hc⟩
  · by_cases h2 : kd ≤ 9
    · simp only [if_neg h1, if_pos h2] at h
      exact ⟨_, h⟩
    · by_cases h3 : kd ≤ 12
      · simp only [if_neg h1, if_neg h2, if_pos h3] at h
        exact ⟨_, h⟩
      · simp only [if_neg h1, if_neg h2, if_neg h3] at h
        exact ⟨_, h⟩
theorem hp_R.upd {b : Nat} {D : va_G} {dA : Nat → ClassId} {S S' : AS} {H H' : Heap} (h : hp_R b D dA S H) (a : Nat) (en : hn S' = hn S) (eu : hu S' = hu S) (ek : hk S' = hk S) (el : hl S' = hl S)
    (eI : ∀ x, x ≠ a → hI S' x = hI S x) (eR : ∀ x, x ≠ a → hR S' x = hR S x) (hat : va_at D vwCl (b + a, hp_e b dA (hk S a) (hl S a) (hI S' a) (hR S' a)) H')
    (z : H'.size = H.size) (o : ∀ q, q ≠ b + a → H'[q]? = H[q]?) (hsz : (H'[b + a]?).map (fun c => c.slots.size) = (H[b + a]?).map (fun c => c.slots.size)) (hr : ∀ k, inR (hI S' a k)) (hz : hk S a = 9 → ∀ k, hI S' a k = 0 ∨ hI S' a k = 1) : hp_R b D dA S' H' := by
  obtain ⟨h1, h2, h3, h4, h5⟩ := h
  refine ⟨by rw [z, h1, en], ?_, fun x hx => ?_, fun x k => ?_, fun x k hx => ?_⟩
  · rw [eu, ← h2]
    refine hp_sum_eq fun q => ?_
    by_cases hq : q = b + a
    · subst hq; exact hsz
    · rw [o q hq]
  · rw [ek] at hx ⊢
    rw [el, en]
    obtain ⟨q1, q2, q3⟩ := h3 x hx
    refine ⟨q1, q2, ?_⟩
    by_cases hxa : x = a
    · subst hxa; exact hat
    · rw [eI x hxa, eR x hxa]
      exact q3.kept (o (b + x) (by omega))
  · by_cases hxa : x = a
    · subst hxa; exact hr k
    · rw [eI x hxa]; exact h4 x k
  · rw [ek] at hx
    by_cases hxa : x = a
    · subst hxa; exact hz hx k
    · rw [eI x hxa]; exact h5 x k hx
theorem hp_R.new {b : Nat} {D : va_G} {dA : Nat → ClassId} {S : AS} {H H' : Heap} {x : Cell} (h : hp_R b D dA S H) {kd len sl : Nat} (hkd : kd ≤ 13)
    (hat : va_at D vwCl (H.size, hp_e b dA kd len (fun _ => 0) (fun _ => none)) H')
    (z : H'.size = H.size + 1) (o : ∀ q, q < H.size → H'[q]? = H[q]?) (e : H'[H.size]? = some x) (hsz : x.slots.size = sl) : hp_R b D dA (wN S kd len sl) H' := by
  obtain ⟨h1, h2, h3, h4, h5⟩ := h
  refine ⟨by rw [z, h1, hn_wN]; omega, ?_, fun y hy => ?_, fun y k => ?_, fun y k hy => ?_⟩
  · rw [hp_sum_push (by omega) z o e, h2, hsz, hu_wN]
  · rw [hk_wN] at hy
    rw [hk_wN, hl_wN, hn_wN]
    by_cases hq : y = hn S
    · subst hq
      have eI : hI (wN S kd len sl) (hn S) = fun _ => 0 := by funext j; rw [hI_wN, if_pos rfl]
      have eR : hR (wN S kd len sl) (hn S) = fun _ => none := by funext j; rw [hR_wN, if_pos rfl]
      rw [if_pos rfl, if_pos rfl, eI, eR, ← h1]
      exact ⟨by omega, hkd, hat⟩
    · rw [if_neg hq] at hy ⊢
      obtain ⟨q1, q2, q3⟩ := h3 y hy
      have eI : hI (wN S kd len sl) y = hI S y := by funext j; rw [hI_wN, if_neg hq]
      have eR : hR (wN S kd len sl) y = hR S y := by funext j; rw [hR_wN, if_neg hq]
      rw [if_neg hq, eI, eR]
      exact ⟨by omega, q2, q3.kept (o (b + y) (by omega))⟩
  · rw [hI_wN]
    split
    · decide
    · exact h4 y k
  · rw [hk_wN] at hy
    rw [hI_wN]
    split
    · exact Or.inl rfl
    · rename_i hq
      rw [if_neg hq] at hy
      exact h5 y k hy
theorem hp_R.thrown {b : Nat} {D : va_G} {dA : Nat → ClassId} {S : AS} {H H' : Heap} {x : Cell} (h : hp_R b D dA S H) (z : H'.size = H.size + 1) (o : ∀ q, q < H.size → H'[q]? = H[q]?) (e : H'[H.size]? = some x) (hsz : x.slots.size = 6) : hp_R b D dA (wX S) H' := by
  obtain ⟨h1, h2, h3, h4, h5⟩ := h
  refine ⟨by rw [z, h1, hn_wX]; omega, ?_, fun y hy => ?_, h4, fun y k hy => ?_⟩
  · rw [hp_sum_push (by omega) z o e, h2, hsz, hu_wX]
  · rw [hk_wX] at hy ⊢
    by_cases hq : y = hn S
    · rw [if_pos hq] at hy
      exact absurd rfl hy
    · rw [if_neg hq] at hy ⊢
      obtain ⟨q1, q2, q3⟩ := h3 y hy
      exact ⟨by rw [hn_wX]; omega, q2, q3.kept (o (b + y) (by omega))⟩
  · rw [hk_wX] at hy
    split at hy
    · cases hy
    · exact h5 y k hy
/-! a cell out of the picture -/
theorem hp_R.obj {b : Nat} {D : va_G} {dA : Nat → ClassId} {S : AS} {H : Heap} (h : hp_R b D dA S H) {a ci : Nat} (hci : ci < 7) (ha : hk S a = ci + 1) : t_OB (b + a) (D.1 ci) (NC ci) (D.2 ci) H (vp_V (fls b ci (hI S a) (hR S a))) := by
  obtain ⟨-, -, h3, -, -⟩ := h
  obtain ⟨-, -, q⟩ := h3 a (by omega)
  rw [ha] at q
  unfold va_at hp_e at q
  simp only [if_pos (show ci + 1 ≤ 7 by omega), Nat.add_sub_cancel] at q
  obtain ⟨r, hr, ho⟩ := q
  have e : r = (RC ci, TC ci, NC ci) := Option.some.inj (hr.symm.trans (vwC hci))
  subst e
  exact ho
theorem fls_at {b ci k : Nat} {I : Nat → Int} {Rf : Nat → Option Nat} (hk : k < NC ci) : vp_V (fls b ci I Rf) k = fv b (tyC ci k) (I k) (Rf k) := by
  simp [vp_V, fls, hk]
theorem hp_R.ints {b : Nat} {D : va_G} {dA : Nat → ClassId} {S : AS} {H : Heap} (h : hp_R b D dA S H) {a kd : Nat} (hkd : kd = 8 ∨ kd = 9) (ha : hk S a = kd) : H[b + a]? = some (arrV (dA kd) (hl S a) (fun j => .int (Int32.ofInt (hI S a j)))) := by
  obtain ⟨-, -, h3, -, -⟩ := h
  obtain ⟨-, -, q⟩ := h3 a (by omega)
  rw [ha] at q
  unfold va_at hp_e at q
  simp only [if_neg (show ¬ kd ≤ 7 by omega), if_pos (show kd ≤ 9 by omega)] at q
  exact q
theorem hp_R.refs {b : Nat} {D : va_G} {dA : Nat → ClassId} {S : AS} {H : Heap} (h : hp_R b D dA S H) {a kd : Nat} (hk1 : 10 ≤ kd) (hk2 : kd ≤ 12) (ha : hk S a = kd) : H[b + a]? = some (arrV (dA kd) (hl S a) (fun j => rf b (hR S a j))) := by
  obtain ⟨-, -, h3, -, -⟩ := h
  obtain ⟨-, -, q⟩ := h3 a (by omega)
  rw [ha] at q
  unfold va_at hp_e at q
  simp only [if_neg (show ¬ kd ≤ 7 by omega), if_neg (show ¬ kd ≤ 9 by omega), if_pos (show kd ≤ 12 by omega)] at q
  exact q
theorem hp_R.longs {b : Nat} {D : va_G} {dA : Nat → ClassId} {S : AS} {H : Heap} (h : hp_R b D dA S H) {a : Nat} (ha : hk S a = 13) : H[b + a]? = some (arrV (dA 13) (hl S a) (fun j => .long (Int64.ofInt (hI S a j)))) := by
  obtain ⟨-, -, h3, -, -⟩ := h
  obtain ⟨-, -, q⟩ := h3 a (by omega)
  rw [ha] at q
  unfold va_at hp_e at q
  simp only [if_neg (show ¬ 13 ≤ 7 by omega), if_neg (show ¬ 13 ≤ 9 by omega), if_neg (show ¬ 13 ≤ 12 by omega)] at q
  exact q
end
section
def hp_ty (dA : Nat → ClassId) : List (ClassId × FieldType) := [(dA 8, .int), (dA 9, .boolean), (dA 10, .object RX3), (dA 11, .object RX4), (dA 12, .array .int), (dA 13, .long)]
/-- words of the tables that a callee can't take over by itself: they go along as facts -/
def hp_bad : List Cond := [.methodLinkNest RX5 21 yX2_init RX5, .methodLinkNest RX5 28 yX1_init RX5, .methodLinkNest RX4 43 yX5_isSameRow RX5, .castable "[I" "java/lang/Cloneable",
  .castable "java/lang/IllegalStateException" "java/lang/IllegalStateException", .castable "java/lang/IllegalArgumentException" "java/lang/IllegalArgumentException", .castable "java/lang/IndexOutOfBoundsException" "java/lang/IndexOutOfBoundsException", .castable "java/lang/UnsupportedOperationException" "java/lang/UnsupportedOperationException",
  .declares ⟨"java/lang/RuntimeException", "<init>", "()V"⟩, .declares ⟨"java/lang/Exception", "<init>", "()V"⟩, .declares ⟨"java/lang/Throwable", "<init>", "()V"⟩]
def hp_K (b : Nat) (D : va_G) (dA : Nat → ClassId) (U : State) : Prop :=
  va_K D vwCl (hp_ty dA) U ∧ (∀ w ∈ hp_bad, va_Nw w U) ∧ va_AO RX3 U ∧ va_AO RX4 U ∧ (∀ A, (Cond.arrayOver (.array .int)).before A U = true) ∧
  vx_Zq Bundle.tN "UNASSIGNED_STACK" Bundle.steD (fun q => b ≤ q) U U.heap ∧ vx_Zq Bundle.tN "SUPPRESSED_SENTINEL" Bundle.listD (fun q => b ≤ q) U U.heap
def hp_ws : List Cond := lw_tbl.filter goodWord
theorem hp_in {w : Cond} (h : w ∈ lw_tbl) (g : goodWord w = true) : w ∈ hp_ws := List.mem_filter.mpr ⟨h, g⟩
def hp_B (S0 S : AS) : Prop := hn S0 ≤ hn S ∧ hn S ≤ CM ∧ hu S0 ≤ hu S ∧ hu S ≤ UM
def exN (k : Nat) : String := if k = 1 then "java/lang/IndexOutOfBoundsException" else if k = 2 then "java/lang/IllegalStateException" else if k = 3 then "java/lang/IllegalArgumentException" else "java/lang/UnsupportedOperationException"
def rvv (b rk : Nat) (x : Int × Option Nat) : Option Value := if rk = 0 then none else if rk = 1 then some (iv x.1) else some (rf b x.2)
def hp_pre (b : Nat) (D : va_G) (dA : Nat → ClassId) (As : List Value) (S : AS) : Array Value → State → Prop := va_Pc As (fun U => hp_R b D dA S U.heap ∧ hp_K b D dA U ∧ hp_B S S)
def hp_post (b : Nat) (D : va_G) (dA : Nat → ClassId) (S : AS) (rk : Nat) (q : RS) : Array Value → State → Outcome → State → Prop := fun _ st o t =>
  q.1.1 = 0 ∧ o = .returned (rvv b rk q.1.2) ∧ (rk = 1 → inR q.1.2.1) ∧ hp_R b D dA q.2 t.heap ∧ hp_B S q.2 ∧ ∀ x, x < b → t.heap[x]? = st.heap[x]?
def hp_exc (b : Nat) (D : va_G) (dA : Nat → ClassId) (S : AS) (q : RS) : String → State → State → Prop := fun E st t =>
  q.1.1 ≠ 0 ∧ E = exN q.1.1 ∧ hp_R b D dA q.2 t.heap ∧ hp_B S q.2 ∧ ∀ x, x < b → t.heap[x]? = st.heap[x]?
def hp_rm (fr lo : Nat) (S : AS) : Room := { frames := fr, cells := CM - hn S, slots := UM - hu S, locals := lo }
/-- A METHOD'S CONTRACT: from the picture S, with these arguments, it ends as q says -/
def hp_M (l : Launch) (b : Nat) (D : va_G) (dA : Nat → ClassId) (y : MethodName) (cc : ByteArray) (maxL : Nat) (ret : Option FieldType) (fr lo : Nat) (As : List Value) (S : AS) (rk : Nat) (q : RS) : Prop :=
  vx_Met l y (.code y cc maxL ret :: hp_ws) (hp_rm fr lo S) (hp_pre b D dA As S) (hp_post b D dA S rk q) (hp_exc b D dA S q) (CM - hn S) (UM - hu S) (fun z => b ≤ z)
section J
variable {p : Program} {l : Launch} {e : Env} {R : Room} {s : State} {m : MethodId} {args : Array Value} {below : List Frame} {meth : Method} {c : Code}
variable {b : Nat} {D : va_G} {dA : Nat → ClassId} {S0 S S' : AS} {Q : State → Prop} {own : String} {cc : ByteArray} {nL pc : Nat} {ls : Array Slot} {st : List Value}
/-- THE WALK: at pc, with the picture S -/
def hp_J (p : Program) (l : Launch) (e : Env) (R : Room) (s : State) (m : MethodId) (args : Array Value) (below : List Frame) (meth : Method) (c : Code) (b : Nat) (D : va_G) (dA : Nat → ClassId) (S0 : AS) (Q : State → Prop) (S : AS) (pc : Nat) (ls : Array Slot) (st : List Value) : Prop :=
  ∀ (H : Heap) (locs : List Loc), hp_R b D dA S H → (∀ z ∈ locs, b ≤ z.base) → hp_B S0 S → (∀ x, x < b → H[x]? = s.heap[x]?) → W p l e R s m args below meth c H locs (hn S - hn S0) (hu S - hu S0) Q (F0 m pc ls st)
/-- what stands fast in it -/
def hp_C (p : Program) (l : Launch) (e : Env) (R : Room) (s : State) (m : MethodId) (args : Array Value) (below : List Frame) (meth : Method) (c : Code) (b : Nat) (D : va_G) (dA : Nat → ClassId) (S0 : AS) (own : String) (cc : ByteArray) (nL fr lo : Nat) : Prop :=
  p.tables.exec = Jvm.exec ∧ c.code = cc ∧ c.maxLocals = nL ∧ s.vm.findClass own = some m.cls ∧ (∀ w ∈ hp_ws, w.before args s = true) ∧ hp_K b D dA s ∧ hp_R b D dA S0 s.heap ∧ R.cells = CM - hn S0 ∧ R.slots = UM - hu S0 ∧ meth.locks = false ∧ l.stackTraces = false ∧ R.frames = fr ∧ R.locals = lo
variable {fr lo : Nat}
/-! rows that leave the heap alone: out of rows of the kit for any heap -/
theorem j_of {pc' : Nat} {ls' : Array Slot} {st' : List Value} (h : ∀ (H : Heap) (locs : List Loc) (cells slots : Nat), W p l e R s m args below meth c H locs (cells) (slots) Q (F0 m (pc') ls' (st')) → W p l e R s m args below meth c H locs (cells) (slots) Q (F0 m (pc) ls (st))) (k : hp_J p l e R s m args below meth c b D dA S0 Q S pc' ls' st') : hp_J p l e R s m args below meth c b D dA S0 Q S pc ls st :=
  fun H locs h1 h2 h3 h4 => h H locs _ _ (k H locs h1 h2 h3 h4)
theorem j_iconst (C : hp_C p l e R s m args below meth c b D dA S0 own cc nL fr lo) {n : Int} (d : decode cc pc = .ok (.iconst n, 1)) (k : hp_J p l e R s m args below meth c b D dA S0 Q S (pc + 1) ls (iv n :: st)) : hp_J p l e R s m args below meth c b D dA S0 Q S pc ls st :=
  j_of (fun _ _ _ _ h => lv_iconst C.1 C.2.1 d rfl h) k
theorem j_bipush (C : hp_C p l e R s m args below meth c b D dA S0 own cc nL fr lo) {n x : Int} (d : decode cc pc = .ok (.bipush n, 2)) (hx : (Int8.ofInt n).toInt32 = Int32.ofInt x) (k : hp_J p l e R s m args below meth c b D dA S0 Q S (pc + 2) ls (iv x :: st)) : hp_J p l e R s m args below meth c b D dA S0 Q S pc ls st :=
  j_of (fun _ _ _ _ h => lv_bipush C.1 C.2.1 d hx h) k
theorem j_sipush (C : hp_C p l e R s m args below meth c b D dA S0 own cc nL fr lo) {n x : Int} (d : decode cc pc = .ok (.sipush n, 3)) (hx : (Int16.ofInt n).toInt32 = Int32.ofInt x) (k : hp_J p l e R s m args below meth c b D dA S0 Q S (pc + 3) ls (iv x :: st)) : hp_J p l e R s m args below meth c b D dA S0 Q S pc ls st :=
  j_of (fun _ _ _ _ h => lv_sipush C.1 C.2.1 d hx h) k
theorem j_ldc (C : hp_C p l e R s m args below meth c b D dA S0 own cc nL fr lo) {idx : Nat} {x : Int} (d : decode cc pc = .ok (.ldc idx, 2)) (hw : Cond.constant own idx (Int32.ofInt x) ∈ hp_ws) (k : hp_J p l e R s m args below meth c b D dA S0 Q S (pc + 2) ls (iv x :: st)) : hp_J p l e R s m args below meth c b D dA S0 Q S pc ls st :=
  j_of (fun _ _ _ _ h => lv_ldc C.1 C.2.1 C.2.2.2.1 (C.2.2.2.2.1 _ hw) d h) k
theorem j_iload_n (C : hp_C p l e R s m args below meth c b D dA S0 own cc nL fr lo) {k9 : Fin 4} {i : Nat} {x : Int} (d : decode cc pc = .ok (.iload_n k9, 1)) (hi : (k9 : Nat) = i) (hl : ls[i]? = some (.val (iv x))) (k : hp_J p l e R s m args below meth c b D dA S0 Q S (pc + 1) ls (iv x :: st)) : hp_J p l e R s m args below meth c b D dA S0 Q S pc ls st :=
  j_of (fun _ _ _ _ h => lv_iload_n C.1 C.2.1 d hi hl h) k
theorem j_iload (C : hp_C p l e R s m args below meth c b D dA S0 own cc nL fr lo) {i : Nat} {x : Int} (d : decode cc pc = .ok (.iload i, 2)) (hl : ls[i]? = some (.val (iv x))) (k : hp_J p l e R s m args below meth c b D dA S0 Q S (pc + 2) ls (iv x :: st)) : hp_J p l e R s m args below meth c b D dA S0 Q S pc ls st :=
  j_of (fun _ _ _ _ h => lv_iload C.1 C.2.1 d hl h) k
theorem j_aload_n (C : hp_C p l e R s m args below meth c b D dA S0 own cc nL fr lo) {k9 : Fin 4} {i : Nat} {x : Option Nat} (d : decode cc pc = .ok (.aload_n k9, 1)) (hi : (k9 : Nat) = i) (hl : ls[i]? = some (.val (rf b x))) (k : hp_J p l e R s m args below meth c b D dA S0 Q S (pc + 1) ls (rf b x :: st)) : hp_J p l e R s m args below meth c b D dA S0 Q S pc ls st := by
  cases x with
  | none => exact j_of (fun _ _ _ _ h => lv_aload_nN C.1 C.2.1 d hi hl h) k
  | some x => exact j_of (fun _ _ _ _ h => lv_aload_n C.1 C.2.1 d hi hl h) k
theorem j_aload (C : hp_C p l e R s m args below meth c b D dA S0 own cc nL fr lo) {i : Nat} {x : Option Nat} (d : decode cc pc = .ok (.aload i, 2)) (hl : ls[i]? = some (.val (rf b x))) (k : hp_J p l e R s m args below meth c b D dA S0 Q S (pc + 2) ls (rf b x :: st)) : hp_J p l e R s m args below meth c b D dA S0 Q S pc ls st := by
  cases x with
  | none => exact j_of (fun _ _ _ _ h => lv_aloadN C.1 C.2.1 d hl h) k
  | some x => exact j_of (fun _ _ _ _ h => lv_aload C.1 C.2.1 d hl h) k
theorem j_istore_n (C : hp_C p l e R s m args below meth c b D dA S0 own cc nL fr lo) {k9 : Fin 4} {i : Nat} {x : Int} {lv lv' : List (Nat × Value)} (d : decode cc pc = .ok (.istore_n k9, 1)) (hi : (k9 : Nat) = i) (h : lv_has ls nL lv) (hn9 : i < nL) (hl : (i, iv x) :: lv.filter (fun q => !(q.1 == i) && !(q.1 + 1 == i && q.2.category == 2)) = lv') (k : ∀ ls' : Array Slot, lv_has ls' nL lv' → hp_J p l e R s m args below meth c b D dA S0 Q S (pc + 1) ls' st) : hp_J p l e R s m args below meth c b D dA S0 Q S pc ls (iv x :: st) :=
  fun H locs h1 h2 h3 h4 => lv_istore_n C.1 C.2.1 d hi h hn9 hl (fun ls' hl' => k ls' hl' H locs h1 h2 h3 h4)
theorem j_istore (C : hp_C p l e R s m args below meth c b D dA S0 own cc nL fr lo) {i : Nat} {x : Int} {lv lv' : List (Nat × Value)} (d : decode cc pc = .ok (.istore i, 2)) (h : lv_has ls nL lv) (hn9 : i < nL) (hl : (i, iv x) :: lv.filter (fun q => !(q.1 == i) && !(q.1 + 1 == i && q.2.category == 2)) = lv') (k : ∀ ls' : Array Slot, lv_has ls' nL lv' → hp_J p l e R s m args below meth c b D dA S0 Q S (pc + 2) ls' st) : hp_J p l e R s m args below meth c b D dA S0 Q S pc ls (iv x :: st) :=
  fun H locs h1 h2 h3 h4 => lv_istore C.1 C.2.1 d h hn9 hl (fun ls' hl' => k ls' hl' H locs h1 h2 h3 h4)
theorem j_astore_n (C : hp_C p l e R s m args below meth c b D dA S0 own cc nL fr lo) {k9 : Fin 4} {i : Nat} {x : Option Nat} {lv lv' : List (Nat × Value)} (d : decode cc pc = .ok (.astore_n k9, 1)) (hi : (k9 : Nat) = i) (h : lv_has ls nL lv) (hn9 : i < nL) (hl : (i, rf b x) :: lv.filter (fun q => !(q.1 == i) && !(q.1 + 1 == i && q.2.category == 2)) = lv') (k : ∀ ls' : Array Slot, lv_has ls' nL lv' → hp_J p l e R s m args below meth c b D dA S0 Q S (pc + 1) ls' st) : hp_J p l e R s m args below meth c b D dA S0 Q S pc ls (rf b x :: st) := by
  cases x with
  | none => exact fun H locs h1 h2 h3 h4 => lv_astore_nN C.1 C.2.1 d hi h hn9 hl (fun ls' hl' => k ls' hl' H locs h1 h2 h3 h4)
  | some x => exact fun H locs h1 h2 h3 h4 => lv_astore_n C.1 C.2.1 d hi h hn9 hl (fun ls' hl' => k ls' hl' H locs h1 h2 h3 h4)
theorem j_astore (C : hp_C p l e R s m args below meth c b D dA S0 own cc nL fr lo) {i : Nat} {x : Option Nat} {lv lv' : List (Nat × Value)} (d : decode cc pc = .ok (.astore i, 2)) (h : lv_has ls nL lv) (hn9 : i < nL) (hl : (i, rf b x) :: lv.filter (fun q => !(q.1 == i) && !(q.1 + 1 == i && q.2.category == 2)) = lv') (k : ∀ ls' : Array Slot, lv_has ls' nL lv' → hp_J p l e R s m args below meth c b D dA S0 Q S (pc + 2) ls' st) : hp_J p l e R s m args below meth c b D dA S0 Q S pc ls (rf b x :: st) := by
  cases x with
  | none => exact fun H locs h1 h2 h3 h4 => lv_astoreN C.1 C.2.1 d h hn9 hl (fun ls' hl' => k ls' hl' H locs h1 h2 h3 h4)
  | some x => exact fun H locs h1 h2 h3 h4 => lv_astore C.1 C.2.1 d h hn9 hl (fun ls' hl' => k ls' hl' H locs h1 h2 h3 h4)
theorem j_iinc (C : hp_C p l e R s m args below meth c b D dA S0 own cc nL fr lo) {i k9 : Nat} {n x z : Int} {lv lv' : List (Nat × Value)} (d : decode cc pc = .ok (.iinc i n, 3)) (h : lv_has ls nL lv) (hk9 : lv[k9]? = some (i, iv x)) (hz : chk (x + n) = some z) (hn9 : i < nL) (hl : (i, iv z) :: lv.filter (fun q => !(q.1 == i) && !(q.1 + 1 == i && q.2.category == 2)) = lv') (k : inR z → ∀ ls' : Array Slot, lv_has ls' nL lv' → hp_J p l e R s m args below meth c b D dA S0 Q S (pc + 3) ls' st) : hp_J p l e R s m args below meth c b D dA S0 Q S pc ls st := by
  obtain ⟨rfl, hr⟩ := chk_some hz
  exact fun H locs h1 h2 h3 h4 => lv_iinc C.1 C.2.1 d h hk9 (Int32.ofInt_add _ _).symm hn9 hl (fun ls' hl' => k hr ls' hl' H locs h1 h2 h3 h4)
theorem cat_iv (x : Int) : (iv x).category = 1 := rfl
theorem cat_rf (b : Nat) (r : Option Nat) : (rf b r).category = 1 := by cases r <;> rfl
theorem j_dup (C : hp_C p l e R s m args below meth c b D dA S0 own cc nL fr lo) {v : Value} (d : decode cc pc = .ok (.dup, 1)) (hv : v.category = 1) (k : hp_J p l e R s m args below meth c b D dA S0 Q S (pc + 1) ls (v :: v :: st)) : hp_J p l e R s m args below meth c b D dA S0 Q S pc ls (v :: st) :=
  j_of (fun _ _ _ _ h => lv_dup C.1 C.2.1 d hv h) k
theorem j_dup2 (C : hp_C p l e R s m args below meth c b D dA S0 own cc nL fr lo) {v w : Value} (d : decode cc pc = .ok (.dup2, 1)) (hv : v.category = 1) (hw : w.category = 1) (k : hp_J p l e R s m args below meth c b D dA S0 Q S (pc + 1) ls (v :: w :: v :: w :: st)) : hp_J p l e R s m args below meth c b D dA S0 Q S pc ls (v :: w :: st) :=
  j_of (fun _ _ _ _ h => lv_dup2_11 C.1 C.2.1 d hv hw h) k
theorem j_pop (C : hp_C p l e R s m args below meth c b D dA S0 own cc nL fr lo) {v : Value} (d : decode cc pc = .ok (.pop, 1)) (hv : v.category = 1) (k : hp_J p l e R s m args below meth c b D dA S0 Q S (pc + 1) ls st) : hp_J p l e R s m args below meth c b D dA S0 Q S pc ls (v :: st) :=
  j_of (fun _ _ _ _ h => lv_pop C.1 C.2.1 d hv h) k
theorem j_goto (C : hp_C p l e R s m args below meth c b D dA S0 own cc nL fr lo) {off : Int} {tgt : Nat} (d : decode cc pc = .ok (.goto off, 3)) (ht : (pc : Int) + off = (tgt : Int)) (k : hp_J p l e R s m args below meth c b D dA S0 Q S tgt ls st) : hp_J p l e R s m args below meth c b D dA S0 Q S pc ls st :=
  j_of (fun _ _ _ _ h => lv_goto C.1 C.2.1 d ht h) k
theorem j_iadd (C : hp_C p l e R s m args below meth c b D dA S0 own cc nL fr lo) {x y z : Int} (d : decode cc pc = .ok (.iadd, 1)) (hz : chk (x + y) = some z) (k : inR z → hp_J p l e R s m args below meth c b D dA S0 Q S (pc + 1) ls (iv z :: st)) : hp_J p l e R s m args below meth c b D dA S0 Q S pc ls (iv y :: iv x :: st) := by
  obtain ⟨rfl, hr⟩ := chk_some hz
  exact j_of (fun _ _ _ _ h => lv_iadd C.1 C.2.1 d (by rw [← Int32.ofInt_add]; exact h)) (k hr)
theorem j_isub (C : hp_C p l e R s m args below meth c b D dA S0 own cc nL fr lo) {x y z : Int} (d : decode cc pc = .ok (.isub, 1)) (hz : chk (x - y) = some z) (k : inR z → hp_J p l e R s m args below meth c b D dA S0 Q S (pc + 1) ls (iv z :: st)) : hp_J p l e R s m args below meth c b D dA S0 Q S pc ls (iv y :: iv x :: st) := by
  obtain ⟨rfl, hr⟩ := chk_some hz
  exact j_of (fun _ _ _ _ h => lv_isub C.1 C.2.1 d (by rw [← Int32.ofInt_sub]; exact h)) (k hr)
theorem j_imul (C : hp_C p l e R s m args below meth c b D dA S0 own cc nL fr lo) {x y z : Int} (d : decode cc pc = .ok (.imul, 1)) (hz : chk (x * y) = some z) (k : inR z → hp_J p l e R s m args below meth c b D dA S0 Q S (pc + 1) ls (iv z :: st)) : hp_J p l e R s m args below meth c b D dA S0 Q S pc ls (iv y :: iv x :: st) := by
  obtain ⟨rfl, hr⟩ := chk_some hz
  exact j_of (fun _ _ _ _ h => lv_imul C.1 C.2.1 d (by rw [← Int32.ofInt_mul]; exact h)) (k hr)
/-! branches -/
theorem j_if_eq (C : hp_C p l e R s m args below meth c b D dA S0 own cc nL fr lo) {x : Int} {off : Int} {tgt : Nat} (d : decode cc pc = .ok (.ifCond .eq off, 3)) (ht : (pc : Int) + off = (tgt : Int)) (hx : inR x) (kt : x = 0 → hp_J p l e R s m args below meth c b D dA S0 Q S tgt ls st) (kf : ¬ (x = 0) → hp_J p l e R s m args below meth c b D dA S0 Q S (pc + 3) ls st) : hp_J p l e R s m args below meth c b D dA S0 Q S pc ls (iv x :: st) := by
  have e0 := iv_z
  have h0 : inR 0 := by decide
  have q1 := iv_inj hx h0
  have q2 := iv_lt hx h0
  have q3 := iv_le hx h0
  have q4 := iv_lt h0 hx
  have q5 := iv_le h0 hx
  rw [← e0] at q1 q2 q3 q4 q5
  exact fun H locs h1 h2 h3 h4 => lv_if_eq C.1 C.2.1 d ht (fun q => kt (by first | exact q1.mp q | exact q2.mp q | exact q3.mp q | exact q4.mp q | exact q5.mp q | (intro z; exact q (q1.mpr z))) H locs h1 h2 h3 h4) (fun q => kf (by first | (intro z; exact q (q1.mpr z)) | (intro z; exact q (q2.mpr z)) | (intro z; exact q (q3.mpr z)) | (intro z; exact q (q4.mpr z)) | (intro z; exact q (q5.mpr z)) | (intro z; first | exact q (fun g => z (q1.mp g)) | exact z (q1.mp q))) H locs h1 h2 h3 h4)
theorem j_if_ne (C : hp_C p l e R s m args below meth c b D dA S0 own cc nL fr lo) {x : Int} {off : Int} {tgt : Nat} (d : decode cc pc = .ok (.ifCond .ne off, 3)) (ht : (pc : Int) + off = (tgt : Int)) (hx : inR x) (kt : ¬ x = 0 → hp_J p l e R s m args below meth c b D dA S0 Q S tgt ls st) (kf : ¬ (¬ x = 0) → hp_J p l e R s m args below meth c b D dA S0 Q S (pc + 3) ls st) : hp_J p l e R s m args below meth c b D dA S0 Q S pc ls (iv x :: st) := by
  have e0 := iv_z
  have h0 : inR 0 := by decide
  have q1 := iv_inj hx h0
  have q2 := iv_lt hx h0
  have q3 := iv_le hx h0
  have q4 := iv_lt h0 hx
  have q5 := iv_le h0 hx
  rw [← e0] at q1 q2 q3 q4 q5
  exact fun H locs h1 h2 h3 h4 => lv_if_ne C.1 C.2.1 d ht (fun q => kt (by first | exact q1.mp q | exact q2.mp q | exact q3.mp q | exact q4.mp q | exact q5.mp q | (intro z; exact q (q1.mpr z))) H locs h1 h2 h3 h4) (fun q => kf (by first | (intro z; exact q (q1.mpr z)) | (intro z; exact q (q2.mpr z)) | (intro z; exact q (q3.mpr z)) | (intro z; exact q (q4.mpr z)) | (intro z; exact q (q5.mpr z)) | (intro z; first | exact q (fun g => z (q1.mp g)) | exact z (q1.mp q))) H locs h1 h2 h3 h4)
theorem j_if_lt (C : hp_C p l e R s m args below meth c b D dA S0 own cc nL fr lo) {x : Int} {off : Int} {tgt : Nat} (d : decode cc pc = .ok (.ifCond .lt off, 3)) (ht : (pc : Int) + off = (tgt : Int)) (hx : inR x) (kt : x < 0 → hp_J p l e R s m args below meth c b D dA S0 Q S tgt ls st) (kf : ¬ (x < 0) → hp_J p l e R s m args below meth c b D dA S0 Q S (pc + 3) ls st) : hp_J p l e R s m args below meth c b D dA S0 Q S pc ls (iv x :: st) := by
  have e0 := iv_z
  have h0 : inR 0 := by decide
  have q1 := iv_inj hx h0
  have q2 := iv_lt hx h0
  have q3 := iv_le hx h0
  have q4 := iv_lt h0 hx
  have q5 := iv_le h0 hx
  rw [← e0] at q1 q2 q3 q4 q5
  exact fun H locs h1 h2 h3 h4 => lv_if_lt C.1 C.2.1 d ht (fun q => kt (by first | exact q1.mp q | exact q2.mp q | exact q3.mp q | exact q4.mp q | exact q5.mp q | (intro z; exact q (q1.mpr z))) H locs h1 h2 h3 h4) (fun q => kf (by first | (intro z; exact q (q1.mpr z)) | (intro z; exact q (q2.mpr z)) | (intro z; exact q (q3.mpr z)) | (intro z; exact q (q4.mpr z)) | (intro z; exact q (q5.mpr z)) | (intro z; first | exact q (fun g => z (q1.mp g)) | exact z (q1.mp q))) H locs h1 h2 h3 h4)
theorem j_if_ge (C : hp_C p l e R s m args below meth c b D dA S0 own cc nL fr lo) {x : Int} {off : Int} {tgt : Nat} (d : decode cc pc = .ok (.ifCond .ge off, 3)) (ht : (pc : Int) + off = (tgt : Int)) (hx : inR x) (kt : 0 ≤ x → hp_J p l e R s m args below meth c b D dA S0 Q S tgt ls st) (kf : ¬ (0 ≤ x) → hp_J p l e R s m args below meth c b D dA S0 Q S (pc + 3) ls st) : hp_J p l e R s m args below meth c b D dA S0 Q S pc ls (iv x :: st) := by
  have e0 := iv_z
  have h0 : inR 0 := by decide
  have q1 := iv_inj hx h0
  have q2 := iv_lt hx h0
  have q3 := iv_le hx h0
  have q4 := iv_lt h0 hx
  have q5 := iv_le h0 hx
  rw [← e0] at q1 q2 q3 q4 q5
  exact fun H locs h1 h2 h3 h4 => lv_if_ge C.1 C.2.1 d ht (fun q => kt (by first | exact q1.mp q | exact q2.mp q | exact q3.mp q | exact q4.mp q | exact q5.mp q | (intro z; exact q (q1.mpr z))) H locs h1 h2 h3 h4) (fun q => kf (by first | (intro z; exact q (q1.mpr z)) | (intro z; exact q (q2.mpr z)) | (intro z; exact q (q3.mpr z)) | (intro z; exact q (q4.mpr z)) | (intro z; exact q (q5.mpr z)) | (intro z; first | exact q (fun g => z (q1.mp g)) | exact z (q1.mp q))) H locs h1 h2 h3 h4)
theorem j_if_gt (C : hp_C p l e R s m args below meth c b D dA S0 own cc nL fr lo) {x : Int} {off : Int} {tgt : Nat} (d : decode cc pc = .ok (.ifCond .gt off, 3)) (ht : (pc : Int) + off = (tgt : Int)) (hx : inR x) (kt : 0 < x → hp_J p l e R s m args below meth c b D dA S0 Q S tgt ls st) (kf : ¬ (0 < x) → hp_J p l e R s m args below meth c b D dA S0 Q S (pc + 3) ls st) : hp_J p l e R s m args below meth c b D dA S0 Q S pc ls (iv x :: st) := by
  have e0 := iv_z
  have h0 : inR 0 := by decide
  have q1 := iv_inj hx h0
  have q2 := iv_lt hx h0
  have q3 := iv_le hx h0
  have q4 := iv_lt h0 hx
  have q5 := iv_le h0 hx
  rw [← e0] at q1 q2 q3 q4 q5
  exact fun H locs h1 h2 h3 h4 => lv_if_gt C.1 C.2.1 d ht (fun q => kt (by first | exact q1.mp q | exact q2.mp q | exact q3.mp q | exact q4.mp q | exact q5.mp q | (intro z; exact q (q1.mpr z))) H locs h1 h2 h3 h4) (fun q => kf (by first | (intro z; exact q (q1.mpr z)) | (intro z; exact q (q2.mpr z)) | (intro z; exact q (q3.mpr z)) | (intro z; exact q (q4.mpr z)) | (intro z; exact q (q5.mpr z)) | (intro z; first | exact q (fun g => z (q1.mp g)) | exact z (q1.mp q))) H locs h1 h2 h3 h4)
theorem j_if_le (C : hp_C p l e R s m args below meth c b D dA S0 own cc nL fr lo) {x : Int} {off : Int} {tgt : Nat} (d : decode cc pc = .ok (.ifCond .le off, 3)) (ht : (pc : Int) + off = (tgt : Int)) (hx : inR x) (kt : x ≤ 0 → hp_J p l e R s m args below meth c b D dA S0 Q S tgt ls st) (kf : ¬ (x ≤ 0) → hp_J p l e R s m args below meth c b D dA S0 Q S (pc + 3) ls st) : hp_J p l e R s m args below meth c b D dA S0 Q S pc ls (iv x :: st) := by
  have e0 := iv_z
  have h0 : inR 0 := by decide
  have q1 := iv_inj hx h0
  have q2 := iv_lt hx h0
  have q3 := iv_le hx h0
  have q4 := iv_lt h0 hx
  have q5 := iv_le h0 hx
  rw [← e0] at q1 q2 q3 q4 q5
  exact fun H locs h1 h2 h3 h4 => lv_if_le C.1 C.2.1 d ht (fun q => kt (by first | exact q1.mp q | exact q2.mp q | exact q3.mp q | exact q4.mp q | exact q5.mp q | (intro z; exact q (q1.mpr z))) H locs h1 h2 h3 h4) (fun q => kf (by first | (intro z; exact q (q1.mpr z)) | (intro z; exact q (q2.mpr z)) | (intro z; exact q (q3.mpr z)) | (intro z; exact q (q4.mpr z)) | (intro z; exact q (q5.mpr z)) | (intro z; first | exact q (fun g => z (q1.mp g)) | exact z (q1.mp q))) H locs h1 h2 h3 h4)
theorem j_icmp_eq (C : hp_C p l e R s m args below meth c b D dA S0 own cc nL fr lo) {x y : Int} {off : Int} {tgt : Nat} (d : decode cc pc = .ok (.if_icmp .eq off, 3)) (ht : (pc : Int) + off = (tgt : Int)) (hx : inR x) (hy : inR y) (kt : x = y → hp_J p l e R s m args below meth c b D dA S0 Q S tgt ls st) (kf : ¬ (x = y) → hp_J p l e R s m args below meth c b D dA S0 Q S (pc + 3) ls st) : hp_J p l e R s m args below meth c b D dA S0 Q S pc ls (iv y :: iv x :: st) := by
  have q1 := iv_inj hx hy
  have q2 := iv_lt hx hy
  have q3 := iv_le hx hy
  have q4 := iv_lt hy hx
  have q5 := iv_le hy hx
  exact fun H locs h1 h2 h3 h4 => lv_icmp_eq C.1 C.2.1 d ht (fun q => kt (by first | exact q1.mp q | exact q2.mp q | exact q3.mp q | exact q4.mp q | exact q5.mp q | (intro z; exact q (q1.mpr z))) H locs h1 h2 h3 h4) (fun q => kf (by first | (intro z; exact q (q1.mpr z)) | (intro z; exact q (q2.mpr z)) | (intro z; exact q (q3.mpr z)) | (intro z; exact q (q4.mpr z)) | (intro z; exact q (q5.mpr z)) | (intro z; first | exact q (fun g => z (q1.mp g)) | exact z (q1.mp q))) H locs h1 h2 h3 h4)
theorem j_icmp_ne (C : hp_C p l e R s m args below meth c b D dA S0 own cc nL fr lo) {x y : Int} {off : Int} {tgt : Nat} (d : decode cc pc = .ok (.if_icmp .ne off, 3)) (ht : (pc : Int) + off = (tgt : Int)) (hx : inR x) (hy : inR y) (kt : ¬ x = y → hp_J p l e R s m args below meth c b D dA S0 Q S tgt ls st) (kf : ¬ (¬ x = y) → hp_J p l e R s m args below meth c b D dA S0 Q S (pc + 3) ls st) : hp_J p l e R s m args below meth c b D dA S0 Q S pc ls (iv y :: iv x :: st) := by
  have q1 := iv_inj hx hy
  have q2 := iv_lt hx hy
  have q3 := iv_le hx hy
  have q4 := iv_lt hy hx
  have q5 := iv_le hy hx
  exact fun H locs h1 h2 h3 h4 => lv_icmp_ne C.1 C.2.1 d ht (fun q => kt (by first | exact q1.mp q | exact q2.mp q | exact q3.mp q | exact q4.mp q | exact q5.mp q | (intro z; exact q (q1.mpr z))) H locs h1 h2 h3 h4) (fun q => kf (by first | (intro z; exact q (q1.mpr z)) | (intro z; exact q (q2.mpr z)) | (intro z; exact q (q3.mpr z)) | (intro z; exact q (q4.mpr z)) | (intro z; exact q (q5.mpr z)) | (intro z; first | exact q (fun g => z (q1.mp g)) | exact z (q1.mp q))) H locs h1 h2 h3 h4)
theorem j_icmp_lt (C : hp_C p l e R s m args below meth c b D dA S0 own cc nL fr lo) {x y : Int} {off : Int} {tgt : Nat} (d : decode cc pc = .ok (.if_icmp .lt off, 3)) (ht : (pc : Int) + off = (tgt : Int)) (hx : inR x) (hy : inR y) (kt : x < y → hp_J p l e R s m args below meth c b D dA S0 Q S tgt ls st) (kf : ¬ (x < y) → hp_J p l e R s m args below meth c b D dA S0 Q S (pc + 3) ls st) : hp_J p l e R s m args below meth c b D dA S0 Q S pc ls (iv y :: iv x :: st) := by
  have q1 := iv_inj hx hy
  have q2 := iv_lt hx hy
  have q3 := iv_le hx hy
  have q4 := iv_lt hy hx
  have q5 := iv_le hy hx
  exact fun H locs h1 h2 h3 h4 => lv_icmp_lt C.1 C.2.1 d ht (fun q => kt (by first | exact q1.mp q | exact q2.mp q | exact q3.mp q | exact q4.mp q | exact q5.mp q | (intro z; exact q (q1.mpr z))) H locs h1 h2 h3 h4) (fun q => kf (by first | (intro z; exact q (q1.mpr z)) | (intro z; exact q (q2.mpr z)) | (intro z; exact q (q3.mpr z)) | (intro z; exact q (q4.mpr z)) | (intro z; exact q (q5.mpr z)) | (intro z; first | exact q (fun g => z (q1.mp g)) | exact z (q1.mp q))) H locs h1 h2 h3 h4)
theorem j_icmp_ge (C : hp_C p l e R s m args below meth c b D dA S0 own cc nL fr lo) {x y : Int} {off : Int} {tgt : Nat} (d : decode cc pc = .ok (.if_icmp .ge off, 3)) (ht : (pc : Int) + off = (tgt : Int)) (hx : inR x) (hy : inR y) (kt : y ≤ x → hp_J p l e R s m args below meth c b D dA S0 Q S tgt ls st) (kf : ¬ (y ≤ x) → hp_J p l e R s m args below meth c b D dA S0 Q S (pc + 3) ls st) : hp_J p l e R s m args below meth c b D dA S0 Q S pc ls (iv y :: iv x :: st) := by
  have q1 := iv_inj hx hy
  have q2 := iv_lt hx hy
  have q3 := iv_le hx hy
  have q4 := iv_lt hy hx
  have q5 := iv_le hy hx
  exact fun H locs h1 h2 h3 h4 => lv_icmp_ge C.1 C.2.1 d ht (fun q => kt (by first | exact q1.mp q | exact q2.mp q | exact q3.mp q | exact q4.mp q | exact q5.mp q | (intro z; exact q (q1.mpr z))) H locs h1 h2 h3 h4) (fun q => kf (by first | (intro z; exact q (q1.mpr z)) | (intro z; exact q (q2.mpr z)) | (intro z; exact q (q3.mpr z)) | (intro z; exact q (q4.mpr z)) | (intro z; exact q (q5.mpr z)) | (intro z; first | exact q (fun g => z (q1.mp g)) | exact z (q1.mp q))) H locs h1 h2 h3 h4)
theorem j_icmp_gt (C : hp_C p l e R s m args below meth c b D dA S0 own cc nL fr lo) {x y : Int} {off : Int} {tgt : Nat} (d : decode cc pc = .ok (.if_icmp .gt off, 3)) (ht : (pc : Int) + off = (tgt : Int)) (hx : inR x) (hy : inR y) (kt : y < x → hp_J p l e R s m args below meth c b D dA S0 Q S tgt ls st) (kf : ¬ (y < x) → hp_J p l e R s m args below meth c b D dA S0 Q S (pc + 3) ls st) : hp_J p l e R s m args below meth c b D dA S0 Q S pc ls (iv y :: iv x :: st) := by
  have q1 := iv_inj hx hy
  have q2 := iv_lt hx hy
  have q3 := iv_le hx hy
  have q4 := iv_lt hy hx
  have q5 := iv_le hy hx
  exact fun H locs h1 h2 h3 h4 => lv_icmp_gt C.1 C.2.1 d ht (fun q => kt (by first | exact q1.mp q | exact q2.mp q | exact q3.mp q | exact q4.mp q | exact q5.mp q | (intro z; exact q (q1.mpr z))) H locs h1 h2 h3 h4) (fun q => kf (by first | (intro z; exact q (q1.mpr z)) | (intro z; exact q (q2.mpr z)) | (intro z; exact q (q3.mpr z)) | (intro z; exact q (q4.mpr z)) | (intro z; exact q (q5.mpr z)) | (intro z; first | exact q (fun g => z (q1.mp g)) | exact z (q1.mp q))) H locs h1 h2 h3 h4)
theorem j_icmp_le (C : hp_C p l e R s m args below meth c b D dA S0 own cc nL fr lo) {x y : Int} {off : Int} {tgt : Nat} (d : decode cc pc = .ok (.if_icmp .le off, 3)) (ht : (pc : Int) + off = (tgt : Int)) (hx : inR x) (hy : inR y) (kt : x ≤ y → hp_J p l e R s m args below meth c b D dA S0 Q S tgt ls st) (kf : ¬ (x ≤ y) → hp_J p l e R s m args below meth c b D dA S0 Q S (pc + 3) ls st) : hp_J p l e R s m args below meth c b D dA S0 Q S pc ls (iv y :: iv x :: st) := by
  have q1 := iv_inj hx hy
  have q2 := iv_lt hx hy
  have q3 := iv_le hx hy
  have q4 := iv_lt hy hx
  have q5 := iv_le hy hx
  exact fun H locs h1 h2 h3 h4 => lv_icmp_le C.1 C.2.1 d ht (fun q => kt (by first | exact q1.mp q | exact q2.mp q | exact q3.mp q | exact q4.mp q | exact q5.mp q | (intro z; exact q (q1.mpr z))) H locs h1 h2 h3 h4) (fun q => kf (by first | (intro z; exact q (q1.mpr z)) | (intro z; exact q (q2.mpr z)) | (intro z; exact q (q3.mpr z)) | (intro z; exact q (q4.mpr z)) | (intro z; exact q (q5.mpr z)) | (intro z; first | exact q (fun g => z (q1.mp g)) | exact z (q1.mp q))) H locs h1 h2 h3 h4)
theorem j_acmp_eq (C : hp_C p l e R s m args below meth c b D dA S0 own cc nL fr lo) {rx ry : Option Nat} {off : Int} {tgt : Nat} (d : decode cc pc = .ok (.if_acmp .eq off, 3)) (ht : (pc : Int) + off = (tgt : Int)) (kt : rx = ry → hp_J p l e R s m args below meth c b D dA S0 Q S tgt ls st) (kf : ¬ (rx = ry) → hp_J p l e R s m args below meth c b D dA S0 Q S (pc + 3) ls st) : hp_J p l e R s m args below meth c b D dA S0 Q S pc ls (rf b ry :: rf b rx :: st) := by
  have q1 : rx.map (b + ·) = ry.map (b + ·) ↔ rx = ry := ⟨fun h => by
    cases rx <;> cases ry <;> simp at h ⊢
    exact h, fun h => by rw [h]⟩
  exact fun H locs h1 h2 h3 h4 => lv_acmp_eq C.1 C.2.1 d ht (fun q => kt (by first | exact q1.mp q | (intro z; exact q (q1.mpr z))) H locs h1 h2 h3 h4) (fun q => kf (by first | (intro z; exact q (q1.mpr z)) | (intro z; exact z (q1.mp q))) H locs h1 h2 h3 h4)
theorem j_acmp_ne (C : hp_C p l e R s m args below meth c b D dA S0 own cc nL fr lo) {rx ry : Option Nat} {off : Int} {tgt : Nat} (d : decode cc pc = .ok (.if_acmp .ne off, 3)) (ht : (pc : Int) + off = (tgt : Int)) (kt : ¬ rx = ry → hp_J p l e R s m args below meth c b D dA S0 Q S tgt ls st) (kf : ¬ (¬ rx = ry) → hp_J p l e R s m args below meth c b D dA S0 Q S (pc + 3) ls st) : hp_J p l e R s m args below meth c b D dA S0 Q S pc ls (rf b ry :: rf b rx :: st) := by
  have q1 : rx.map (b + ·) = ry.map (b + ·) ↔ rx = ry := ⟨fun h => by
    cases rx <;> cases ry <;> simp at h ⊢
    exact h, fun h => by rw [h]⟩
  exact fun H locs h1 h2 h3 h4 => lv_acmp_ne C.1 C.2.1 d ht (fun q => kt (by first | exact q1.mp q | (intro z; exact q (q1.mpr z))) H locs h1 h2 h3 h4) (fun q => kf (by first | (intro z; exact q (q1.mpr z)) | (intro z; exact z (q1.mp q))) H locs h1 h2 h3 h4)
end J
end
section
theorem gdC0 : ∀ w ∈ u_ws RX0 TX0 5, goodWord w = true := by decide +kernel
theorem gdC1 : ∀ w ∈ u_ws RX1 TX1 7, goodWord w = true := by decide +kernel
theorem gdC2 : ∀ w ∈ u_ws RX2 TX2 3, goodWord w = true := by decide +kernel
theorem gdC3 : ∀ w ∈ u_ws RX3 TX3 3, goodWord w = true := by decide +kernel
theorem gdC4 : ∀ w ∈ u_ws RX4 TX4 7, goodWord w = true := by decide +kernel
theorem gdC5 : ∀ w ∈ u_ws RX5 TX5 7, goodWord w = true := by decide +kernel
theorem gdC6 : ∀ w ∈ u_ws RX6 TX6 28, goodWord w = true := by decide +kernel
theorem inW {ci : Nat} (h : ci < 7) : ∀ w ∈ u_ws (RC ci) (TC ci) (NC ci), w ∈ hp_ws := fun w hw => hp_in (inC h w hw) (by
  match ci, h with
  | 0, _ => exact gdC0 w hw
  | 1, _ => exact gdC1 w hw
  | 2, _ => exact gdC2 w hw
  | 3, _ => exact gdC3 w hw
  | 4, _ => exact gdC4 w hw
  | 5, _ => exact gdC5 w hw
  | 6, _ => exact gdC6 w hw)
def fl_ok (own : String) (idx ci k : Nat) : Prop := ci < 7 ∧ k < NC ci ∧ Cond.fieldLink own idx (TC ci k).1 (TC ci k).2.1 (TC ci k).2.2.1 ∈ hp_ws
theorem fv_int {b : Nat} {ty : FieldType} {i : Int} {r : Option Nat} (h : ty = .int ∨ ty = .boolean) : fv b ty i r = iv i := by rcases h with rfl | rfl <;> rfl
def isRt (ty : FieldType) : Bool := match ty with
  | .object _ => true
  | .array _ => true
  | _ => false
theorem fv_ref {b : Nat} {ty : FieldType} {i : Int} {r : Option Nat} (h : isRt ty = true) : fv b ty i r = rf b r := by
  cases ty <;> first | rfl | cases h
theorem fits_rf {b : Nat} {ty : FieldType} {r : Option Nat} (h : isRt ty = true) : narrow ty (rf b r) = rf b r ∧ fits ty (rf b r) = true := by
  cases ty <;> first | (cases h; done) | (cases r <;> exact ⟨rfl, rfl⟩)
/-- an object's field written: the picture -/
theorem hp_R.putO {b : Nat} {D : va_G} {dA : Nat → ClassId} {S S' : AS} {H H' : Heap} (h : hp_R b D dA S H) {a ci k : Nat} (hci : ci < 7) (ha : hk S a = ci + 1) (hk9 : k < NC ci) {v : Value} {cell : Cell} (hap : ∀ x y, x < NC ci → y < NC ci → x ≠ y → (D.2 ci) x ≠ (D.2 ci) y)
    (q1 : H[b + a]? = some cell) (q2 : cell.cls = D.1 ci) (q3 : cell.vm = .none) (q4 : ∀ j, j < NC ci → cell.slots[D.2 ci j]? = some (vp_V (fls b ci (hI S a) (hR S a)) j))
    (en : hn S' = hn S) (eu : hu S' = hu S) (ek : hk S' = hk S) (el : hl S' = hl S) (eI : ∀ x j, (x ≠ a ∨ j ≠ k) → hI S' x j = hI S x j) (eR : ∀ x j, (x ≠ a ∨ j ≠ k) → hR S' x j = hR S x j) (hv : v = fv b (tyC ci k) (hI S' a k) (hR S' a k)) (hr : inR (hI S' a k))
    (e1 : H'[b + a]? = some (cell.setSlot (D.2 ci k) v)) (z : H'.size = H.size) (o : ∀ q, q ≠ b + a → H'[q]? = H[q]?) : hp_R b D dA S' H' := by
  refine h.upd a en eu ek el (fun x hx => funext fun j => eI x j (Or.inl hx)) (fun x hx => funext fun j => eR x j (Or.inl hx)) ?_ z o ?_ ?_ ?_
  · rw [ha]
    unfold va_at hp_e
    simp only [if_pos (show ci + 1 ≤ 7 by omega), Nat.add_sub_cancel]
    refine ⟨_, vwC hci, t_OB.to (V := updV (vp_V (fls b ci (hI S a) (hR S a))) k v) ⟨_, e1, q2, q3, t_set q4 hap hk9 v⟩ (fun j hj => ?_)⟩
    rw [fls_at hj]
    unfold updV
    by_cases hjk : j = k
    · subst hjk
      rw [if_pos rfl, hv]
    · rw [if_neg hjk, fls_at hj, eI a j (Or.inr hjk), eR a j (Or.inr hjk)]
  · rw [e1, q1]
    simp [k2_slotsz]
  · intro j
    by_cases hjk : j = k
    · subst hjk; exact hr
    · rw [eI a j (Or.inr hjk)]; exact h.2.2.2.1 a j
  · intro hz
    omega
section J
variable {p : Program} {l : Launch} {e : Env} {R : Room} {s : State} {m : MethodId} {args : Array Value} {below : List Frame} {meth : Method} {c : Code}
variable {b : Nat} {D : va_G} {dA : Nat → ClassId} {S0 S S' : AS} {Q : State → Prop} {own : String} {cc : ByteArray} {nL pc fr lo : Nat} {ls : Array Slot} {st : List Value}
theorem hp_apart (C : hp_C p l e R s m args below meth c b D dA S0 own cc nL fr lo) {ci : Nat} (hci : ci < 7) : ∀ x y, x < NC ci → y < NC ci → x ≠ y → (D.2 ci) x ≠ (D.2 ci) y :=
  va_apart (own := own) C.2.2.2.2.1 (inW hci) (tyC ci) (tyC_ok hci) (nmC hci) C.2.2.2.2.2.1.1 (vwC hci)
theorem j_get (C : hp_C p l e R s m args below meth c b D dA S0 own cc nL fr lo) {idx ci k9 a : Nat} (d : decode cc pc = .ok (.getfield idx, 3)) (hf : fl_ok own idx ci k9) (ha : hk S a = ci + 1) (k : hp_J p l e R s m args below meth c b D dA S0 Q S (pc + 3) ls (fv b (tyC ci k9) (hI S a k9) (hR S a k9) :: st)) : hp_J p l e R s m args below meth c b D dA S0 Q S pc ls (rf b (some a) :: st) := by
  intro H locs h1 h2 h3 h4
  obtain ⟨hci, hk9, hw⟩ := hf
  obtain ⟨cell, q1, q2, q3, q4⟩ := h1.obj hci ha
  obtain ⟨hS, hfc, kC, hkC, hkind⟩ := C.2.2.2.2.2.1.1.1 ci _ (vwC hci)
  obtain ⟨cf, kf, fi, f, hi, hsl⟩ := hS k9 hk9
  refine W.getf C.1 C.2.1 C.2.2.2.1 (C.2.2.2.2.1 _ hw) hi (u_facts hfc hkC (u_lays C.2.2.2.2.1 (inW hci) hk9) hi).1 q1 (by rw [q3]; exact fun h => by cases h) (v := fv b (tyC ci k9) (hI S a k9) (hR S a k9)) ?_ rfl rfl d (k H locs h1 h2 h3 h4)
  rw [hsl, q4 k9 hk9, fls_at hk9]
theorem j_gI (C : hp_C p l e R s m args below meth c b D dA S0 own cc nL fr lo) {idx ci k9 : Nat} {r : Option Nat} {v : Int} (d : decode cc pc = .ok (.getfield idx, 3)) (hf : fl_ok own idx ci k9) (hty : tyC ci k9 = .int ∨ tyC ci k9 = .boolean) (hg : gI S r (ci + 1) k9 = some v) (k : inR v → hp_J p l e R s m args below meth c b D dA S0 Q S (pc + 3) ls (iv v :: st)) : hp_J p l e R s m args below meth c b D dA S0 Q S pc ls (rf b r :: st) := by
  obtain ⟨a, rfl, ha, rfl⟩ := gI_some hg
  refine j_get C d hf ha ?_
  rw [fv_int hty]
  exact fun H locs h1 h2 h3 h4 => k (h1.2.2.2.1 a k9) H locs h1 h2 h3 h4
theorem j_gR (C : hp_C p l e R s m args below meth c b D dA S0 own cc nL fr lo) {idx ci k9 : Nat} {r v : Option Nat} (d : decode cc pc = .ok (.getfield idx, 3)) (hf : fl_ok own idx ci k9) (hty : isRt (tyC ci k9) = true) (hg : gR S r (ci + 1) k9 = some v) (k : hp_J p l e R s m args below meth c b D dA S0 Q S (pc + 3) ls (rf b v :: st)) : hp_J p l e R s m args below meth c b D dA S0 Q S pc ls (rf b r :: st) := by
  obtain ⟨a, rfl, ha, rfl⟩ := gR_some hg
  refine j_get C d hf ha ?_
  rw [fv_ref hty]
  exact k
theorem j_put (C : hp_C p l e R s m args below meth c b D dA S0 own cc nL fr lo) {idx ci k9 a : Nat} {v : Value} (d : decode cc pc = .ok (.putfield idx, 3)) (hf : fl_ok own idx ci k9) (hfin : (TC ci k9).2.2.2 = false ∨ ((TC ci k9).2.2.2 = true ∧ meth.name = "<init>" ∧ (TC ci k9).1 = own)) (ha : hk S a = ci + 1) (hfit : narrow (tyC ci k9) v = v ∧ fits (tyC ci k9) v = true)
    (en : hn S' = hn S) (eu : hu S' = hu S) (ek : hk S' = hk S) (el : hl S' = hl S) (eI : ∀ x j, (x ≠ a ∨ j ≠ k9) → hI S' x j = hI S x j) (eR : ∀ x j, (x ≠ a ∨ j ≠ k9) → hR S' x j = hR S x j) (hv : v = fv b (tyC ci k9) (hI S' a k9) (hR S' a k9)) (hr : inR (hI S a k9) → inR (hI S' a k9))
    (k : hp_J p l e R s m args below meth c b D dA S0 Q S' (pc + 3) ls st) : hp_J p l e R s m args below meth c b D dA S0 Q S pc ls (v :: rf b (some a) :: st) := by
  intro H locs h1 h2 h3 h4
  obtain ⟨hci, hk9, hw⟩ := hf
  obtain ⟨cell, q1, q2, q3, q4⟩ := h1.obj hci ha
  obtain ⟨hS, hfc, kC, hkC, hkind⟩ := C.2.2.2.2.2.1.1.1 ci _ (vwC hci)
  obtain ⟨cf, kf, fi, f, hi, hsl⟩ := hS k9 hk9
  have hlay := C.2.2.2.2.1 _ (inW hci _ (u_in_lay hk9))
  have hst := (u_facts hfc hkC (u_lays C.2.2.2.2.1 (inW hci) hk9) hi).1
  have hd := tyC_ok hci k9 hk9
  have go : ∀ H' : Heap, H'[b + a]? = some (cell.setSlot f.slot v) → H'.size = H.size → (∀ q, q ≠ b + a → H'[q]? = H[q]?) → W p l e R s m args below meth c H' (locs ++ [⟨b + a, f.slot⟩]) (hn S - hn S0) (hu S - hu S0) Q (F0 m (pc + 3) ls st) := by
    intro H' e1 e2 e3
    rw [hsl] at e1
    have hR := h1.putO hci ha hk9 (hp_apart C hci) q1 q2 q3 q4 en eu ek el eI eR hv (hr (h1.2.2.2.1 a k9)) e1 e2 e3
    have hlt : b + a < H.size := (Array.getElem?_eq_some_iff.mp q1).1
    have hB : hp_B S0 S' := by unfold hp_B at h3 ⊢; rw [en, eu]; exact h3
    have w := k H' (locs ++ [⟨b + a, f.slot⟩]) hR (fun z hz => by
      rcases List.mem_append.mp hz with h | h
      · exact h2 z h
      · rw [List.mem_singleton.mp h]; exact Nat.le_add_right _ _) hB (fun x hx => (e3 x (by omega)).trans (h4 x hx))
    rw [en, eu] at w
    exact w
  unfold u_lay at hlay
  rcases hfin with hfin | ⟨hfin, hin, hdecl⟩
  · rw [if_neg (by rw [hfin]; decide)] at hlay
    have h6 := u_store hfc hkC hkind hlay hi hd hfit.1 hfit.2
    exact W.putK C.1 C.2.1 (f := f) ⟨C.2.2.2.1, C.2.2.2.2.1 _ hw, ⟨_, _, _, hi⟩, hst⟩ (by rw [q2]; exact h6) q1 q3 (by rw [hsl]; exact k2_hasslot (q4 k9 hk9)) rfl rfl d go
  · rw [if_pos hfin] at hlay
    have hcf : m.cls = cf := by
      obtain ⟨_, _, c', _, _, _, -, -, hf', -, -, -, hown2, -⟩ := Cond.laysFinal_spec hlay
      have e1 : c' = cf := by have := hi.symm.trans hf'; simp at this; exact this.1.symm
      rw [hdecl] at hown2
      rw [← e1]; exact Option.some.inj (C.2.2.2.1.symm.trans hown2)
    have h6 := u_fits hfc hkC hkind (Or.inr hlay) hi hd hfit.1 hfit.2
    exact W.putFinK C.1 C.2.1 C.2.2.2.1 (C.2.2.2.2.1 _ hw) hi hst hcf hin (by rw [q2]; exact h6) q1 q3 (by rw [hsl]; exact k2_hasslot (q4 k9 hk9)) rfl rfl d go
theorem j_pI (C : hp_C p l e R s m args below meth c b D dA S0 own cc nL fr lo) {idx ci k9 : Nat} {r : Option Nat} {v : Int} (d : decode cc pc = .ok (.putfield idx, 3)) (hf : fl_ok own idx ci k9) (hfin : (TC ci k9).2.2.2 = false ∨ ((TC ci k9).2.2.2 = true ∧ meth.name = "<init>" ∧ (TC ci k9).1 = own)) (hty : tyC ci k9 = .int) (hv : inR v) (hg : pI S r (ci + 1) k9 v = some S') (k : hp_J p l e R s m args below meth c b D dA S0 Q S' (pc + 3) ls st) : hp_J p l e R s m args below meth c b D dA S0 Q S pc ls (iv v :: rf b r :: st) := by
  obtain ⟨a, rfl, ha, rfl⟩ := pI_some hg
  refine j_put (S' := wI S a k9 v) C d hf hfin ha (by rw [hty]; exact ⟨rfl, rfl⟩) rfl rfl rfl rfl (fun x j h => by rw [hI_wI, if_neg (by omega)]) (fun _ _ _ => rfl) (by rw [fv_int (Or.inl hty), hI_wI, if_pos ⟨rfl, rfl⟩]) (fun _ => by rw [hI_wI, if_pos ⟨rfl, rfl⟩]; exact hv) k
theorem j_pZ (C : hp_C p l e R s m args below meth c b D dA S0 own cc nL fr lo) {idx ci k9 : Nat} {r : Option Nat} {v : Int} (d : decode cc pc = .ok (.putfield idx, 3)) (hf : fl_ok own idx ci k9) (hfin : (TC ci k9).2.2.2 = false ∨ ((TC ci k9).2.2.2 = true ∧ meth.name = "<init>" ∧ (TC ci k9).1 = own)) (hty : tyC ci k9 = .boolean) (hg : pZ S r (ci + 1) k9 v = some S') (k : hp_J p l e R s m args below meth c b D dA S0 Q S' (pc + 3) ls st) : hp_J p l e R s m args below meth c b D dA S0 Q S pc ls (iv v :: rf b r :: st) := by
  obtain ⟨a, rfl, ha, hz, rfl⟩ := pZ_some hg
  refine j_put (S' := wI S a k9 v) C d hf hfin ha (by rw [hty]; rcases hz with rfl | rfl <;> exact ⟨by decide, by decide⟩) rfl rfl rfl rfl (fun x j h => by rw [hI_wI, if_neg (by omega)]) (fun _ _ _ => rfl) (by rw [fv_int (Or.inr hty), hI_wI, if_pos ⟨rfl, rfl⟩]) (fun _ => by rw [hI_wI, if_pos ⟨rfl, rfl⟩]; rcases hz with rfl | rfl <;> decide) k
theorem j_pR (C : hp_C p l e R s m args below meth c b D dA S0 own cc nL fr lo) {idx ci k9 : Nat} {r v : Option Nat} (d : decode cc pc = .ok (.putfield idx, 3)) (hf : fl_ok own idx ci k9) (hfin : (TC ci k9).2.2.2 = false ∨ ((TC ci k9).2.2.2 = true ∧ meth.name = "<init>" ∧ (TC ci k9).1 = own)) (hty : isRt (tyC ci k9) = true) (hg : pR S r (ci + 1) k9 v = some S') (k : hp_J p l e R s m args below meth c b D dA S0 Q S' (pc + 3) ls st) : hp_J p l e R s m args below meth c b D dA S0 Q S pc ls (rf b v :: rf b r :: st) := by
  obtain ⟨a, rfl, ha, rfl⟩ := pR_some hg
  refine j_put (S' := wR S a k9 v) C d hf hfin ha (fits_rf hty) rfl rfl rfl rfl (fun _ _ _ => rfl) (fun x j h => by rw [hR_wR, if_neg (by omega)]) (by rw [fv_ref hty, hR_wR, if_pos ⟨rfl, rfl⟩]) id k
end J
end
section
def av (b kd : Nat) (i : Int) (r : Option Nat) : Value := if kd ≤ 9 then iv i else if kd ≤ 12 then rf b r else lvv i
theorem hp_e_arr {D : va_G} {b : Nat} {dA : Nat → ClassId} {kd len x : Nat} {I : Nat → Int} {Rf : Nat → Option Nat} {H : Heap} (h : 8 ≤ kd) : va_at D vwCl (x, hp_e b dA kd len I Rf) H ↔ H[x]? = some (arrV (dA kd) len (fun j => av b kd (I j) (Rf j))) := by
  unfold va_at hp_e av
  by_cases h2 : kd ≤ 9
  · simp only [if_neg (show ¬ kd ≤ 7 by omega), if_pos h2]
    exact Iff.rfl
  · by_cases h3 : kd ≤ 12
    · simp only [if_neg (show ¬ kd ≤ 7 by omega), if_neg h2, if_pos h3]
      exact Iff.rfl
    · simp only [if_neg (show ¬ kd ≤ 7 by omega), if_neg h2, if_neg h3]
      exact Iff.rfl
theorem hp_R.arr {b : Nat} {D : va_G} {dA : Nat → ClassId} {S : AS} {H : Heap} (h : hp_R b D dA S H) {a kd : Nat} (hk8 : 8 ≤ kd) (ha : hk S a = kd) : H[b + a]? = some (arrV (dA kd) (hl S a) (fun j => av b kd (hI S a j) (hR S a j))) := by
  obtain ⟨-, -, h3, -, -⟩ := h
  obtain ⟨-, -, q⟩ := h3 a (by omega)
  rw [ha] at q
  exact (hp_e_arr hk8).mp q
theorem mem_le_sum {x : Nat} {l : List Nat} (h : x ∈ l) : x ≤ l.sum := by
  induction l with
  | nil => cases h
  | cons y t ih =>
    rw [List.sum_cons]
    rcases List.mem_cons.mp h with rfl | h
    · omega
    · have := ih h
      omega
theorem hp_R.len {b : Nat} {D : va_G} {dA : Nat → ClassId} {S : AS} {H : Heap} (h : hp_R b D dA S H) {a kd : Nat} (hk8 : 8 ≤ kd) (ha : hk S a = kd) : hl S a ≤ hu S := by
  have h1 := h.arr hk8 ha
  have h2 : (H.toList.drop b)[a]? = some (arrV (dA kd) (hl S a) (fun j => av b kd (hI S a j) (hR S a j))) := by
    rw [List.getElem?_drop, Array.getElem?_toList]; exact h1
  have h3 : hl S a ∈ (H.toList.drop b).map (·.slots.size) := List.mem_map.mpr ⟨_, List.mem_of_getElem? h2, arrV_size _ _ _⟩
  have h4 := mem_le_sum h3
  have h5 := h.2.1
  unfold hp_sum at h5
  omega
theorem hp_R.putA {b : Nat} {D : va_G} {dA : Nat → ClassId} {S S' : AS} {H H' : Heap} (h : hp_R b D dA S H) {a kd k : Nat} (hk8 : 8 ≤ kd) (ha : hk S a = kd) {v : Value}
    (en : hn S' = hn S) (eu : hu S' = hu S) (ek : hk S' = hk S) (el : hl S' = hl S) (eI : ∀ x j, (x ≠ a ∨ j ≠ k) → hI S' x j = hI S x j) (eR : ∀ x j, (x ≠ a ∨ j ≠ k) → hR S' x j = hR S x j) (hv : v = av b kd (hI S' a k) (hR S' a k)) (hr : inR (hI S' a k)) (hz9 : kd = 9 → hI S' a k = 0 ∨ hI S' a k = 1)
    (e1 : H'[b + a]? = some ((arrV (dA kd) (hl S a) (fun j => av b kd (hI S a j) (hR S a j))).setSlot k v)) (z : H'.size = H.size) (o : ∀ q, q ≠ b + a → H'[q]? = H[q]?) : hp_R b D dA S' H' := by
  refine h.upd a en eu ek el (fun x hx => funext fun j => eI x j (Or.inl hx)) (fun x hx => funext fun j => eR x j (Or.inl hx)) ?_ z o ?_ ?_ ?_
  · rw [ha]
    refine (hp_e_arr hk8).mpr ?_
    rw [e1, arrV_store]
    congr 2
    funext j
    unfold updV
    by_cases hjk : j = k
    · subst hjk
      rw [if_pos rfl, hv]
    · rw [if_neg hjk, eI a j (Or.inr hjk), eR a j (Or.inr hjk)]
  · rw [e1, h.arr hk8 ha]
    simp [k2_slotsz]
  · intro j
    by_cases hjk : j = k
    · subst hjk; exact hr
    · rw [eI a j (Or.inr hjk)]; exact h.2.2.2.1 a j
  · intro hz j
    by_cases hjk : j = k
    · subst hjk; exact hz9 (by omega)
    · rw [eI a j (Or.inr hjk)]; exact h.2.2.2.2 a j hz
theorem hp_aro {D : va_G} {dA : Nat → ClassId} {U : State} (h : va_K D vwCl (hp_ty dA) U) : ArrOfT U (dA 8) .int ∧ ArrOfT U (dA 9) .boolean ∧ ArrOfT U (dA 10) (.object RX3) ∧ ArrOfT U (dA 11) (.object RX4) ∧ ArrOfT U (dA 12) (.array .int) ∧ ArrOfT U (dA 13) .long :=
  ⟨(h.2 0 _ rfl).1, (h.2 1 _ rfl).1, (h.2 2 _ rfl).1, (h.2 3 _ rfl).1, (h.2 4 _ rfl).1, (h.2 5 _ rfl).1⟩
def kdT (ty : FieldType) : Bool := match ty with
  | .int => true
  | .boolean => true
  | ty => isRt ty
theorem kdC {ci : Nat} (h : ci < 7) : ∀ k, k < NC ci → kdT (tyC ci k) = true := by
  match ci, h with
  | 0, _ => exact (by decide +kernel : ∀ k, k < 5 → kdT (tyX0 k) = true)
  | 1, _ => exact (by decide +kernel : ∀ k, k < 7 → kdT (tyX1 k) = true)
  | 2, _ => exact (by decide +kernel : ∀ k, k < 3 → kdT (tyX2 k) = true)
  | 3, _ => exact (by decide +kernel : ∀ k, k < 3 → kdT (tyX3 k) = true)
  | 4, _ => exact (by decide +kernel : ∀ k, k < 7 → kdT (tyX4 k) = true)
  | 5, _ => exact (by decide +kernel : ∀ k, k < 7 → kdT (tyX5 k) = true)
  | 6, _ => exact (by decide +kernel : ∀ k, k < 28 → kdT (tyX6 k) = true)
theorem fv_def {b : Nat} {ty : FieldType} (h : kdT ty = true) : defaultValue ty = fv b ty 0 none := by
  cases ty <;> first | rfl | cases h
section J
variable {p : Program} {l : Launch} {e : Env} {R : Room} {s : State} {m : MethodId} {args : Array Value} {below : List Frame} {meth : Method} {c : Code}
variable {b : Nat} {D : va_G} {dA : Nat → ClassId} {S0 S S' : AS} {Q : State → Prop} {own : String} {cc : ByteArray} {nL pc fr lo : Nat} {ls : Array Slot} {st : List Value}
theorem j_iald (C : hp_C p l e R s m args below meth c b D dA S0 own cc nL fr lo) {r : Option Nat} {i v : Int} (d : decode cc pc = .ok (.iaload, 1)) (hi : inR i) (hg : aI S r 8 i = some v) (k : inR v → hp_J p l e R s m args below meth c b D dA S0 Q S (pc + 1) ls (iv v :: st)) : hp_J p l e R s m args below meth c b D dA S0 Q S pc ls (iv i :: rf b r :: st) := by
  obtain ⟨a, rfl, ha, h0, h1, rfl⟩ := aI_some hg
  intro H locs q1 q2 q3 q4
  have hin := iv_in hi h0 h1
  exact W.iald C.1 C.2.1 (q1.arr (by decide) ha) ((hp_aro C.2.2.2.2.2.1.1).1 _ _) (fun q => by cases q) (by rw [arrV_size]; exact hin) (by rw [iv_clamp hi, arrV_read _ _ (by omega)]; rfl) rfl rfl d (k (q1.2.2.2.1 _ _) H locs q1 q2 q3 q4)
theorem j_zald (C : hp_C p l e R s m args below meth c b D dA S0 own cc nL fr lo) {r : Option Nat} {i v : Int} (d : decode cc pc = .ok (.baload, 1)) (hi : inR i) (hg : aI S r 9 i = some v) (k : inR v → hp_J p l e R s m args below meth c b D dA S0 Q S (pc + 1) ls (iv v :: st)) : hp_J p l e R s m args below meth c b D dA S0 Q S pc ls (iv i :: rf b r :: st) := by
  obtain ⟨a, rfl, ha, h0, h1, rfl⟩ := aI_some hg
  intro H locs q1 q2 q3 q4
  have hin := iv_in hi h0 h1
  exact W.zald C.1 C.2.1 (q1.arr (by decide) ha) ((hp_aro C.2.2.2.2.2.1.1).2.1 _ _) (fun q => by cases q) (by rw [arrV_size]; exact hin) (by rw [iv_clamp hi, arrV_read _ _ (by omega)]; rfl) rfl rfl d (k (q1.2.2.2.1 _ _) H locs q1 q2 q3 q4)
theorem j_aald (C : hp_C p l e R s m args below meth c b D dA S0 own cc nL fr lo) {kd : Nat} {r v : Option Nat} {i : Int} (d : decode cc pc = .ok (.aaload, 1)) (hkd : kd = 10 ∨ kd = 11 ∨ kd = 12) (hi : inR i) (hg : aR S r kd i = some v) (k : hp_J p l e R s m args below meth c b D dA S0 Q S (pc + 1) ls (rf b v :: st)) : hp_J p l e R s m args below meth c b D dA S0 Q S pc ls (iv i :: rf b r :: st) := by
  obtain ⟨a, rfl, ha, h0, h1, rfl⟩ := aR_some hg
  intro H locs q1 q2 q3 q4
  have hin := iv_in hi h0 h1
  have hA := hp_aro C.2.2.2.2.2.1.1
  rcases hkd with rfl | rfl | rfl
  · exact W.aald (ty := .object RX3) C.1 C.2.1 (q1.arr (by decide) ha) (hA.2.2.1 _ _) rfl (fun q => by cases q) (by rw [arrV_size]; exact hin) (by rw [iv_clamp hi, arrV_read _ _ (by omega)]; rfl) rfl rfl d (k H locs q1 q2 q3 q4)
  · exact W.aald (ty := .object RX4) C.1 C.2.1 (q1.arr (by decide) ha) (hA.2.2.2.1 _ _) rfl (fun q => by cases q) (by rw [arrV_size]; exact hin) (by rw [iv_clamp hi, arrV_read _ _ (by omega)]; rfl) rfl rfl d (k H locs q1 q2 q3 q4)
  · exact W.aald (ty := .array .int) C.1 C.2.1 (q1.arr (by decide) ha) (hA.2.2.2.2.1 _ _) rfl (fun q => by cases q) (by rw [arrV_size]; exact hin) (by rw [iv_clamp hi, arrV_read _ _ (by omega)]; rfl) rfl rfl d (k H locs q1 q2 q3 q4)
theorem j_alen (C : hp_C p l e R s m args below meth c b D dA S0 own cc nL fr lo) {kd : Nat} {r : Option Nat} {v : Int} (d : decode cc pc = .ok (.arraylength, 1)) (hkd : kd = 8 ∨ kd = 9) (hg : ln S r kd = some v) (k : inR v → hp_J p l e R s m args below meth c b D dA S0 Q S (pc + 1) ls (iv v :: st)) : hp_J p l e R s m args below meth c b D dA S0 Q S pc ls (rf b r :: st) := by
  obtain ⟨a, rfl, ha, rfl⟩ := ln_some hg
  intro H locs q1 q2 q3 q4
  have hlen := q1.len (by omega) ha
  have hu9 := q3.2.2.2
  have hr : inR (hl S a : Int) := by unfold UM at hu9; omega
  have hA := hp_aro C.2.2.2.2.2.1.1
  rcases hkd with rfl | rfl
  · exact W.alen (ty := .int) C.1 C.2.1 (q1.arr (by decide) ha) (hA.1 _ _) (by rw [arrV_size]; rfl) rfl rfl d (k hr H locs q1 q2 q3 q4)
  · exact W.alen (ty := .boolean) C.1 C.2.1 (q1.arr (by decide) ha) (hA.2.1 _ _) (by rw [arrV_size]; rfl) rfl rfl d (k hr H locs q1 q2 q3 q4)
/-- the walk behind a store into an array -/
theorem j_put2 {kd a k9 : Nat} {v : Value} (hk8 : 8 ≤ kd) (ha : hk S a = kd) (en : hn S' = hn S) (eu : hu S' = hu S) (ek : hk S' = hk S) (el : hl S' = hl S) (eI : ∀ x j, (x ≠ a ∨ j ≠ k9) → hI S' x j = hI S x j) (eR : ∀ x j, (x ≠ a ∨ j ≠ k9) → hR S' x j = hR S x j) (hv : v = av b kd (hI S' a k9) (hR S' a k9)) (hr : inR (hI S a k9) → inR (hI S' a k9)) (hz9 : kd = 9 → hI S' a k9 = 0 ∨ hI S' a k9 = 1)
    (k : hp_J p l e R s m args below meth c b D dA S0 Q S' pc ls st) {H : Heap} {locs : List Loc} (h1 : hp_R b D dA S H) (h2 : ∀ z ∈ locs, b ≤ z.base) (h3 : hp_B S0 S) (h4 : ∀ x, x < b → H[x]? = s.heap[x]?) (H' : Heap) (i9 : Nat)
    (e1 : H'[b + a]? = some ((arrV (dA kd) (hl S a) (fun j => av b kd (hI S a j) (hR S a j))).setSlot k9 v)) (e2 : H'.size = H.size) (e3 : ∀ q, q ≠ b + a → H'[q]? = H[q]?) : W p l e R s m args below meth c H' (locs ++ [⟨b + a, i9⟩]) (hn S - hn S0) (hu S - hu S0) Q (F0 m pc ls st) := by
  have hR := h1.putA hk8 ha en eu ek el eI eR hv (hr (h1.2.2.2.1 a k9)) hz9 e1 e2 e3
  have hB : hp_B S0 S' := by unfold hp_B at h3 ⊢; rw [en, eu]; exact h3
  have w := k H' (locs ++ [⟨b + a, i9⟩]) hR (fun z hz => by
    rcases List.mem_append.mp hz with h | h
    · exact h2 z h
    · rw [List.mem_singleton.mp h]; exact Nat.le_add_right _ _) hB (fun x hx => (e3 x (by omega)).trans (h4 x hx))
  rw [en, eu] at w
  exact w
theorem j_iast (C : hp_C p l e R s m args below meth c b D dA S0 own cc nL fr lo) {r : Option Nat} {i v : Int} (d : decode cc pc = .ok (.iastore, 1)) (hi : inR i) (hv : inR v) (hg : sI S r 8 i v = some S') (k : hp_J p l e R s m args below meth c b D dA S0 Q S' (pc + 1) ls st) : hp_J p l e R s m args below meth c b D dA S0 Q S pc ls (iv v :: iv i :: rf b r :: st) := by
  obtain ⟨a, rfl, ha, h0, h1, rfl⟩ := sI_some hg
  intro H locs q1 q2 q3 q4
  have hin := iv_in hi h0 h1
  refine W.iast C.1 C.2.1 (q1.arr (by decide) ha) ((hp_aro C.2.2.2.2.2.1.1).1 _ _) (fun q => by cases q) (by rw [arrV_size]; exact hin) rfl rfl d fun H' e1 e2 e3 => ?_
  rw [iv_clamp hi] at e1
  exact j_put2 (S' := wI S a i.toNat v) (by decide) ha rfl rfl rfl rfl (fun x j h => by rw [hI_wI, if_neg (by omega)]) (fun _ _ _ => rfl) (by rw [hI_wI, if_pos ⟨rfl, rfl⟩]; rfl) (fun _ => by rw [hI_wI, if_pos ⟨rfl, rfl⟩]; exact hv) (fun h => by cases h) k q1 q2 q3 q4 H' _ e1 e2 e3
theorem j_zast (C : hp_C p l e R s m args below meth c b D dA S0 own cc nL fr lo) {r : Option Nat} {i v : Int} (d : decode cc pc = .ok (.bastore, 1)) (hi : inR i) (hg : sZ S r i v = some S') (k : hp_J p l e R s m args below meth c b D dA S0 Q S' (pc + 1) ls st) : hp_J p l e R s m args below meth c b D dA S0 Q S pc ls (iv v :: iv i :: rf b r :: st) := by
  obtain ⟨a, rfl, ha, h0, h1, hz, rfl⟩ := sZ_some hg
  intro H locs q1 q2 q3 q4
  have hin := iv_in hi h0 h1
  refine W.zast C.1 C.2.1 (q1.arr (by decide) ha) ((hp_aro C.2.2.2.2.2.1.1).2.1 _ _) (fun q => by cases q) (by rw [arrV_size]; exact hin) rfl rfl d fun H' e1 e2 e3 => ?_
  rw [iv_clamp hi, show narrow .boolean (.int (Int32.ofInt v)) = iv v by rcases hz with rfl | rfl <;> decide] at e1
  exact j_put2 (S' := wI S a i.toNat v) (by decide) ha rfl rfl rfl rfl (fun x j h => by rw [hI_wI, if_neg (by omega)]) (fun _ _ _ => rfl) (by rw [hI_wI, if_pos ⟨rfl, rfl⟩]; rfl) (fun _ => by rw [hI_wI, if_pos ⟨rfl, rfl⟩]; rcases hz with rfl | rfl <;> decide) (fun _ => by rw [hI_wI, if_pos ⟨rfl, rfl⟩]; exact hz) k q1 q2 q3 q4 H' _ e1 e2 e3
/-- a new object -/
def nw_ok (own : String) (idx ci : Nat) : Prop := ci < 7 ∧ Cond.classLink own idx (RC ci) ∈ hp_ws ∧ Cond.instantiable (RC ci) (NC ci) ∈ hp_ws ∧ Cond.initialized (RC ci) ∈ hp_ws
theorem hp_B.grow {n u : Nat} {S0 S S' : AS} (h : hp_B S0 S) (e1 : hn S' = hn S + n) (e2 : hu S' = hu S + u) (h1 : hn S + n ≤ CM) (h2 : hu S + u ≤ UM) : hp_B S0 S' := by
  unfold hp_B at h ⊢
  rw [e1, e2]
  omega
theorem u_born_size {cC : ClassId} {kC : Class} {args : Array Value} {C0 : String} {n : Nat} (h : (Cond.instantiable C0 n).before args s = true) (hf : s.vm.findClass C0 = some cC) (hk9 : s.vm.classes[cC]? = some kC) : (blank cC kC).slots.size = n := by
  obtain ⟨c1, kX', hc1, hk, -, -, -, hn6⟩ := Cond.instantiable_spec h
  cases Option.some.inj (hc1.symm.trans hf)
  cases Option.some.inj (hk9.symm.trans hk)
  simp [blank, hn6]
theorem j_new (C : hp_C p l e R s m args below meth c b D dA S0 own cc nL fr lo) {idx ci : Nat} (d : decode cc pc = .ok (.new idx, 3)) (hf : nw_ok own idx ci) (hg : nO S (ci + 1) = some S') (k : hp_J p l e R s m args below meth c b D dA S0 Q S' (pc + 3) ls (rf b (some (hn S)) :: st)) : hp_J p l e R s m args below meth c b D dA S0 Q S pc ls st := by
  obtain ⟨g1, g2, rfl⟩ := nO_some hg
  obtain ⟨hci, w1, w2, w3⟩ := hf
  rw [Nat.add_sub_cancel] at g2 k
  intro H locs q1 q2 q3 q4
  have hKn := C.2.2.2.2.2.1.1.1 ci _ (vwC hci)
  have hts := C.2.2.2.2.1
  have hsz : H.size = b + hn S := q1.1
  have hRc := C.2.2.2.2.2.2.2.1
  have hRs := C.2.2.2.2.2.2.2.2.1
  have q3' : hn S0 ≤ hn S ∧ hn S ≤ CM ∧ hu S0 ≤ hu S ∧ hu S ≤ UM := q3
  refine W.newcK C.1 C.2.1 C.2.2.2.1 (hts _ w1) (hts _ w2) (hts _ w3) rfl d (by rw [hRc]; omega) (by rw [hRs]; omega) hKn.2.1 hsz fun H' kC hkC e1 z1 o1 => ?_
  have hR := q1.new (kd := ci + 1) (len := 0) (sl := NC ci) (by omega) (by
    unfold va_at hp_e
    simp only [if_pos (show ci + 1 ≤ 7 by omega), Nat.add_sub_cancel]
    rw [hsz]
    refine ⟨_, vwC hci, (u_born (tyC ci) hts (inW hci) hKn hkC e1 (tyC_ok hci)).to (fun j hj => ?_)⟩
    rw [fls_at hj]
    exact fv_def (kdC hci j hj)) (by rw [z1, hsz]) (fun q hq => o1 q (by omega)) (by rw [hsz]; exact e1) (u_born_size (hts _ w2) hKn.2.1 hkC)
  have w := k H' locs hR q2 (hp_B.grow (n := 1) (u := NC ci) q3 rfl rfl (by omega) g2) (fun x hx => (o1 x (by omega)).trans (q4 x hx))
  rw [hn_wN, hu_wN] at w
  rw [show hn S - hn S0 + 1 = hn S + 1 - hn S0 by omega, show hu S - hu S0 + NC ci = hu S + NC ci - hu S0 by omega]
  exact w
end J
end
section
theorem av_def {b kd : Nat} {ty : FieldType} (h : (kd = 8 ∧ ty = .int) ∨ (kd = 9 ∧ ty = .boolean) ∨ (kd = 13 ∧ ty = .long) ∨ (10 ≤ kd ∧ kd ≤ 12 ∧ isRt ty = true)) : defaultValue ty = av b kd 0 none := by
  rcases h with ⟨rfl, rfl⟩ | ⟨rfl, rfl⟩ | ⟨rfl, rfl⟩ | ⟨h1, h2, h3⟩
  · rfl
  · rfl
  · rfl
  · unfold av
    rw [if_neg (by omega), if_pos h2]
    cases ty <;> first | rfl | cases h3
section J
variable {p : Program} {l : Launch} {e : Env} {R : Room} {s : State} {m : MethodId} {args : Array Value} {below : List Frame} {meth : Method} {c : Code}
variable {b : Nat} {D : va_G} {dA : Nat → ClassId} {S0 S S' : AS} {Q : State → Prop} {own : String} {cc : ByteArray} {nL pc fr lo : Nat} {ls : Array Slot} {st : List Value}
/-- the walk behind a new array -/
theorem j_grown {kd len : Nat} (hkd : 8 ≤ kd) (hk13 : kd ≤ 13) {ty : FieldType} (hd : defaultValue ty = av b kd 0 none) (g1 : hn S < CM) (g2 : hu S + len ≤ UM) {pc' : Nat} {st' : List Value} (k : hp_J p l e R s m args below meth c b D dA S0 Q (wN S kd len len) pc' ls st') {H : Heap} {locs : List Loc} (q1 : hp_R b D dA S H) (q2 : ∀ z ∈ locs, b ≤ z.base) (q3 : hp_B S0 S) (q4 : ∀ x, x < b → H[x]? = s.heap[x]?) (H' : Heap)
    (e1 : H'[H.size]? = some (arrV (dA kd) len (fun _ => defaultValue ty))) (z1 : H'.size = H.size + 1) (o1 : ∀ q, q < H.size → H'[q]? = H[q]?) : W p l e R s m args below meth c H' locs (hn S - hn S0 + 1) (hu S - hu S0 + len) Q (F0 m pc' ls st') := by
  have hsz : H.size = b + hn S := q1.1
  have q3' : hn S0 ≤ hn S ∧ hn S ≤ CM ∧ hu S0 ≤ hu S ∧ hu S ≤ UM := q3
  have hR := q1.new (kd := kd) (len := len) (sl := len) hk13 ((hp_e_arr hkd).mpr (by rw [e1, hd])) z1 o1 e1 (arrV_size _ _ _)
  have w := k H' locs hR q2 (hp_B.grow (n := 1) (u := len) q3 rfl rfl (by omega) g2) (fun x hx => (o1 x (by omega)).trans (q4 x hx))
  rw [hn_wN, hu_wN] at w
  rw [show hn S - hn S0 + 1 = hn S + 1 - hn S0 by omega, show hu S - hu S0 + len = hu S + len - hu S0 by omega]
  exact w
theorem hp_nmA (C : hp_C p l e R s m args below meth c b D dA S0 own cc nL fr lo) {kd : Nat} {ty : FieldType} (h : (kd = 8 ∧ ty = .int) ∨ (kd = 9 ∧ ty = .boolean) ∨ (kd = 13 ∧ ty = .long) ∨ (kd = 12 ∧ ty = .array .int)) : s.vm.findClass ("[" ++ ty.toString) = some (dA kd) := by
  have hK := C.2.2.2.2.2.1.1.2
  rcases h with ⟨rfl, rfl⟩ | ⟨rfl, rfl⟩ | ⟨rfl, rfl⟩ | ⟨rfl, rfl⟩
  · exact (hK 0 _ rfl).2
  · exact (hK 1 _ rfl).2
  · exact (hK 5 _ rfl).2
  · exact (hK 4 _ rfl).2
theorem j_newa (C : hp_C p l e R s m args below meth c b D dA S0 own cc nL fr lo) {at9 : ArrayType} {kd : Nat} {n : Int} (d : decode cc pc = .ok (.newarray at9, 2)) (hkd : (kd = 8 ∧ newarray.typeOf at9 = .int) ∨ (kd = 9 ∧ newarray.typeOf at9 = .boolean) ∨ (kd = 13 ∧ newarray.typeOf at9 = .long)) (hw : Cond.arrayClass (newarray.typeOf at9) ∈ hp_ws) (hn9 : inR n) (hg : nA S kd n = some S') (k : hp_J p l e R s m args below meth c b D dA S0 Q S' (pc + 2) ls (rf b (some (hn S)) :: st)) : hp_J p l e R s m args below meth c b D dA S0 Q S pc ls (iv n :: st) := by
  obtain ⟨g0, g1, g2, g3, rfl⟩ := nA_some hg
  intro H locs q1 q2 q3 q4
  have hsz : H.size = b + hn S := q1.1
  have hRc := C.2.2.2.2.2.2.2.1
  have hRs := C.2.2.2.2.2.2.2.2.1
  have q3' : hn S0 ≤ hn S ∧ hn S ≤ CM ∧ hu S0 ≤ hu S ∧ hu S ≤ UM := q3
  have hcb : componentBytes (newarray.typeOf at9) ≤ 8 := by cases at9 <;> decide
  have hcm : n.toNat * componentBytes (newarray.typeOf at9) ≤ n.toNat * 8 := Nat.mul_le_mul_left _ hcb
  refine va_newaK C.1 C.2.1 (C.2.2.2.2.1 _ hw) rfl d rfl (fun h => by
    rw [iv_z] at h
    have := (iv_lt hn9 (by decide)).mp h
    omega) (iv_clamp hn9) (by omega) (by rw [hRc]; omega) (by rw [hRs]; omega) hsz fun H' cA e1 z1 o1 hAr hNm => ?_
  have hcA : cA = dA kd := Option.some.inj (hNm.symm.trans (hp_nmA C (by
    rcases hkd with h | h | h
    · exact Or.inl h
    · exact Or.inr (Or.inl h)
    · exact Or.inr (Or.inr (Or.inl h)))))
  subst hcA
  rw [← hsz] at e1 z1 o1
  exact j_grown (by omega) (by omega) (av_def (by
    rcases hkd with h | h | h
    · exact Or.inl h
    · exact Or.inr (Or.inl h)
    · exact Or.inr (Or.inr (Or.inl h)))) g2 g3 k q1 q2 q3 q4 H' e1 z1 o1
theorem j_anew (C : hp_C p l e R s m args below meth c b D dA S0 own cc nL fr lo) {idx kd ci : Nat} {n : Int} (d : decode cc pc = .ok (.anewarray idx, 3)) (hkd : (kd = 10 ∧ ci = 3) ∨ (kd = 11 ∧ ci = 4)) (hw : Cond.classLink own idx (RC ci) ∈ hp_ws) (hn9 : inR n) (hg : nA S kd n = some S') (k : hp_J p l e R s m args below meth c b D dA S0 Q S' (pc + 3) ls (rf b (some (hn S)) :: st)) : hp_J p l e R s m args below meth c b D dA S0 Q S pc ls (iv n :: st) := by
  obtain ⟨g0, g1, g2, g3, rfl⟩ := nA_some hg
  intro H locs q1 q2 q3 q4
  have hsz : H.size = b + hn S := q1.1
  have hRc := C.2.2.2.2.2.2.2.1
  have hRs := C.2.2.2.2.2.2.2.2.1
  have q3' : hn S0 ≤ hn S ∧ hn S ≤ CM ∧ hu S0 ≤ hu S ∧ hu S ≤ UM := q3
  have hover : (Cond.arrayOver (.object (RC ci))).before args s = true := by
    rcases hkd with ⟨-, rfl⟩ | ⟨-, rfl⟩
    · exact va_AO.use C.2.2.2.2.2.1.2.2.1
    · exact va_AO.use C.2.2.2.2.2.1.2.2.2.1
  have hN : (Int32.ofInt n).toNatClampNeg = n.toNat := iv_clamp hn9
  refine W.anew C.1 C.2.1 C.2.2.2.1 (C.2.2.2.2.1 _ hw) hover rfl d rfl (fun h => by
    rw [iv_z] at h
    have := (iv_lt hn9 (by decide)).mp h
    omega) (by rw [hN]; omega) (by rw [hRc]; omega) (by rw [hRs, hN]; omega) fun cA kA comp f1 f2 f3 f4 => ?_
  rw [hN]
  have hcA : cA = dA kd := by
    have hK := C.2.2.2.2.2.1.1.2
    rcases hkd with ⟨rfl, rfl⟩ | ⟨rfl, rfl⟩
    · obtain ⟨_, _, -, -, -, h9⟩ := (hK 2 _ rfl).2
      exact Option.some.inj (f1.symm.trans h9)
    · obtain ⟨_, _, -, -, -, h9⟩ := (hK 3 _ rfl).2
      exact Option.some.inj (f1.symm.trans h9)
  subst hcA
  generalize hH1 : H.push ({ cls := dA kd, slots := Array.replicate n.toNat .null, vm := .none } : Cell) = H1
  have z1 : H1.size = H.size + 1 := by rw [← hH1, Array.size_push]
  have e1 : H1[H.size]? = some (arrV (dA kd) n.toNat (fun _ => .null)) := by rw [← hH1, Array.getElem?_push_size, ← arrV_new]
  have o1 : ∀ q : Nat, q < H.size → H1[q]? = H[q]? := fun q hq => by rw [← hH1, Array.getElem?_push, if_neg (Nat.ne_of_lt hq)]
  rw [hsz]
  exact j_grown (ty := .object "x") (by omega) (by omega) (av_def (Or.inr (Or.inr (Or.inr ⟨by omega, by omega, rfl⟩)))) g2 g3 k q1 q2 q3 q4 H1 e1 z1 o1
theorem j_anewA (C : hp_C p l e R s m args below meth c b D dA S0 own cc nL fr lo) {idx : Nat} {n : Int} (d : decode cc pc = .ok (.anewarray idx, 3)) (hw : Cond.classLink own idx "[I" ∈ hp_ws) (hn9 : inR n) (hg : nA S 12 n = some S') (k : hp_J p l e R s m args below meth c b D dA S0 Q S' (pc + 3) ls (rf b (some (hn S)) :: st)) : hp_J p l e R s m args below meth c b D dA S0 Q S pc ls (iv n :: st) := by
  obtain ⟨g0, g1, g2, g3, rfl⟩ := nA_some hg
  intro H locs q1 q2 q3 q4
  have hsz : H.size = b + hn S := q1.1
  have hRc := C.2.2.2.2.2.2.2.1
  have hRs := C.2.2.2.2.2.2.2.2.1
  have q3' : hn S0 ≤ hn S ∧ hn S ≤ CM ∧ hu S0 ≤ hu S ∧ hu S ≤ UM := q3
  have hN : (Int32.ofInt n).toNatClampNeg = n.toNat := iv_clamp hn9
  refine W.anewA (t := .int) C.1 C.2.1 C.2.2.2.1 (C.2.2.2.2.1 _ hw) (C.2.2.2.2.2.1.2.2.2.2.1 args) rfl d rfl (fun h => by
    rw [iv_z] at h
    have := (iv_lt hn9 (by decide)).mp h
    omega) (by rw [hN]; omega) (by rw [hRc]; omega) (by rw [hRs, hN]; omega) fun cA kA comp f1 f2 f3 f4 => ?_
  rw [hN]
  have hcA : cA = dA 12 := Option.some.inj (f1.symm.trans (hp_nmA C (Or.inr (Or.inr (Or.inr ⟨rfl, rfl⟩)))))
  subst hcA
  generalize hH1 : H.push ({ cls := dA 12, slots := Array.replicate n.toNat .null, vm := .none } : Cell) = H1
  have z1 : H1.size = H.size + 1 := by rw [← hH1, Array.size_push]
  have e1 : H1[H.size]? = some (arrV (dA 12) n.toNat (fun _ => .null)) := by rw [← hH1, Array.getElem?_push_size, ← arrV_new]
  have o1 : ∀ q : Nat, q < H.size → H1[q]? = H[q]? := fun q hq => by rw [← hH1, Array.getElem?_push, if_neg (Nat.ne_of_lt hq)]
  rw [hsz]
  exact j_grown (ty := .object "x") (by omega) (by omega) (av_def (Or.inr (Or.inr (Or.inr ⟨by omega, by omega, rfl⟩)))) g2 g3 k q1 q2 q3 q4 H1 e1 z1 o1
/-- a reference into an array of objects -/
theorem j_aast (C : hp_C p l e R s m args below meth c b D dA S0 own cc nL fr lo) {kd : Nat} {r v : Option Nat} {i : Int} (d : decode cc pc = .ok (.aastore, 1)) (hkd : kd = 10 ∨ kd = 11) (hi : inR i) (hg : sR S r kd i v = some S') (k : hp_J p l e R s m args below meth c b D dA S0 Q S' (pc + 1) ls st) : hp_J p l e R s m args below meth c b D dA S0 Q S pc ls (rf b v :: iv i :: rf b r :: st) := by
  obtain ⟨a, w, rfl, rfl, ha, h0, h1, hw, rfl⟩ := sR_some hg
  intro H locs q1 q2 q3 q4
  have hin := iv_in hi h0 h1
  have hK := C.2.2.2.2.2.1.1
  have go : ∀ ci t0 : Nat, ci < 7 → hk S w = ci + 1 → (hp_ty dA)[t0]? = some (dA kd, .object (RC ci)) → W p l e R s m args below meth c H locs (hn S - hn S0) (hu S - hu S0) Q (F0 m pc ls (rf b (some w) :: iv i :: rf b (some a) :: st)) := by
    intro ci t0 hci hwk ht
    obtain ⟨cellV, g1, g2, g3, -⟩ := q1.obj hci hwk
    have hcls := (hK.1 ci _ (vwC hci)).2
    obtain ⟨kA, comp, k1, k2, k3, -⟩ := (hK.2 t0 _ ht).2
    have hcomp : comp = D.1 ci := Option.some.inj (k3.symm.trans hcls.1)
    subst hcomp
    obtain ⟨kC, hkC, -⟩ := hcls.2
    refine W.aast C.1 C.2.1 (q1.arr (by omega) ha) (fun q h => by cases h) (fun h => by cases h) k1 k2 rfl hkC ⟨fun q => hin (Or.inl q), by rw [arrV_size]; exact Nat.not_le.mp fun q => hin (Or.inr q)⟩ g1 (fun q h => by rw [g3] at h; cases h) (by rw [g2]; exact hkC) (by rw [g2]; exact va_asg _ _) rfl rfl d fun H' e1 e2 e3 => ?_
    rw [iv_clamp hi] at e1
    exact j_put2 (S' := wR S a i.toNat (some w)) (by omega) ha rfl rfl rfl rfl (fun _ _ _ => rfl) (fun x j h => by rw [hR_wR, if_neg (by omega)]) (by
      rw [hR_wR, if_pos ⟨rfl, rfl⟩]
      unfold av
      rw [if_neg (by omega), if_pos (by omega)]
      rfl) id (fun h => by omega) k q1 q2 q3 q4 H' _ e1 e2 e3
  rcases hkd with rfl | rfl
  · exact go 3 2 (by decide) hw rfl
  · exact go 4 3 (by decide) hw rfl
end J
end
section
theorem hp_K.warm {b : Nat} {D : va_G} {dA : Nat → ClassId} {u U : State} (hW : u.WarmedH U.vm) (hh : ∀ x, x < b → U.heap[x]? = u.heap[x]?) (h : hp_K b D dA u) : hp_K b D dA U := by
  obtain ⟨h1, h2, h3, h4, h5, h6, h7⟩ := h
  refine ⟨va_K.moved hW.alike h1, fun w hw => ?_, va_AO.moved hW.alike h3, va_AO.moved hW.alike h4, fun A => over_moved hW.alike (h5 A), ?_, ?_⟩
  · have h8 := h2 w hw
    simp only [hp_bad, List.mem_cons, List.not_mem_nil, or_false] at hw
    rcases hw with rfl | rfl | rfl | rfl | rfl | rfl | rfl | rfl | rfl | rfl | rfl
    · exact va_Nw.warmM hW h8
    · exact va_Nw.warmM hW h8
    · exact va_Nw.warmM hW h8
    · exact va_Nw.warmC hW h8
    · exact va_Nw.warmC hW h8
    · exact va_Nw.warmC hW h8
    · exact va_Nw.warmC hW h8
    · exact va_Nw.warmC hW h8
    · exact va_Nw.warmD hW h8
    · exact va_Nw.warmD hW h8
    · exact va_Nw.warmD hW h8
  · exact vx_Zq.moved hW.alike (h6.kept fun x _ hx => hh x (Nat.not_le.mp hx))
  · exact vx_Zq.moved hW.alike (h7.kept fun x _ hx => hh x (Nat.not_le.mp hx))
def rZ (x : Int) (S : AS) : Option RS := if x = 0 ∨ x = 1 then some ((0, x, none), S) else none
theorem rZ_some {x : Int} {S : AS} {q : RS} (h : rZ x S = some q) : (x = 0 ∨ x = 1) ∧ q = ((0, x, none), S) := by
  unfold rZ at h
  split at h
  · rename_i g
    exact ⟨g, (Option.some.inj h).symm⟩
  · cases h
/-- a constructor's call: it doesn't throw -/
def cN (c : Option RS) (k : AS → Option RS) : Option RS := c.bind fun q => if q.1.1 = 0 then k q.2 else none
theorem cN_some {c : Option RS} {k : AS → Option RS} {q : RS} (h : cN c k = some q) : ∃ S', ∃ x : Int × Option Nat, c = some ((0, x), S') ∧ k S' = some q := by
  cases c with
  | none => simp [cN] at h
  | some y =>
    obtain ⟨⟨e, x⟩, S'⟩ := y
    simp only [cN, Option.bind_some] at h
    by_cases he : e = 0
    · subst he
      rw [if_pos rfl] at h
      exact ⟨S', x, rfl, h⟩
    · rw [if_neg he] at h
      cases h
/-- what a method owes at its end -/
def hp_Q (below : List Frame) (b : Nat) (D : va_G) (dA : Nat → ClassId) (S0 : AS) (rk : Nat) (q : RS) (args : Array Value) (s : State) : State → Prop :=
  vx_MQ below (hp_post b D dA S0 rk q) (hp_exc b D dA S0 q) args s (CM - hn S0) (UM - hu S0) (fun z => b ≤ z)
def lv1 (i : Nat) : List Value → List (Nat × Value)
  | [] => []
  | v :: vs => (i, v) :: lv1 (i + 1) vs
theorem lv1_eq : ∀ (As : List Value) (i : Nat), (∀ v ∈ As, v.category = 1) → lv_args i As = lv1 i As
  | [], _, _ => rfl
  | v :: vs, i, h => by
    have h1 : v.category = 1 := h v List.mem_cons_self
    have h2 := lv1_eq vs (i + 1) (fun w hw => h w (List.mem_cons_of_mem _ hw))
    simp only [lv_args, lv1, h1]
    rw [if_neg (by decide), h2]
theorem lg1_len : ∀ (As : List Value), (∀ v ∈ As, v.category = 1) → (lg_sl As).length = As.length
  | [], _ => rfl
  | v :: vs, h => by
    have h1 : v.category = 1 := h v List.mem_cons_self
    have h2 := lg1_len vs (fun w hw => h w (List.mem_cons_of_mem _ hw))
    simp only [lg_sl, List.flatMap_cons, List.length_append, List.length_cons] at h2 ⊢
    rw [h2, h1]
    simp
    omega
section J
variable {p : Program} {l : Launch} {e : Env} {R : Room} {s : State} {m : MethodId} {args : Array Value} {below : List Frame} {meth : Method} {c : Code}
variable {b : Nat} {D : va_G} {dA : Nat → ClassId} {S0 S S' : AS} {Q : State → Prop} {own : String} {cc : ByteArray} {nL pc fr lo : Nat} {ls : Array Slot} {st : List Value}
/-- a contract out of a walk from the method's entry -/
theorem hp_ofJ {y : MethodName} {ret : Option FieldType} {As : List Value} {rk : Nat} {q : RS} (hst : l.stackTraces = false) (hy : plainName y.cls = true) (ho : y.cls = own) (hcat : ∀ v ∈ As, v.category = 1) (hlen : As.length ≤ nL)
    (body : ∀ (p : Program) (e : Env) (R : Room) (s : State) (m : MethodId) (args : Array Value) (below : List Frame) (meth : Method) (c : Code), hp_C p l e R s m args below meth c b D dA S own cc nL fr lo → (∀ x ∈ c.exceptionTable.toList, False) → meth.name = y.name → meth.sig.returnType = ret → ∀ ls : Array Slot, lv_has ls nL (lv1 0 As) →
      hp_J p l e R s m args below meth c b D dA S (hp_Q below b D dA S rk q args s) S 0 ls []) : hp_M l b D dA y cc nL ret fr lo As S rk q := by
  subst ho
  refine vx_ofW hy rfl ?_
  intro p e s m args below meth c s₁ B hml ht hv
  obtain ⟨rfl, hR, hK, hB⟩ := hv
  have hts := atoms_spec (ws := Cond.code y cc nL ret :: hp_ws) B.pre
  have hl := lv_entry As (n := nL) (by rw [lg1_len As hcat]; exact hlen)
  rw [lg_entry_eq]
  generalize (lg_sl As ++ List.replicate (nL - (lg_sl As).length) Slot.unset).toArray = ls at hl ⊢
  rw [lv1_eq As 0 hcat] at hl
  have w := body p e (hp_rm fr lo S) s m As.toArray below meth c ⟨B.exec, B.bytes, hml, findClass_of_methodNamed B.named, fun w hw => hts w (List.mem_cons_of_mem _ hw), hK, hR, rfl, rfl, B.notSynchronized, hst, rfl, rfl⟩ ht (name_of_methodNamed B.named B.method).1 B.returns ls hl s.heap [] hR (fun z hz => nomatch hz) hB (fun _ _ => rfl)
  rw [Nat.sub_self, Nat.sub_self] at w
  exact w
/-! ends -/
theorem j_end {rk : Nat} {q : RS} {g : List Value} (C : hp_C p l e R s m args below meth c b D dA S0 own cc nL fr lo) (k : ∀ (H : Heap) (locs : List Loc), hp_R b D dA S H → (∀ z ∈ locs, b ≤ z.base) → hp_B S0 S → (∀ x, x < b → H[x]? = s.heap[x]?) → W p l e R s m args below meth c H locs (CM - hn S0) (UM - hu S0) (MQ below (hp_post b D dA S0 rk q) args s (CM - hn S0) (UM - hu S0) (fun z => b ≤ z)) (F0 m pc ls g)) : hp_J p l e R s m args below meth c b D dA S0 (hp_Q below b D dA S0 rk q args s) S pc ls g := by
  intro H locs q1 q2 q3 q4
  have q3' : hn S0 ≤ hn S ∧ hn S ≤ CM ∧ hu S0 ≤ hu S ∧ hu S ≤ UM := q3
  refine W.widen (k := CM - hn S0) (n := UM - hu S0) (by omega) (by omega) (vx_ret (k H locs q1 q2 q3 q4))
theorem j_iret (C : hp_C p l e R s m args below meth c b D dA S0 own cc nL fr lo) {x : Int} {q : RS} (d : decode cc pc = .ok (.ireturn, 1)) (hr : meth.sig.returnType = some .int) (hx : inR x) (hq : rI x S = some q) : hp_J p l e R s m args below meth c b D dA S0 (hp_Q below b D dA S0 1 q args s) S pc ls [iv x] := by
  cases hq
  exact j_end C fun H locs q1 q2 q3 q4 => W.iret C.1 C.2.1 hr (fun t ht hW => ⟨rfl, rfl, fun _ => hx, by rw [ht]; exact q1, q3, fun y hy => by rw [ht]; exact q4 y hy⟩) q2 d C.2.2.2.2.2.2.2.2.2.1
theorem j_zret (C : hp_C p l e R s m args below meth c b D dA S0 own cc nL fr lo) {x : Int} {q : RS} (d : decode cc pc = .ok (.ireturn, 1)) (hr : meth.sig.returnType = some .boolean) (hq : rZ x S = some q) : hp_J p l e R s m args below meth c b D dA S0 (hp_Q below b D dA S0 1 q args s) S pc ls [iv x] := by
  obtain ⟨hz, rfl⟩ := rZ_some hq
  have hx : inR x := by rcases hz with rfl | rfl <;> decide
  exact j_end C fun H locs q1 q2 q3 q4 => W.zret C.1 C.2.1 hr (by rcases hz with rfl | rfl <;> decide) (fun t ht hW => ⟨rfl, rfl, fun _ => hx, by rw [ht]; exact q1, q3, fun y hy => by rw [ht]; exact q4 y hy⟩) q2 d C.2.2.2.2.2.2.2.2.2.1
theorem j_vret (C : hp_C p l e R s m args below meth c b D dA S0 own cc nL fr lo) {q : RS} (d : decode cc pc = .ok (.return_, 1)) (hr : meth.sig.returnType = none) (hq : rV S = some q) : hp_J p l e R s m args below meth c b D dA S0 (hp_Q below b D dA S0 0 q args s) S pc ls [] := by
  cases hq
  exact j_end C fun H locs q1 q2 q3 q4 => W.vret C.1 C.2.1 hr (fun t ht hW => ⟨rfl, rfl, (fun h => by cases h), by rw [ht]; exact q1, q3, fun y hy => by rw [ht]; exact q4 y hy⟩) q2 d C.2.2.2.2.2.2.2.2.2.1
theorem j_aret (C : hp_C p l e R s m args below meth c b D dA S0 own cc nL fr lo) {x : Option Nat} {q : RS} {rt : FieldType} (d : decode cc pc = .ok (.areturn, 1)) (hr : meth.sig.returnType = some rt) (hrt : isRt rt = true) (hq : rR x S = some q) : hp_J p l e R s m args below meth c b D dA S0 (hp_Q below b D dA S0 2 q args s) S pc ls [rf b x] := by
  cases hq
  exact j_end C fun H locs q1 q2 q3 q4 => W.aret C.1 C.2.1 hr (by
    cases rt <;> first | (cases hrt; done) | exact Or.inl ⟨_, rfl⟩ | exact Or.inr ⟨_, rfl⟩) (by
    cases x
    · exact Or.inl rfl
    · exact Or.inr ⟨_, rfl⟩) (fun t ht hW => ⟨rfl, rfl, (fun h => by cases h), by rw [ht]; exact q1, q3, fun y hy => by rw [ht]; exact q4 y hy⟩) q2 d C.2.2.2.2.2.2.2.2.2.1
/-! calls -/
/-- a call that is under way: it comes back, or throws, as q says -/
def hp_run (p : Program) (l : Launch) (e : Env) (R : Room) (s : State) (m : MethodId) (args : Array Value) (below : List Frame) (meth : Method) (c : Code) (b : Nat) (D : va_G) (dA : Nat → ClassId) (S0 S : AS) (pc : Nat) (ls : Array Slot) (st0 rest : List Value) (rk : Nat) (q : RS) : Prop :=
  ∀ (H : Heap) (locs : List Loc), hp_R b D dA S H → hp_B S0 S → (∀ x, x < b → H[x]? = s.heap[x]?) → vx_Run p l e R s m args below meth c H locs (hn S - hn S0) (hu S - hu S0) (CM - hn S) (UM - hu S) (F0 m pc ls st0) rest (hp_post b D dA S rk q #[]) (hp_exc b D dA S q) (fun z => b ≤ z)
theorem hp_sizes (C : hp_C p l e R s m args below meth c b D dA S0 own cc nL fr lo) {H : Heap} (q1 : hp_R b D dA S H) (q3 : hp_B S0 S) : b ≤ s.heap.size ∧ H.size ≤ s.heap.size + (hn S - hn S0) ∧ hp_sum b H ≤ hp_sum b s.heap + (hu S - hu S0) := by
  have h0 := C.2.2.2.2.2.2.1
  have q3' : hn S0 ≤ hn S ∧ hn S ≤ CM ∧ hu S0 ≤ hu S ∧ hu S ≤ UM := q3
  have a1 := h0.1
  have a2 := h0.2.1
  have a3 := q1.1
  have a4 := q1.2.1
  omega
theorem j_back (C : hp_C p l e R s m args below meth c b D dA S0 own cc nL fr lo) {rk : Nat} {q : RS} {st0 rest : List Value} (hr : hp_run p l e R s m args below meth c b D dA S0 S pc ls st0 rest rk q) (h0 : q.1.1 = 0) (k : (rk = 1 → inR q.1.2.1) → hp_J p l e R s m args below meth c b D dA S0 Q q.2 (pc + 3) ls ((rvv b rk q.1.2).toList ++ rest)) : hp_J p l e R s m args below meth c b D dA S0 Q S pc ls st0 := by
  intro H locs q1 q2 q3 q4 T hT X
  rcases hr H locs q1 q3 q4 T hT X with ⟨v, st₀, t, T', L, e0, X', hL, e1, e2, ⟨-, hv, hx, hR, hB, hF⟩, stp⟩ | ⟨_, _, _, _, _, _, _, _, _, _, _, _, ⟨hne, -⟩, -⟩
  · cases hv
    have q3' : hn S0 ≤ hn S ∧ hn S ≤ CM ∧ hu S0 ≤ hu S ∧ hu S ≤ UM := q3
    have hB' : hn S ≤ hn q.2 ∧ hn q.2 ≤ CM ∧ hu S ≤ hu q.2 ∧ hu q.2 ≤ UM := hB
    have hB2 : hp_B S0 q.2 := by unfold hp_B; omega
    rw [← e1] at hR
    have w := k hx T'.heap (locs ++ L) hR (fun z hz => by
      rcases List.mem_append.mp hz with h | h
      · exact q2 z h
      · exact hL z h) hB2 (fun x hx => by rw [e1, hF x hx, e0]; exact q4 x hx)
    obtain ⟨z1, z2, z3⟩ := hp_sizes C hR hB2
    obtain ⟨t2, a1, b1⟩ := hp_tight z1 z2 z3 w T' rfl X'
    exact ⟨t2, stp t2 a1, b1⟩
  · exact absurd h0 hne
theorem j_thrown (C : hp_C p l e R s m args below meth c b D dA S0 own cc nL fr lo) (hT0 : ∀ x ∈ c.exceptionTable.toList, False) {rk rk' : Nat} {q : RS} {st0 rest : List Value} (hr : hp_run p l e R s m args below meth c b D dA S0 S pc ls st0 rest rk q) (h0 : q.1.1 ≠ 0) : hp_J p l e R s m args below meth c b D dA S0 (hp_Q below b D dA S0 rk' q args s) S pc ls st0 := by
  intro H locs q1 q2 q3 q4 T hT X
  rcases hr H locs q1 q3 q4 T hT X with ⟨v, st₀, t, T', L, e0, X', hL, e1, e2, ⟨hne, -⟩, stp⟩ | ⟨q9, st₀, t, T', L, E, ce, e0, X', hL, e1, e2, ⟨-, rfl, hR, hB, hF⟩, hce, hcv, hcl, stp⟩
  · exact absurd hne h0
  · have q3' : hn S0 ≤ hn S ∧ hn S ≤ CM ∧ hu S0 ≤ hu S ∧ hu S ≤ UM := q3
    have hB' : hn S ≤ hn q.2 ∧ hn q.2 ≤ CM ∧ hu S ≤ hu q.2 ∧ hu q.2 ≤ UM := hB
    have hB2 : hp_B S0 q.2 := by unfold hp_B; omega
    obtain ⟨t2, a1, b1⟩ := vx_out (p := p) (l := l) (e := e) (R := R) (pc := pc) (ls := ls) (rest := rest) (mc := CM - hn S0) (ms := UM - hu S0) (Qc := hp_post b D dA S0 rk' q) (XC := hp_exc b D dA S0 q) (free := fun z => b ≤ z) (fun x hx => (hT0 x hx).elim) C.2.2.2.2.2.2.2.2.2.1 (by rw [e1]; exact hce) hcv hcl
      (fun t9 ht9 _ => ⟨h0, rfl, by rw [ht9, e1]; exact hR, hB2, fun x hx => by rw [ht9, e1, hF x hx, e0]; exact q4 x hx⟩) (fun z hz => by
        rcases List.mem_append.mp hz with h | h
        · exact q2 z h
        · exact hL z h) (by omega) (by omega) T' rfl X'
    exact ⟨t2, stp.trans a1, b1⟩
end J
end
section
section HPT
variable {p : Program} {l : Launch} {e : Env} {R : Room} {s : State} {m : MethodId} {args : Array Value} {below : List Frame} {meth : Method} {c : Code} {H : Heap} {locs : List Loc} {cells slots : Nat} {Q : State → Prop}
variable {free : Addr → Prop} {ls : Array Slot} {rest : List Value}
variable {Qc : Array Value → State → Outcome → State → Prop} {XC : String → State → State → Prop}
theorem hp_throw0 {cc : ByteArray} {pc : Nat} (hexec : p.tables.exec = Jvm.exec) (hb : c.code = cc) (hl : l.stackTraces = false) {own cls : String} {names : List String} {ik ic mc ms : Nat} {A : Nat → Prop}
    (hown : s.vm.findClass own = some m.cls) (hcls : Bundle.fit cls = true) (hnames : ∀ n ∈ names, Bundle.fit n = true)
    (hk : (Cond.classLink own ik cls).before args s = true) (hini : (Cond.initialized cls).before args s = true) (hat : ∀ w ∈ vx_at0 own ic cls names, w.before args s = true)
    (hgood : ∀ w ∈ Cond.classLink own ik cls :: Cond.initialized cls :: vx_at0 own ic cls names, vx_ot w = true)
    (hU : vx_Zq Bundle.tN "UNASSIGNED_STACK" Bundle.steD A s s.heap) (hN : vx_Zq Bundle.tN "SUPPRESSED_SENTINEL" Bundle.listD A s s.heap) (hS : va_S A s.heap H locs) (hsize : ls.size = c.maxLocals)
    (d0 : decode cc pc = .ok (.new ik, 3)) (d3 : decode cc (pc + 3) = .ok (.dup, 1)) (d4 : decode cc (pc + 4) = .ok (.invokespecial ic, 3)) (d7 : decode cc (pc + 7) = .ok (.athrow, 1))
    (hout : ∀ x ∈ c.exceptionTable.toList, covers x (pc + 7) = false)
    (hRframes : names.length + 3 < R.frames) (hRlocals : (rest.map fun v => v.category).sum + (13 * (names.length + 1) + 42) ≤ R.locals) (hRcells : cells + 1 ≤ R.cells) (hRslots : slots + 6 ≤ R.slots) (hlocks : meth.locks = false)
    (hx : ∀ (t : State) (ce : Cell), s.vm.Alike t.vm → t.heap.size = H.size + 1 → (∀ q : Nat, q < H.size → t.heap[q]? = H[q]?) → t.heap[H.size]? = some ce → ce.slots.size = 6 → XC cls s t)
    (hf : ∀ z ∈ locs, free z.base) (hc : cells + 1 ≤ mc) (hs : slots + 6 ≤ ms) :
    W p l e R s m args below meth c H locs cells slots (vx_MQ below Qc XC args s mc ms free) (F0 m pc ls rest) := by
  intro T hT X
  have htr : e.platform.stackTraces = false := (show e.platform.stackTraces = l.stackTraces by rw [X.admits.platform]).trans hl
  have Y := vx_rebase X (R' := { frames := R.frames, locals := R.locals, cells := 1, slots := 6 }) (Nat.le_refl _) (Nat.le_refl _) hRcells hRslots
  obtain ⟨s', hA⟩ : ∃ z, z = (T.setVm s.vm).setFrames (.invoking m args :: below) := ⟨_, rfl⟩
  rw [← hA] at Y
  have hvm : s'.vm = s.vm := by rw [hA]; rfl
  have hhp : s'.heap = H := by rw [hA]; exact hT
  have hW0 : s.WarmedH s'.vm := by rw [hvm]; exact State.WarmedH.refl s
  have hat' : ∀ w ∈ vx_at0 own ic cls names, w.before args s' = true := fun w hw => vx_ot_at hW0 hvm.symm (hgood w (List.mem_cons_of_mem _ (List.mem_cons_of_mem _ hw))) (hat w hw)
  have hk' : (Cond.classLink own ik cls).before args s' = true := vx_ot_at hW0 hvm.symm (hgood _ List.mem_cons_self) hk
  have hini' : (Cond.initialized cls).before args s' = true := vx_ot_at hW0 hvm.symm (hgood _ (List.mem_cons_of_mem _ List.mem_cons_self)) hini
  have hU' : vx_Zq Bundle.tN "UNASSIGNED_STACK" Bundle.steD A s' s'.heap := by rw [hhp]; exact vx_Zq.moved hW0.alike (hU.kept hS.2.1)
  have hN' : vx_Zq Bundle.tN "SUPPRESSED_SENTINEL" Bundle.listD A s' s'.heap := by rw [hhp]; exact vx_Zq.moved hW0.alike (hN.kept hS.2.1)
  have h : ∀ w ∈ Bundle.ownAtoms0 own ic cls names, w.before args s' = true := vx_own hat' (vx_isRefq hU'.1) (vx_isRefq hN'.1) hU'.2.word hN'.2.word
  have hown' : s'.vm.findClass own = some m.cls := by rw [hvm]; exact hown
  have hins : (Cond.instantiable cls 6).before args s' = true := h _ (by simp [Bundle.ownAtoms0])
  obtain ⟨vm₁, cX, kX, hfX, hkX, -, -, X₁, st1⟩ := Y.newCold hexec (own := own) (C := cls) (index := ik) (n := 6) hown' hk' hins hini'
    (g := F0 m pc ls rest) rfl (by rw [hb]; exact d0) (Nat.le_refl _) (Nat.le_refl _)
  generalize hT1 : (T.setVm vm₁).pushCell { cls := cX, slots := kX.instanceTypes.map defaultValue, vm := .none } = T1 at X₁ st1
  have hcat : (Value.ref T.heap.size).category = 1 := rfl
  have hcellA : T1.heap[T.heap.size]? = some (freshCell cX kX) := by rw [← hT1]; exact State.heap_pushCell_size _ _
  have d3' : decode c.code (pc + 3) = .ok (.dup, 1) := by rw [hb]; exact d3
  obtain ⟨U, hsteps, hrun, hend, hW, hsame, ce, hce, hO⟩ := X₁.ctorThrow0 hexec htr (own := own) (cls := cls) (names := names) (ic := ic) hown' hcls hnames h (fun x hx => nomatch hx) hfX hkX hcellA (by rw [hhp, hT]; exact Nat.le_refl _)
    (g := { method := m, pc := pc + 4, locals := ls, stack := .ref T.heap.size :: .ref T.heap.size :: rest, locked := none }) rfl hsize rfl rfl (rest := rest) rfl
    (by rw [hb]; exact d4) (by rw [hb]; exact d7) hout hRframes (by simp only [List.map_cons, List.sum_cons, hcat]; omega) hlocks
  obtain ⟨f1, f2⟩ := vx_frame hsame
  rw [hhp] at f1 f2
  have hzz : U.heap.size = H.size + 1 := by
    have g1 := hsame.2.2.1
    have g2 : U.heap.size ≤ s'.heap.size + (0 + 1) := g1
    rw [hhp] at g2
    have g3 : T.heap.size < U.heap.size := (Array.getElem?_eq_some_iff.mp hce).1
    rw [hT] at g3
    omega
  have hWs : s.WarmedH U.vm := State.WarmedH.trans hW0 hW
  have hcl : s.vm.findClass cls = some ce.cls := by
    have h9 := hO.cls
    rw [hvm] at h9
    exact h9
  have hall : s.sameButNew ({ U with vm := s.vm } : State) locs mc ms := by
    subst hA
    obtain ⟨e1, e2⟩ := hsame
    rw [State.setFrames_setFrames] at e1
    have h2 : (T.setVm s.vm).sameButNew ({ U with vm := s.vm } : State) [] (0 + 1) (0 + 6) := ⟨e1, e2⟩
    have h3 := X.same.trans h2
    rw [List.append_nil] at h3
    exact h3.mono hc hs
  refine ⟨U, ?_, .threw T.heap.size, hrun, hend, Or.inr ⟨T.heap.size, rfl, cls, ce, locs, hx U ce hWs.alike hzz (fun q hq => f2 q hq (fun z hz => nomatch hz)) (by rw [← hT]; exact hce) hO.size, hce, hO.vm, hcl, hWs, hall, hf⟩⟩
  refine st1 _ ?_
  show Steps p.tables e below (T1.setTop { method := m, pc := pc + 3, locals := ls, stack := .ref T.heap.size :: rest, locked := none }) _
  jvm_step X₁.here [X₁.here.top, hexec, d3', Value.category]
  exact hsteps
end HPT
theorem gd_of {ws : List Cond} (h : ∀ w ∈ ws, w ∈ hp_ws) : GoodIn hp_ws ws := fun w hw => ⟨h w hw, good_of_word (List.mem_filter.mp (h w hw)).2⟩
theorem gd_cons {w : Cond} (h : w ∈ hp_ws) : ∀ x ∈ w :: hp_ws, x ∈ hp_ws := fun x hx => by
  rcases List.mem_cons.mp hx with rfl | hx
  · exact h
  · exact hx
abbrev mh_ok (y : MethodName) (n : Nat) : Prop := y.cls ≠ "java/lang/invoke/MethodHandle" ∧ y.cls ≠ "java/lang/invoke/VarHandle" ∧ (parseMethodDescriptor y.desc).map (fun d => d.parameters.length) = some n
def cv_ok (own : String) (idx : Nat) (y : MethodName) (cc : ByteArray) (maxL n : Nat) (ret : Option FieldType) : Prop := Cond.methodLink own idx y ∈ hp_ws ∧ Cond.instanceMethod y ∈ hp_ws ∧ Cond.selects y.cls y y ∈ hp_ws ∧ Cond.initialized y.cls ∈ hp_ws ∧ Cond.code y cc maxL ret ∈ hp_ws ∧ mh_ok y n
def cs_ok (own : String) (idx : Nat) (y : MethodName) (cc : ByteArray) (maxL n : Nat) (ret : Option FieldType) : Prop := Cond.methodLink own idx y ∈ hp_ws ∧ Cond.static y ∈ hp_ws ∧ Cond.initialized y.cls ∈ hp_ws ∧ Cond.code y cc maxL ret ∈ hp_ws ∧ mh_ok y n
def ci_ok (own : String) (idx : Nat) (y : MethodName) (cc : ByteArray) (maxL n : Nat) : Prop := Cond.methodLink own idx y ∈ hp_ws ∧ Cond.instanceMethod y ∈ hp_ws ∧ Cond.initialized y.cls ∈ hp_ws ∧ Cond.code y cc maxL none ∈ hp_ws ∧ mh_ok y n ∧ y.name = "<init>"
theorem hp_blind {b : Nat} {D : va_G} {dA : Nat → ClassId} {As : List Value} {S : AS} : FrameBlind (hp_pre b D dA As S) := fun a U g mk h => by
  obtain ⟨h1, h2, h3, h4⟩ := h
  exact ⟨h1, h2, hp_K.warm (u := U) (U := U.calling g mk a) (State.WarmedH.refl U) (fun _ _ => rfl) h3, h4⟩
theorem hp_M.met {l : Launch} {b : Nat} {D : va_G} {dA : Nat → ClassId} {y : MethodName} {cc : ByteArray} {maxL : Nat} {ret : Option FieldType} {fr lo : Nat} {As : List Value} {S : AS} {rk : Nat} {q : RS} (h : hp_M l b D dA y cc maxL ret fr lo As S rk q) (h0 : q.1.1 = 0) : Met l y (.code y cc maxL ret :: hp_ws) (hp_rm fr lo S) (hp_pre b D dA As S) (hp_post b D dA S rk q) (CM - hn S) (UM - hu S) (fun z => b ≤ z) := by
  intro p e ha hc hk s m args below hf happ hP hK
  obtain ⟨n, o, h1, h2, h3, h4⟩ := h p e ha hc hk s m args below hf happ hP hK
  refine ⟨n, o, h1, h2, h3, ?_⟩
  rcases h4 with h4 | ⟨x, -, E, ce, L, ⟨hne, -⟩, -⟩
  · exact h4
  · exact absurd h0 hne
section J
variable {p : Program} {l : Launch} {e : Env} {R : Room} {s : State} {m : MethodId} {args : Array Value} {below : List Frame} {meth : Method} {c : Code}
variable {b : Nat} {D : va_G} {dA : Nat → ClassId} {S0 S S' : AS} {Q : State → Prop} {own : String} {cc : ByteArray} {nL pc fr lo : Nat} {ls : Array Slot} {st : List Value}
theorem hp_preAt (C : hp_C p l e R s m args below meth c b D dA S0 own cc nL fr lo) {As : List Value} {H : Heap} (q1 : hp_R b D dA S H) (q3 : hp_B S0 S) (q4 : ∀ x, x < b → H[x]? = s.heap[x]?) : ∀ U : State, U.heap = H → s.WarmedH U.vm → hp_pre b D dA As S As.toArray U := fun U hU hW =>
  ⟨rfl, by rw [hU]; exact q1, hp_K.warm hW (fun x hx => by rw [hU]; exact q4 x hx) C.2.2.2.2.2.1, by unfold hp_B at q3 ⊢; omega⟩
theorem hp_room (C : hp_C p l e R s m args below meth c b D dA S0 own cc nL fr lo) (q3 : hp_B S0 S) : hn S - hn S0 + (CM - hn S) ≤ R.cells ∧ hu S - hu S0 + (UM - hu S) ≤ R.slots := by
  have h1 := C.2.2.2.2.2.2.2.1
  have h2 := C.2.2.2.2.2.2.2.2.1
  have q3' : hn S0 ≤ hn S ∧ hn S ≤ CM ∧ hu S0 ≤ hu S ∧ hu S ≤ UM := q3
  omega
theorem hp_fr (C : hp_C p l e R s m args below meth c b D dA S0 own cc nL fr lo) {fr' lo' maxL : Nat} (h1 : fr' + 1 ≤ fr) (h2 : 8 + (maxL + 11) + lo' ≤ lo) : (hp_rm fr' lo' S).frames + 1 ≤ R.frames ∧ 8 + (maxL + 11) + (hp_rm fr' lo' S).locals ≤ R.locals := by
  have e1 : R.frames = fr := C.2.2.2.2.2.2.2.2.2.2.2.1
  have e2 : R.locals = lo := C.2.2.2.2.2.2.2.2.2.2.2.2
  rw [e1, e2]
  exact ⟨h1, h2⟩
theorem run_V (C : hp_C p l e R s m args below meth c b D dA S0 own cc nL fr lo) {y : MethodName} {cc' : ByteArray} {maxL n idx fr' lo' rk a ci : Nat} {ret : Option FieldType} {As rest : List Value} {q : RS} (hM : hp_M l b D dA y cc' maxL ret fr' lo' (rf b (some a) :: As) S rk q) (hc : cv_ok own idx y cc' maxL n ret) (hci : ci < 7) (hcls : y.cls = RC ci) (ha : hk S a = ci + 1) (hn9 : As.length = n) (hls : ls.size = nL) (hW : (rest.map fun v => v.category).sum ≤ 8) (hfr : fr' + 1 ≤ fr) (hlo : 8 + (maxL + 11) + lo' ≤ lo) (d : decode cc pc = .ok (.invokevirtual idx, 3)) :
    hp_run p l e R s m args below meth c b D dA S0 S pc ls (As.reverse ++ rf b (some a) :: rest) rest rk q := by
  intro H locs q1 q3 q4
  obtain ⟨w1, w2, w3, w4, w5, w6⟩ := hc
  have hts := C.2.2.2.2.1
  have hG : GoodIn hp_ws (wsV own idx y.cls y (Cond.code y cc' maxL ret :: hp_ws)) := gd_of fun w hw => by
    unfold wsV at hw
    simp only [List.cons_append, List.nil_append, List.mem_cons] at hw
    rcases hw with rfl | rfl | rfl | rfl | rfl | hw
    · exact w1
    · exact w2
    · exact w3
    · exact w4
    · exact w5
    · exact hw
  have hrecv : ∃ cellB : Cell, H[b + a]? = some cellB ∧ cellB.vm.isStatics = false ∧ s.vm.findClass y.cls = some cellB.cls := by
    obtain ⟨cell, g1, g2, g3, -⟩ := q1.obj hci ha
    exact ⟨cell, g1, by rw [g3]; rfl, by rw [g2, hcls]; exact (C.2.2.2.2.2.1.1.1 ci _ (vwC hci)).2.1⟩
  exact vx_runV (C := y.cls) (As := As) (rest := rest) ⟨C.1, C.2.1, C.2.2.1, C.2.2.2.1, hts⟩ hM (cwV n hts hG rfl rfl rfl ⟨rfl, w6⟩ (hp_fr C hfr hlo)) ⟨hp_blind, hrecv, hp_preAt C q1 q3 q4⟩ rfl hn9 hls rfl (lv_room hW) d (hp_room C q3)
theorem run_S (C : hp_C p l e R s m args below meth c b D dA S0 own cc nL fr lo) {y : MethodName} {cc' : ByteArray} {maxL n idx fr' lo' rk : Nat} {ret : Option FieldType} {As rest : List Value} {q : RS} (hM : hp_M l b D dA y cc' maxL ret fr' lo' As S rk q) (hc : cs_ok own idx y cc' maxL n ret) (hn9 : As.length = n) (hls : ls.size = nL) (hW : (rest.map fun v => v.category).sum ≤ 8) (hfr : fr' + 1 ≤ fr) (hlo : 8 + (maxL + 11) + lo' ≤ lo) (d : decode cc pc = .ok (.invokestatic idx, 3)) :
    hp_run p l e R s m args below meth c b D dA S0 S pc ls (As.reverse ++ rest) rest rk q := by
  intro H locs q1 q3 q4
  obtain ⟨w1, w2, w3, w5, w6⟩ := hc
  have hts := C.2.2.2.2.1
  exact vx_runS (As := As) (rest := rest) ⟨C.1, C.2.1, C.2.2.1, C.2.2.2.1, hts⟩ hM ⟨callB_of n hts (gd_of (gd_cons w5)) rfl rfl rfl (hts _ w3) (hts _ w1) w6 (hp_fr C hfr hlo), hts _ w2⟩ ⟨hp_blind, hp_preAt C q1 q3 q4⟩ rfl hn9 hls rfl (lv_room hW) d (hp_room C q3)
theorem run_I (C : hp_C p l e R s m args below meth c b D dA S0 own cc nL fr lo) {y : MethodName} {cc' : ByteArray} {maxL n idx fr' lo' rk a : Nat} {As rest : List Value} {q : RS} (hM : hp_M l b D dA y cc' maxL none fr' lo' (rf b (some a) :: As) S rk q) (h0 : q.1.1 = 0) (hc : ci_ok own idx y cc' maxL n) (hn9 : As.length = n) (hls : ls.size = nL) (hW : (rest.map fun v => v.category).sum ≤ 8) (hfr : fr' + 1 ≤ fr) (hlo : 8 + (maxL + 11) + lo' ≤ lo) (d : decode cc pc = .ok (.invokespecial idx, 3)) :
    hp_run p l e R s m args below meth c b D dA S0 S pc ls (As.reverse ++ rf b (some a) :: rest) rest rk q := by
  intro H locs q1 q3 q4
  obtain ⟨w1, w2, w3, w5, w6, w7⟩ := hc
  have hts := C.2.2.2.2.1
  exact fun T hT X => Or.inl (va_runI (As := As) (rest := rest) (g := F0 m pc ls (As.reverse ++ rf b (some a) :: rest)) ⟨C.1, C.2.1, C.2.2.1, C.2.2.2.1, hts⟩ (hM.met h0) (cwI n hts (gd_of (gd_cons w5)) rfl rfl rfl (hts _ w3) (hts _ w1) (hts _ w2) w7 w6 (hp_fr C hfr hlo)) ⟨hp_blind, hp_preAt C q1 q3 q4⟩ rfl hn9 hls rfl (lv_room hW) d (hp_room C q3) T hT X)
def cn_ok (own : String) (idx : Nat) (y : MethodName) (cc : ByteArray) (maxL n : Nat) (ret : Option FieldType) : Prop := Cond.methodLinkNest own idx y RX5 ∈ hp_bad ∧ Cond.initialized y.cls ∈ hp_ws ∧ Cond.code y cc maxL ret ∈ hp_ws ∧ mh_ok y n
theorem run_IN (C : hp_C p l e R s m args below meth c b D dA S0 own cc nL fr lo) {y : MethodName} {cc' : ByteArray} {maxL n idx fr' lo' rk a : Nat} {As rest : List Value} {q : RS} (hM : hp_M l b D dA y cc' maxL none fr' lo' (rf b (some a) :: As) S rk q) (h0 : q.1.1 = 0) (hc : cn_ok own idx y cc' maxL n none) (hy : y.name = "<init>" ∧ Cond.instanceMethod y ∈ hp_ws) (hn9 : As.length = n) (hls : ls.size = nL) (hW : (rest.map fun v => v.category).sum ≤ 8) (hfr : fr' + 1 ≤ fr) (hlo : 8 + (maxL + 11) + lo' ≤ lo) (d : decode cc pc = .ok (.invokespecial idx, 3)) :
    hp_run p l e R s m args below meth c b D dA S0 S pc ls (As.reverse ++ rf b (some a) :: rest) rest rk q := by
  intro H locs q1 q3 q4
  obtain ⟨w1, w3, w5, w6⟩ := hc
  have hts := C.2.2.2.2.1
  exact fun T hT X => Or.inl (va_runIN (As := As) (rest := rest) (g := F0 m pc ls (As.reverse ++ rf b (some a) :: rest)) (host := RX5) ⟨C.1, C.2.1, C.2.2.1, C.2.2.2.1, hts⟩ (hM.met h0) ⟨va_cnB n hts (gd_of (gd_cons w5)) rfl rfl rfl (C.2.2.2.2.2.1.2.1 _ w1) (hts _ w3) w6 (hp_fr C hfr hlo), hy.1, hts _ hy.2⟩ ⟨hp_blind, hp_preAt C q1 q3 q4⟩ rfl hn9 hls rfl (lv_room hW) d (hp_room C q3) T hT X)
theorem run_SN (C : hp_C p l e R s m args below meth c b D dA S0 own cc nL fr lo) {y : MethodName} {cc' : ByteArray} {maxL n idx fr' lo' rk : Nat} {ret : Option FieldType} {As rest : List Value} {q : RS} (hM : hp_M l b D dA y cc' maxL ret fr' lo' As S rk q) (h0 : q.1.1 = 0) (hc : cn_ok own idx y cc' maxL n ret) (hy : Cond.static y ∈ hp_ws) (hn9 : As.length = n) (hls : ls.size = nL) (hW : (rest.map fun v => v.category).sum ≤ 8) (hfr : fr' + 1 ≤ fr) (hlo : 8 + (maxL + 11) + lo' ≤ lo) (d : decode cc pc = .ok (.invokestatic idx, 3)) :
    hp_run p l e R s m args below meth c b D dA S0 S pc ls (As.reverse ++ rest) rest rk q := by
  intro H locs q1 q3 q4
  obtain ⟨w1, w3, w5, w6⟩ := hc
  have hts := C.2.2.2.2.1
  exact fun T hT X => Or.inl (va_runSN (As := As) (rest := rest) (g := F0 m pc ls (As.reverse ++ rest)) (host := RX5) ⟨C.1, C.2.1, C.2.2.1, C.2.2.2.1, hts⟩ (hM.met h0) ⟨va_cnB n hts (gd_of (gd_cons w5)) rfl rfl rfl (C.2.2.2.2.2.1.2.1 _ w1) (hts _ w3) w6 (hp_fr C hfr hlo), hts _ hy, trivial⟩ ⟨hp_blind, hp_preAt C q1 q3 q4⟩ rfl hn9 hls rfl (lv_room hW) d (hp_room C q3) T hT X)
/-- Object's constructor -/
theorem j_objInit (C : hp_C p l e R s m args below meth c b D dA S0 own cc nL fr lo) {idx : Nat} {r : Option Nat} (d : decode cc pc = .ok (.invokespecial idx, 3)) (hr : r.isSome = true) (w1 : Cond.methodLink own idx objectInit ∈ hp_ws) (w2 : Cond.instanceMethod objectInit ∈ hp_ws) (w3 : Cond.code objectInit ⟨#[0xb1]⟩ 1 none ∈ hp_ws) (hls : ls.size = nL) (hfr : 1 ≤ fr) (hlo : (st.map fun v => v.category).sum + 12 ≤ lo) (k : hp_J p l e R s m args below meth c b D dA S0 Q S (pc + 3) ls st) : hp_J p l e R s m args below meth c b D dA S0 Q S pc ls (rf b r :: st) := by
  obtain ⟨a, rfl⟩ := Option.isSome_iff_exists.mp hr
  have e1 : R.frames = fr := C.2.2.2.2.2.2.2.2.2.2.2.1
  have e2 : R.locals = lo := C.2.2.2.2.2.2.2.2.2.2.2.2
  have hts := C.2.2.2.2.1
  exact fun H locs q1 q2 q3 q4 => W.objInit C.1 C.2.1 C.2.2.2.1 (hts _ w1) (hts _ w2) (hts _ w3) rfl (hls.trans C.2.2.1.symm) rfl d (by rw [e1]; exact hfr) (by rw [e2]; show 2 * 0 + _ + 12 ≤ _; omega) (k H locs q1 q2 q3 q4)
/-- throw new E() -/
def tw_ok (ik ic k9 : Nat) : Prop := 1 ≤ k9 ∧ k9 ≤ 4 ∧ Cond.classLink RX5 ik (exN k9) ∈ hp_ws ∧ Cond.initialized (exN k9) ∈ hp_ws ∧ (∀ w ∈ vx_at0 RX5 ic (exN k9) ["java/lang/RuntimeException", "java/lang/Exception"], w ∈ hp_ws ∨ w ∈ hp_bad) ∧ (∀ w ∈ Cond.classLink RX5 ik (exN k9) :: Cond.initialized (exN k9) :: vx_at0 RX5 ic (exN k9) ["java/lang/RuntimeException", "java/lang/Exception"], vx_ot w = true) ∧ Bundle.fit (exN k9) = true
theorem j_throw (C : hp_C p l e R s m args below meth c b D dA S0 RX5 cc nL fr lo) (hT0 : ∀ x ∈ c.exceptionTable.toList, False) {ik ic k9 rk : Nat} {q : RS} (hw : tw_ok ik ic k9) (d0 : decode cc pc = .ok (.new ik, 3)) (d3 : decode cc (pc + 3) = .ok (.dup, 1)) (d4 : decode cc (pc + 4) = .ok (.invokespecial ic, 3)) (d7 : decode cc (pc + 7) = .ok (.athrow, 1)) (hls : ls.size = nL) (hfr : 5 < fr) (hlo : (st.map fun v => v.category).sum + 81 ≤ lo) (hq : rX k9 S = some q) :
    hp_J p l e R s m args below meth c b D dA S0 (hp_Q below b D dA S0 rk q args s) S pc ls st := by
  obtain ⟨g1, g2, rfl⟩ := rX_some hq
  obtain ⟨k1, k2, w1, w2, w3, w4, w5⟩ := hw
  have e1 : R.frames = fr := C.2.2.2.2.2.2.2.2.2.2.2.1
  have e2 : R.locals = lo := C.2.2.2.2.2.2.2.2.2.2.2.2
  have hts := C.2.2.2.2.1
  have hRc := C.2.2.2.2.2.2.2.1
  have hRs := C.2.2.2.2.2.2.2.2.1
  intro H locs q1 q2 q3 q4
  have q3' : hn S0 ≤ hn S ∧ hn S ≤ CM ∧ hu S0 ≤ hu S ∧ hu S ≤ UM := q3
  have hsz : H.size = b + hn S := q1.1
  have hz0 := C.2.2.2.2.2.2.1.1
  have hS : va_S (fun q => b ≤ q) s.heap H locs := ⟨by omega, fun x _ hx => q4 x (Nat.not_le.mp hx), q2⟩
  refine hp_throw0 (names := ["java/lang/RuntimeException", "java/lang/Exception"]) (A := fun q => b ≤ q) C.1 C.2.1 C.2.2.2.2.2.2.2.2.2.2.1 C.2.2.2.1 w5 (by decide +kernel) (hts _ w1) (hts _ w2) (fun w hw => ?_) w4 C.2.2.2.2.2.1.2.2.2.2.2.1 C.2.2.2.2.2.1.2.2.2.2.2.2 hS (hls.trans C.2.2.1.symm) d0 d3 d4 d7 (fun x hx => (hT0 x hx).elim)
    (by rw [e1]; exact hfr) (by rw [e2]; show _ + (13 * (2 + 1) + 42) ≤ _; omega) (by rw [hRc]; omega) (by rw [hRs]; omega) C.2.2.2.2.2.2.2.2.2.1 (fun t ce _ z o e he => ?_) q2 (by omega) (by omega)
  · rcases w3 w hw with h | h
    · exact hts _ h
    · have := C.2.2.2.2.2.1.2.1 w h
      refine va_Nw.use ?_ this
      revert h
      exact (by decide +kernel : ∀ w ∈ hp_bad, w.onTables = true) w
  · refine ⟨(show k9 ≠ 0 by omega), rfl, q1.thrown z o e he, hp_B.grow (n := 1) (u := 6) q3 rfl rfl (by omega) g2, fun x hx => by rw [o x (by omega)]; exact q4 x hx⟩
theorem j_max (C : hp_C p l e R s m args below meth c b D dA S0 own cc nL fr lo) {idx : Nat} {x y : Int} (d : decode cc pc = .ok (.invokestatic idx, 3)) (hx : inR x) (hy : inR y) (w1 : Cond.methodLink own idx Lib.Math.max.name ∈ hp_ws) (w2 : Cond.static Lib.Math.max.name ∈ hp_ws) (w3 : Cond.initialized "java/lang/Math" ∈ hp_ws) (w4 : Cond.code Lib.Math.max.name Lib.Math.max.code 2 (some .int) ∈ hp_ws) (hls : ls.size = nL) (hfr : 1 ≤ fr) (hlo : (st.map fun v => v.category).sum + 13 ≤ lo) (k : hp_J p l e R s m args below meth c b D dA S0 Q S (pc + 3) ls (iv (if x < y then y else x) :: st)) : hp_J p l e R s m args below meth c b D dA S0 Q S pc ls (iv y :: iv x :: st) := by
  have e1 : R.frames = fr := C.2.2.2.2.2.2.2.2.2.2.2.1
  have e2 : R.locals = lo := C.2.2.2.2.2.2.2.2.2.2.2.2
  have hts := C.2.2.2.2.1
  intro H locs q1 q2 q3 q4
  have hR9 := hp_room C q3
  refine va_mmax C.1 C.2.1 (C.2.2.1.trans hls.symm) C.2.2.2.1 (hts _ w1) (hts _ w2) (hts _ w3) (hts _ w4) (by rw [e1]; exact hfr) (by rw [e2]; exact hlo) (by omega) (by omega) d ?_
  have w := k H locs q1 q2 q3 q4
  have h9 := iv_lt hx hy
  by_cases h : x < y
  · rw [if_pos h] at w
    rw [if_pos (h9.mpr h)]
    exact w
  · rw [if_neg h] at w
    rw [if_neg (fun z => h (h9.mp z))]
    exact w
theorem j_min (C : hp_C p l e R s m args below meth c b D dA S0 own cc nL fr lo) {idx : Nat} {x y : Int} (d : decode cc pc = .ok (.invokestatic idx, 3)) (hx : inR x) (hy : inR y) (w1 : Cond.methodLink own idx Lib.Math.min.name ∈ hp_ws) (w2 : Cond.static Lib.Math.min.name ∈ hp_ws) (w3 : Cond.initialized "java/lang/Math" ∈ hp_ws) (w4 : Cond.code Lib.Math.min.name Lib.Math.min.code 2 (some .int) ∈ hp_ws) (hls : ls.size = nL) (hfr : 1 ≤ fr) (hlo : (st.map fun v => v.category).sum + 13 ≤ lo) (k : hp_J p l e R s m args below meth c b D dA S0 Q S (pc + 3) ls (iv (if y < x then y else x) :: st)) : hp_J p l e R s m args below meth c b D dA S0 Q S pc ls (iv y :: iv x :: st) := by
  have e1 : R.frames = fr := C.2.2.2.2.2.2.2.2.2.2.2.1
  have e2 : R.locals = lo := C.2.2.2.2.2.2.2.2.2.2.2.2
  have hts := C.2.2.2.2.1
  intro H locs q1 q2 q3 q4
  have hR9 := hp_room C q3
  refine va_mmin C.1 C.2.1 (C.2.2.1.trans hls.symm) C.2.2.2.1 (hts _ w1) (hts _ w2) (hts _ w3) (hts _ w4) (by rw [e1]; exact hfr) (by rw [e2]; exact hlo) (by omega) (by omega) d ?_
  have w := k H locs q1 q2 q3 q4
  have h9 := iv_lt hy hx
  by_cases h : y < x
  · rw [if_pos h] at w
    rw [if_pos (h9.mpr h)]
    exact w
  · rw [if_neg h] at w
    rw [if_neg (fun z => h (h9.mp z))]
    exact w
end J
end
section
/-- locals that hold these values, none of them of two words -/
def hp_L (ls : Array Slot) (nL : Nat) (lv : List (Nat × Value)) : Prop := lv_has ls nL lv ∧ ∀ q ∈ lv, q.2.category = 1
theorem hp_L.at {ls : Array Slot} {nL : Nat} {lv : List (Nat × Value)} (h : hp_L ls nL lv) (k : Nat) {i : Nat} {v : Value} (hk9 : lv[k]? = some (i, v)) : ls[i]? = some (.val v) := lv_at h.1 k hk9
theorem hp_L.sub {ls : Array Slot} {nL : Nat} {lv lv' : List (Nat × Value)} (h : hp_L ls nL lv) (ks : List Nat) (hs : ks.filterMap (fun i => lv[i]?) = lv') : hp_L ls nL lv' := by
  have hm : ∀ q ∈ lv', q ∈ lv := fun q hq => by
    rw [← hs] at hq
    obtain ⟨i, -, hi⟩ := List.mem_filterMap.mp hq
    exact List.mem_of_getElem? hi
  exact ⟨⟨h.1.1, h.1.2.1, fun q hq => h.1.2.2 q (hm q hq)⟩, fun q hq => h.2 q (hm q hq)⟩
theorem hp_L.put {ls ls' : Array Slot} {nL i : Nat} {v : Value} {lv lv' : List (Nat × Value)} (h : hp_L ls nL lv) (hv : v.category = 1) (hl : (i, v) :: lv.filter (fun q => !(q.1 == i)) = lv') : (i, v) :: lv.filter (fun q => !(q.1 == i) && !(q.1 + 1 == i && q.2.category == 2)) = lv' ∧ (lv_has ls' nL lv' → hp_L ls' nL lv') := by
  have e : lv.filter (fun q => !(q.1 == i) && !(q.1 + 1 == i && q.2.category == 2)) = lv.filter (fun q => !(q.1 == i)) := by
    apply List.filter_congr
    intro q hq
    rw [h.2 q hq]
    simp
  refine ⟨by rw [e]; exact hl, fun h9 => ⟨h9, fun q hq => ?_⟩⟩
  rw [← hl] at hq
  rcases List.mem_cons.mp hq with rfl | hq
  · exact hv
  · exact h.2 q (List.mem_filter.mp hq).1
theorem hp_L.of {ls : Array Slot} {nL : Nat} {As : List Value} (h : lv_has ls nL (lv1 0 As)) (hcat : ∀ v ∈ As, v.category = 1) : hp_L ls nL (lv1 0 As) := by
  refine ⟨h, ?_⟩
  have : ∀ (vs : List Value) (i : Nat), (∀ v ∈ vs, v.category = 1) → ∀ q ∈ lv1 i vs, q.2.category = 1 := by
    intro vs
    induction vs with
    | nil => intro i _ q hq; cases hq
    | cons v vs ih =>
      intro i hv q hq
      rcases List.mem_cons.mp hq with rfl | hq
      · exact hv v List.mem_cons_self
      · exact ih (i + 1) (fun w hw => hv w (List.mem_cons_of_mem _ hw)) q hq
  exact this As 0 hcat
def gd (c : Bool) (x : Option RS) : Option RS := if c = true then x else none
theorem gd_some {c : Bool} {x : Option RS} {q : RS} (h : gd c x = some q) : c = true ∧ x = some q := by
  unfold gd at h
  split at h
  · exact ⟨by assumption, h⟩
  · cases h
theorem bd {α β : Type} {x : Option α} {f : α → Option β} {q : β} (h : x.bind f = some q) : ∃ v, x = some v ∧ f v = some q := Option.bind_eq_some_iff.mp h
section J
variable {p : Program} {l : Launch} {e : Env} {R : Room} {s : State} {m : MethodId} {args : Array Value} {below : List Frame} {meth : Method} {c : Code}
variable {b : Nat} {D : va_G} {dA : Nat → ClassId} {S0 S S' : AS} {Q : State → Prop} {own : String} {cc : ByteArray} {nL pc fr lo : Nat} {ls : Array Slot} {st : List Value}
theorem k_istore_n (C : hp_C p l e R s m args below meth c b D dA S0 own cc nL fr lo) {k9 : Fin 4} {i : Nat} {x : Int} {lv lv' : List (Nat × Value)} (d : decode cc pc = .ok (.istore_n k9, 1)) (hi : (k9 : Nat) = i) (h : hp_L ls nL lv) (hn9 : i < nL) (hl : (i, iv x) :: lv.filter (fun q => !(q.1 == i)) = lv') (k : ∀ ls' : Array Slot, hp_L ls' nL lv' → hp_J p l e R s m args below meth c b D dA S0 Q S (pc + 1) ls' st) : hp_J p l e R s m args below meth c b D dA S0 Q S pc ls (iv x :: st) :=
  j_istore_n C d hi h.1 hn9 (h.put (ls' := ls) (cat_iv x) hl).1 (fun ls' h' => k ls' ((h.put (cat_iv x) hl).2 h'))
theorem k_istore (C : hp_C p l e R s m args below meth c b D dA S0 own cc nL fr lo) {i : Nat} {x : Int} {lv lv' : List (Nat × Value)} (d : decode cc pc = .ok (.istore i, 2)) (h : hp_L ls nL lv) (hn9 : i < nL) (hl : (i, iv x) :: lv.filter (fun q => !(q.1 == i)) = lv') (k : ∀ ls' : Array Slot, hp_L ls' nL lv' → hp_J p l e R s m args below meth c b D dA S0 Q S (pc + 2) ls' st) : hp_J p l e R s m args below meth c b D dA S0 Q S pc ls (iv x :: st) :=
  j_istore C d h.1 hn9 (h.put (ls' := ls) (cat_iv x) hl).1 (fun ls' h' => k ls' ((h.put (cat_iv x) hl).2 h'))
theorem k_astore_n (C : hp_C p l e R s m args below meth c b D dA S0 own cc nL fr lo) {k9 : Fin 4} {i : Nat} {x : Option Nat} {lv lv' : List (Nat × Value)} (d : decode cc pc = .ok (.astore_n k9, 1)) (hi : (k9 : Nat) = i) (h : hp_L ls nL lv) (hn9 : i < nL) (hl : (i, rf b x) :: lv.filter (fun q => !(q.1 == i)) = lv') (k : ∀ ls' : Array Slot, hp_L ls' nL lv' → hp_J p l e R s m args below meth c b D dA S0 Q S (pc + 1) ls' st) : hp_J p l e R s m args below meth c b D dA S0 Q S pc ls (rf b x :: st) :=
  j_astore_n C d hi h.1 hn9 (h.put (ls' := ls) (cat_rf b x) hl).1 (fun ls' h' => k ls' ((h.put (cat_rf b x) hl).2 h'))
theorem k_astore (C : hp_C p l e R s m args below meth c b D dA S0 own cc nL fr lo) {i : Nat} {x : Option Nat} {lv lv' : List (Nat × Value)} (d : decode cc pc = .ok (.astore i, 2)) (h : hp_L ls nL lv) (hn9 : i < nL) (hl : (i, rf b x) :: lv.filter (fun q => !(q.1 == i)) = lv') (k : ∀ ls' : Array Slot, hp_L ls' nL lv' → hp_J p l e R s m args below meth c b D dA S0 Q S (pc + 2) ls' st) : hp_J p l e R s m args below meth c b D dA S0 Q S pc ls (rf b x :: st) :=
  j_astore C d h.1 hn9 (h.put (ls' := ls) (cat_rf b x) hl).1 (fun ls' h' => k ls' ((h.put (cat_rf b x) hl).2 h'))
theorem k_iinc (C : hp_C p l e R s m args below meth c b D dA S0 own cc nL fr lo) {i k9 : Nat} {n x z : Int} {lv lv' : List (Nat × Value)} (d : decode cc pc = .ok (.iinc i n, 3)) (h : hp_L ls nL lv) (hk9 : lv[k9]? = some (i, iv x)) (hz : chk (x + n) = some z) (hn9 : i < nL) (hl : (i, iv z) :: lv.filter (fun q => !(q.1 == i)) = lv') (k : inR z → ∀ ls' : Array Slot, hp_L ls' nL lv' → hp_J p l e R s m args below meth c b D dA S0 Q S (pc + 3) ls' st) : hp_J p l e R s m args below meth c b D dA S0 Q S pc ls st :=
  j_iinc C d h.1 hk9 hz hn9 (h.put (ls' := ls) (cat_iv z) hl).1 (fun hr ls' h' => k hr ls' ((h.put (cat_iv z) hl).2 h'))
theorem j_callI (C : hp_C p l e R s m args below meth c b D dA S0 own cc nL fr lo) {v : Int} {r : Option Nat} {S1 : AS} {st0 rest : List Value} (hr : hp_run p l e R s m args below meth c b D dA S0 S pc ls st0 rest 1 ((0, v, r), S1)) (k : inR v → hp_J p l e R s m args below meth c b D dA S0 Q S1 (pc + 3) ls (iv v :: rest)) : hp_J p l e R s m args below meth c b D dA S0 Q S pc ls st0 :=
  j_back C hr rfl (fun h => k (h rfl))
theorem j_callR (C : hp_C p l e R s m args below meth c b D dA S0 own cc nL fr lo) {v : Int} {r : Option Nat} {S1 : AS} {st0 rest : List Value} (hr : hp_run p l e R s m args below meth c b D dA S0 S pc ls st0 rest 2 ((0, v, r), S1)) (k : hp_J p l e R s m args below meth c b D dA S0 Q S1 (pc + 3) ls (rf b r :: rest)) : hp_J p l e R s m args below meth c b D dA S0 Q S pc ls st0 :=
  j_back C hr rfl (fun _ => k)
theorem j_callV (C : hp_C p l e R s m args below meth c b D dA S0 own cc nL fr lo) {x : Int × Option Nat} {S1 : AS} {st0 rest : List Value} (hr : hp_run p l e R s m args below meth c b D dA S0 S pc ls st0 rest 0 ((0, x), S1)) (k : hp_J p l e R s m args below meth c b D dA S0 Q S1 (pc + 3) ls rest) : hp_J p l e R s m args below meth c b D dA S0 Q S pc ls st0 :=
  j_back C hr rfl (fun _ => k)
theorem run_W (C : hp_C p l e R s m args below meth c b D dA S0 own cc nL fr lo) {y : MethodName} {cc' : ByteArray} {maxL n idx fr' lo' rk ci : Nat} {r : Option Nat} {ret : Option FieldType} {As rest : List Value} {q : RS} (hM : hp_M l b D dA y cc' maxL ret fr' lo' (rf b r :: As) S rk q) (hc : cv_ok own idx y cc' maxL n ret) (hci : ci < 7) (hcls : y.cls = RC ci) (ha : isK S r (ci + 1) = true) {lv9 : List (Nat × Value)} (hn9 : As.length = n) (hls : hp_L ls nL lv9) (hW : (rest.map fun v => v.category).sum ≤ 8) (hfr : fr' + 1 ≤ fr) (hlo : 8 + (maxL + 11) + lo' ≤ lo) (d : decode cc pc = .ok (.invokevirtual idx, 3)) :
    hp_run p l e R s m args below meth c b D dA S0 S pc ls (As.reverse ++ rf b r :: rest) rest rk q := by
  obtain ⟨a, rfl, ha9⟩ := isK_some ha
  exact run_V C hM hc hci hcls ha9 hn9 hls.1.1 hW hfr hlo d
theorem tw_of {L : List Cond} (h1 : ∀ w ∈ L.filter goodWord, w ∈ lw_tbl) (h2 : ∀ w ∈ L.filter (fun w => !goodWord w), w ∈ hp_bad) : ∀ w ∈ L, w ∈ hp_ws ∨ w ∈ hp_bad := fun w hw => by
  by_cases hg : goodWord w = true
  · exact Or.inl (hp_in (h1 w (List.mem_filter.mpr ⟨hw, hg⟩)) hg)
  · exact Or.inr (h2 w (List.mem_filter.mpr ⟨hw, by simpa using hg⟩))
theorem mw (i : Nat) {w : Cond} (h : lw_tbl[i]? = some w ∧ goodWord w = true) : w ∈ hp_ws := hp_in (List.mem_of_getElem? h.1) h.2
end J
end
section
theorem kl_same : Cond.sameMethod "[I" "java/lang/Object" "clone" "()Ljava/lang/Object;" ∈ hp_ws := mw 415 (by decide +kernel)
theorem kl_nat : Cond.native ⟨"java/lang/Object", "clone", "()Ljava/lang/Object;"⟩ ∈ hp_ws := mw 416 (by decide +kernel)
theorem kl_inst : Cond.instanceMethod ⟨"java/lang/Object", "clone", "()Ljava/lang/Object;"⟩ ∈ hp_ws := mw 417 (by decide +kernel)
theorem kl_sel : Cond.selects "[I" ⟨"[I", "clone", "()Ljava/lang/Object;"⟩ ⟨"java/lang/Object", "clone", "()Ljava/lang/Object;"⟩ ∈ hp_ws := mw 418 (by decide +kernel)
theorem hp_over {A : Array Value} {U : State} (h : (Cond.arrayOver (.array .int)).before A U = true) : ∃ comp c k, U.vm.findClass "[I" = some comp ∧ (U.vm.classes.findIdx? fun x => match x.kind with | .array component _ => component == comp | _ => false) = some c ∧ U.vm.classes[c]? = some k ∧ k.kind = .array comp (.array .int) ∧ U.vm.findClass "[[I" = some c := by
  obtain ⟨comp, c, k, h1, h2, h3, h4, h5⟩ := arrayOverA_spec h
  exact ⟨comp, c, k, h1, h2, h3, h4, h5⟩
/-! the rest of the instructions that the class uses -/
def dvI (x y : Int) : Option Int := if 0 ≤ x ∧ 0 < y then some (x / y) else none
def rmI (x y : Int) : Option Int := if 0 ≤ x ∧ 0 < y then some (x % y) else none
/-- a call that doesn't throw -/
def cM (c : Option RS) (k : Int → AS → Option RS) : Option RS := c.bind fun q => if q.1.1 = 0 then k q.1.2.1 q.2 else none
theorem cM_some {c : Option RS} {k : Int → AS → Option RS} {q : RS} (h : cM c k = some q) : ∃ S' v r, c = some ((0, v, r), S') ∧ k v S' = some q := by
  cases c with
  | none => simp [cM] at h
  | some y =>
    obtain ⟨⟨e, v, r⟩, S'⟩ := y
    simp only [cM, Option.bind_some] at h
    by_cases he : e = 0
    · subst he
      rw [if_pos rfl] at h
      exact ⟨S', v, r, rfl, h⟩
    · rw [if_neg he] at h
      cases h
def wC (S : AS) (a d sp dp n : Nat) : AS := (hn S, hu S, hk S, hl S, (fun x j => if x = d ∧ dp ≤ j ∧ j < dp + n then hI S a (sp + (j - dp)) else hI S x j), hR S)
theorem hn_wC (S : AS) (a d sp dp n : Nat) : hn (wC S a d sp dp n) = hn S := rfl
theorem hu_wC (S : AS) (a d sp dp n : Nat) : hu (wC S a d sp dp n) = hu S := rfl
theorem hk_wC (S : AS) (a d sp dp n : Nat) : hk (wC S a d sp dp n) = hk S := rfl
theorem hl_wC (S : AS) (a d sp dp n : Nat) : hl (wC S a d sp dp n) = hl S := rfl
theorem hR_wC (S : AS) (a d sp dp n : Nat) : hR (wC S a d sp dp n) = hR S := rfl
theorem hI_wC (S : AS) (a d sp dp n x j : Nat) : hI (wC S a d sp dp n) x j = if x = d ∧ dp ≤ j ∧ j < dp + n then hI S a (sp + (j - dp)) else hI S x j := rfl
def cpy (S : AS) (src : Option Nat) (sp : Int) (dst : Option Nat) (dp n : Int) (kd : Nat) : Option AS := match src, dst with
  | some a, some d => if hk S a = kd ∧ hk S d = kd ∧ 0 ≤ sp ∧ 0 ≤ dp ∧ 0 ≤ n ∧ sp + n ≤ hl S a ∧ dp + n ≤ hl S d then some (wC S a d sp.toNat dp.toNat n.toNat) else none
  | _, _ => none
theorem cpy_some {S S' : AS} {src dst : Option Nat} {sp dp n : Int} {kd : Nat} (h : cpy S src sp dst dp n kd = some S') : ∃ a d, src = some a ∧ dst = some d ∧ hk S a = kd ∧ hk S d = kd ∧ 0 ≤ sp ∧ 0 ≤ dp ∧ 0 ≤ n ∧ sp + n ≤ hl S a ∧ dp + n ≤ hl S d ∧ S' = wC S a d sp.toNat dp.toNat n.toNat := by
  cases src with
  | none => simp [cpy] at h
  | some a =>
    cases dst with
    | none => simp [cpy] at h
    | some d =>
      simp only [cpy] at h
      split at h
      · rename_i q
        exact ⟨a, d, rfl, rfl, q.1, q.2.1, q.2.2.1, q.2.2.2.1, q.2.2.2.2.1, q.2.2.2.2.2.1, q.2.2.2.2.2.2, (Option.some.inj h).symm⟩
      · cases h
def wK (S : AS) (a : Nat) : AS := (hn S + 1, hu S + hl S a, (fun b => if b = hn S then 8 else hk S b), (fun b => if b = hn S then hl S a else hl S b), (fun b j => if b = hn S then hI S a j else hI S b j), (fun b j => if b = hn S then none else hR S b j))
theorem hn_wK (S : AS) (a : Nat) : hn (wK S a) = hn S + 1 := rfl
theorem hu_wK (S : AS) (a : Nat) : hu (wK S a) = hu S + hl S a := rfl
theorem hk_wK (S : AS) (a b : Nat) : hk (wK S a) b = if b = hn S then 8 else hk S b := rfl
theorem hl_wK (S : AS) (a b : Nat) : hl (wK S a) b = if b = hn S then hl S a else hl S b := rfl
theorem hI_wK (S : AS) (a b j : Nat) : hI (wK S a) b j = if b = hn S then hI S a j else hI S b j := rfl
theorem hR_wK (S : AS) (a b j : Nat) : hR (wK S a) b j = if b = hn S then none else hR S b j := rfl
def kln (S : AS) (r : Option Nat) : Option AS := match r with
  | some a => if hk S a = 8 ∧ hn S < CM ∧ hu S + hl S a ≤ UM then some (wK S a) else none
  | none => none
theorem kln_some {S S' : AS} {r : Option Nat} (h : kln S r = some S') : ∃ a, r = some a ∧ hk S a = 8 ∧ hn S < CM ∧ hu S + hl S a ≤ UM ∧ S' = wK S a := by
  cases r with
  | none => simp [kln] at h
  | some a =>
    simp only [kln] at h
    split at h
    · rename_i q
      exact ⟨a, rfl, q.1, q.2.1, q.2.2, (Option.some.inj h).symm⟩
    · cases h
theorem hp_R.cloned {b : Nat} {D : va_G} {dA : Nat → ClassId} {S : AS} {H H' : Heap} (h : hp_R b D dA S H) {a : Nat} (ha : hk S a = 8) (e : H'[H.size]? = some (arrV (dA 8) (hl S a) (fun j => av b 8 (hI S a j) (hR S a j)))) (z : H'.size = H.size + 1) (o : ∀ q, q < H.size → H'[q]? = H[q]?) : hp_R b D dA (wK S a) H' := by
  obtain ⟨h1, h2, h3, h4, h5⟩ := h
  refine ⟨by rw [z, h1, hn_wK]; omega, ?_, fun y hy => ?_, fun y k => ?_, fun y k hy => ?_⟩
  · rw [hp_sum_push (by omega) z o e, h2, arrV_size, hu_wK]
  · rw [hk_wK] at hy
    rw [hk_wK, hl_wK, hn_wK]
    by_cases hq : y = hn S
    · subst hq
      rw [if_pos rfl, if_pos rfl, ← h1]
      refine ⟨by omega, by decide, (hp_e_arr (by decide)).mpr ?_⟩
      rw [e]
      congr 2
      funext j
      rw [hI_wK, if_pos rfl]
      rfl
    · rw [if_neg hq] at hy ⊢
      obtain ⟨q1, q2, q3⟩ := h3 y hy
      have eI : hI (wK S a) y = hI S y := by funext j; rw [hI_wK, if_neg hq]
      have eR : hR (wK S a) y = hR S y := by funext j; rw [hR_wK, if_neg hq]
      rw [if_neg hq, eI, eR]
      exact ⟨by omega, q2, q3.kept (o (b + y) (by omega))⟩
  · rw [hI_wK]
    split
    · exact h4 a k
    · exact h4 y k
  · rw [hk_wK] at hy
    rw [hI_wK]
    split
    · rename_i hq
      rw [if_pos hq] at hy
      cases hy
    · rename_i hq
      rw [if_neg hq] at hy
      exact h5 y k hy
section J
variable {p : Program} {l : Launch} {e : Env} {R : Room} {s : State} {m : MethodId} {args : Array Value} {below : List Frame} {meth : Method} {c : Code}
variable {b : Nat} {D : va_G} {dA : Nat → ClassId} {S0 S S' : AS} {Q : State → Prop} {own : String} {cc : ByteArray} {nL pc fr lo : Nat} {ls : Array Slot} {st : List Value}
theorem j_tabIn (C : hp_C p l e R s m args below meth c b D dA S0 own cc nL fr lo) {dflt lo9 hi9 : Int} {offs : Array Int} {len tgt : Nat} {off x v : Int} (d : decode cc pc = .ok (.tableswitch dflt lo9 hi9 offs, len)) (hx : inR x) (hb : x = v) (h1 : ¬ v < lo9) (h2 : ¬ hi9 < v) (ho : offs[(v - lo9).toNat]? = some off) (ht : (pc : Int) + off = (tgt : Int)) (k : hp_J p l e R s m args below meth c b D dA S0 Q S tgt ls st) : hp_J p l e R s m args below meth c b D dA S0 Q S pc ls (iv x :: st) := by
  subst hb
  have e1 := iv_toInt hx
  exact j_of (fun _ _ _ _ h => lv_tableIn C.1 C.2.1 d (by rw [e1]; exact h1) (by rw [e1]; exact h2) (by rw [e1]; exact ho) ht h) k
theorem j_tabOut (C : hp_C p l e R s m args below meth c b D dA S0 own cc nL fr lo) {dflt lo9 hi9 : Int} {offs : Array Int} {len tgt : Nat} {x : Int} (d : decode cc pc = .ok (.tableswitch dflt lo9 hi9 offs, len)) (hx : inR x) (h : x < lo9 ∨ hi9 < x) (ht : (pc : Int) + dflt = (tgt : Int)) (k : hp_J p l e R s m args below meth c b D dA S0 Q S tgt ls st) : hp_J p l e R s m args below meth c b D dA S0 Q S pc ls (iv x :: st) := by
  have e1 := iv_toInt hx
  exact j_of (fun _ _ _ _ h9 => lv_tableOut C.1 C.2.1 d (by rw [e1]; exact h) ht h9) k
theorem j_idiv (C : hp_C p l e R s m args below meth c b D dA S0 own cc nL fr lo) {x y z : Int} (d : decode cc pc = .ok (.idiv, 1)) (hx : inR x) (hy : inR y) (hz : dvI x y = some z) (k : inR z → hp_J p l e R s m args below meth c b D dA S0 Q S (pc + 1) ls (iv z :: st)) : hp_J p l e R s m args below meth c b D dA S0 Q S pc ls (iv y :: iv x :: st) := by
  unfold dvI at hz
  split at hz
  · rename_i g
    cases hz
    have h1 : 0 ≤ x / y := Int.ediv_nonneg g.1 (by omega)
    have h2 : x / y ≤ x := Int.ediv_le_self y g.1
    have hr : inR (x / y) := by omega
    have e : Int32.ofInt x / Int32.ofInt y = Int32.ofInt (x / y) := Int32.toInt_inj.mp (by
      rw [iv_toInt hr, lg_idiv_nonneg (by rw [iv_toInt hx]; exact g.1) (by rw [iv_toInt hy]; exact g.2), iv_toInt hx, iv_toInt hy])
    refine j_of (fun _ _ _ _ h => lv_idiv C.1 C.2.1 d (fun h9 => ?_) (by rw [e]; exact h)) (k hr)
    rw [iv_z] at h9
    have := (iv_inj hy (by decide)).mp h9
    omega
  · cases hz
theorem j_irem (C : hp_C p l e R s m args below meth c b D dA S0 own cc nL fr lo) {x y z : Int} (d : decode cc pc = .ok (.irem, 1)) (hx : inR x) (hy : inR y) (hz : rmI x y = some z) (k : inR z → hp_J p l e R s m args below meth c b D dA S0 Q S (pc + 1) ls (iv z :: st)) : hp_J p l e R s m args below meth c b D dA S0 Q S pc ls (iv y :: iv x :: st) := by
  unfold rmI at hz
  split at hz
  · rename_i g
    cases hz
    have h1 : 0 ≤ x % y := Int.emod_nonneg x (by omega)
    have h2 : x % y < y := Int.emod_lt_of_pos x g.2
    have hr : inR (x % y) := by omega
    have e : Int32.ofInt x - Int32.ofInt x / Int32.ofInt y * Int32.ofInt y = Int32.ofInt (x % y) := Int32.toInt_inj.mp (by
      rw [iv_toInt hr, rem_toInt, iv_toInt hx, iv_toInt hy]
      exact Int.tmod_eq_emod_of_nonneg g.1)
    refine j_of (fun _ _ _ _ h => lv_irem C.1 C.2.1 d (fun h9 => ?_) (by rw [e]; exact h)) (k hr)
    rw [iv_z] at h9
    have := (iv_inj hy (by decide)).mp h9
    omega
  · cases hz
theorem j_castA (C : hp_C p l e R s m args below meth c b D dA S0 own cc nL fr lo) {idx : Nat} {r : Option Nat} (d : decode cc pc = .ok (.checkcast idx, 3)) (w1 : Cond.classLink own idx "[I" ∈ hp_ws) (ha : isK S r 8 = true) (k : hp_J p l e R s m args below meth c b D dA S0 Q S (pc + 3) ls (rf b r :: st)) : hp_J p l e R s m args below meth c b D dA S0 Q S pc ls (rf b r :: st) := by
  obtain ⟨a, rfl, ha9⟩ := isK_some ha
  intro H locs q1 q2 q3 q4 T hT X
  obtain ⟨vm', X', stp⟩ := X.checkcastYes C.1 C.2.2.2.1 (C.2.2.2.2.1 _ w1) (by rw [hT]; exact q1.arr (by decide) ha9) rfl (hp_nmA C (Or.inl ⟨rfl, rfl⟩)) (va_asg _ _) (g := F0 m pc ls (.ref (b + a) :: st)) rfl rfl (by rw [C.2.1]; exact d)
  obtain ⟨t, a1, b1⟩ := k H locs q1 q2 q3 q4 (T.setVm vm') hT X'
  exact ⟨t, stp t a1, b1⟩
/-- an array of ints into an array of such -/
theorem j_aastA (C : hp_C p l e R s m args below meth c b D dA S0 own cc nL fr lo) {r v : Option Nat} {i : Int} (d : decode cc pc = .ok (.aastore, 1)) (hi : inR i) (hg : sR S r 12 i v = some S') (k : hp_J p l e R s m args below meth c b D dA S0 Q S' (pc + 1) ls st) : hp_J p l e R s m args below meth c b D dA S0 Q S pc ls (rf b v :: iv i :: rf b r :: st) := by
  obtain ⟨a, w, rfl, rfl, ha, h0, h1, hw, rfl⟩ := sR_some hg
  intro H locs q1 q2 q3 q4
  have hin := iv_in hi h0 h1
  have hA := hp_aro C.2.2.2.2.2.1.1
  obtain ⟨-, kA, hkA, comp, hkind⟩ := hA.2.2.2.2.1 0 (fun _ => .null)
  obtain ⟨-, kB, hkB, comp8, hkind8⟩ := hA.1 0 (fun _ => .null)
  have hover := C.2.2.2.2.2.1.2.2.2.2.1 args
  obtain ⟨c9, cA9, k9, h9a, h9b, h9c, h9d, h9e⟩ := hp_over hover
  have e12 : cA9 = dA 12 := Option.some.inj (h9e.symm.trans (hp_nmA C (Or.inr (Or.inr (Or.inr ⟨rfl, rfl⟩)))))
  subst e12
  have e8 : c9 = dA 8 := Option.some.inj (h9a.symm.trans (hp_nmA C (Or.inl ⟨rfl, rfl⟩)))
  subst e8
  refine W.aast C.1 C.2.1 (q1.arr (by decide) ha) (fun q h => by cases h) (fun h => by cases h) h9c h9d rfl hkB ⟨fun q => hin (Or.inl q), by rw [arrV_size]; exact Nat.not_le.mp fun q => hin (Or.inr q)⟩ (q1.arr (by decide) hw) (fun q h => by cases h) hkB (va_asg _ _) rfl rfl d fun H' e1 e2 e3 => ?_
  rw [iv_clamp hi] at e1
  exact j_put2 (S' := wR S a i.toNat (some w)) (by decide) ha rfl rfl rfl rfl (fun _ _ _ => rfl) (fun x j h => by rw [hR_wR, if_neg (by omega)]) (by rw [hR_wR, if_pos ⟨rfl, rfl⟩]; rfl) id (fun h => by cases h) k q1 q2 q3 q4 H' _ e1 e2 e3
theorem j_clone (C : hp_C p l e R s m args below meth c b D dA S0 own cc nL fr lo) {idx : Nat} {r : Option Nat} (d : decode cc pc = .ok (.invokevirtual idx, 3)) (w1 : Cond.methodLink own idx ⟨"[I", "clone", "()Ljava/lang/Object;"⟩ ∈ hp_ws) (hls : ls.size = nL) (hfr : 1 ≤ fr) (hlo : (st.map fun v => v.category).sum + 14 ≤ lo) (hg : kln S r = some S') (k : hp_J p l e R s m args below meth c b D dA S0 Q S' (pc + 3) ls (rf b (some (hn S)) :: st)) : hp_J p l e R s m args below meth c b D dA S0 Q S pc ls (rf b r :: st) := by
  obtain ⟨a, rfl, ha, g1, g2, rfl⟩ := kln_some hg
  intro H locs q1 q2 q3 q4 T hT X
  have hsz : H.size = b + hn S := q1.1
  have e1 : R.frames = fr := C.2.2.2.2.2.2.2.2.2.2.2.1
  have e2 : R.locals = lo := C.2.2.2.2.2.2.2.2.2.2.2.2
  have hRc := C.2.2.2.2.2.2.2.1
  have hRs := C.2.2.2.2.2.2.2.2.1
  have hts := C.2.2.2.2.1
  have q3' : hn S0 ≤ hn S ∧ hn S ≤ CM ∧ hu S0 ≤ hu S ∧ hu S ≤ UM := q3
  have hcell := q1.arr (by decide) ha
  have hnm : s.vm.findClass "[I" = some (dA 8) := hp_nmA C (Or.inl ⟨rfl, rfl⟩)
  obtain ⟨c0, t0', f1, f2, f3⟩ := Cond.castable_spec (va_Nw.use (A := args) rfl (C.2.2.2.2.2.1.2.1 (.castable "[I" "java/lang/Cloneable") (by decide +kernel)))
  cases hnm.symm.trans f1
  have hA := (hp_aro C.2.2.2.2.2.1.1).1
  obtain ⟨-, kA, hkA, comp, hkind⟩ := State.isArrayOf_alike X.warmed.alike (hA 0 (fun _ => .null))
  obtain ⟨-, kS, hkS, compS, hkindS⟩ := hA 0 (fun _ => .null)
  obtain ⟨vm', X', stp⟩ := X.cloneArray C.1 C.2.2.2.1 (hts _ w1) (hts _ kl_same) (hts _ kl_nat) (hts _ kl_inst) (hts _ kl_sel) (a := b + a) (cell := arrV (dA 8) (hl S a) (fun j => av b 8 (hI S a j) (hR S a j))) (by rw [hT]; exact hcell) (fun k h => by cases h) (fun h => by cases h) hnm f2 f3
    (fun i v hv => by
      have hk' : T.vm.classes[dA 8]? = some kA := hkA
      have hv' : (arrV (dA 8) (hl S a) (fun j => av b 8 (hI S a j) (hR S a j))).slots[i]? = some v := hv
      have hf := va_fit (ty := .int) (fun i _ => rfl) i v hv'
      have : (arrV (dA 8) (hl S a) (fun j => av b 8 (hI S a j) (hR S a j))).cls = dA 8 := rfl
      simpa [State.fitsSlot, State.slotType?, this, hk', hkind] using hf)
    (g := F0 m pc ls (.ref (b + a) :: st)) rfl (hls.trans C.2.2.1.symm) rfl (by rw [C.2.1]; exact d) (by rw [e1]; exact hfr) (by rw [e2]; show 2 * 0 + _ + 14 ≤ _; omega) (by rw [hRc]; omega) (by rw [hRs]; show _ + (arrV _ _ _).slots.size ≤ _; rw [arrV_size]; omega) (hloader := Vm.clonesLoader_of_array hkS hkindS)
  generalize hH1 : H.push (arrV (dA 8) (hl S a) (fun j => av b 8 (hI S a j) (hR S a j))) = H1
  have z1 : H1.size = H.size + 1 := by rw [← hH1, Array.size_push]
  have x1 : H1[H.size]? = some (arrV (dA 8) (hl S a) (fun j => av b 8 (hI S a j) (hR S a j))) := by rw [← hH1, Array.getElem?_push_size]
  have o1 : ∀ q : Nat, q < H.size → H1[q]? = H[q]? := fun q hq => by rw [← hH1, Array.getElem?_push, if_neg (Nat.ne_of_lt hq)]
  have w := k H1 locs (q1.cloned ha x1 z1 o1) q2 (hp_B.grow (n := 1) (u := hl S a) q3 rfl rfl (by omega) g2) (fun x hx => (o1 x (by omega)).trans (q4 x hx))
  rw [hn_wK, hu_wK, show hn S + 1 - hn S0 = hn S - hn S0 + 1 by omega, show hu S + hl S a - hu S0 = hu S - hu S0 + hl S a by omega] at w
  obtain ⟨t, a1, b1⟩ := w ((T.setVm vm').pushCell (arrV (dA 8) (hl S a) (fun j => av b 8 (hI S a j) (hR S a j)))) (by rw [← hH1, ← hT]; rfl) (by
    have := X'
    rw [show (arrV (dA 8) (hl S a) (fun j => av b 8 (hI S a j) (hR S a j))).slots.size = hl S a from arrV_size _ _ _] at this
    exact this)
  refine ⟨t, stp t ?_, b1⟩
  rw [show T.heap.size = b + hn S by rw [hT]; exact hsz]
  exact a1
theorem j_copy (C : hp_C p l e R s m args below meth c b D dA S0 own cc nL fr lo) {idx kd : Nat} {src dst : Option Nat} {sp dp n : Int} (d : decode cc pc = .ok (.invokestatic idx, 3)) (hkd : kd = 8 ∨ kd = 9) (hsp : inR sp) (hdp : inR dp) (hn9 : inR n) (w1 : Cond.methodLink own idx arraycopyName ∈ hp_ws) (w2 : Cond.native arraycopyName ∈ hp_ws) (w3 : Cond.static arraycopyName ∈ hp_ws) (w4 : Cond.initialized "java/lang/System" ∈ hp_ws) (hls : ls.size = nL) (hfr : 1 ≤ fr) (hlo : (st.map fun v => v.category).sum + 60 ≤ lo) (hg : cpy S src sp dst dp n kd = some S') (k : hp_J p l e R s m args below meth c b D dA S0 Q S' (pc + 3) ls st) : hp_J p l e R s m args below meth c b D dA S0 Q S pc ls (iv n :: iv dp :: rf b dst :: iv sp :: rf b src :: st) := by
  obtain ⟨a0, a, rfl, rfl, ha0, ha, g1, g2, g3, g4, g5, rfl⟩ := cpy_some hg
  intro H locs q1 q2 q3 q4 T hT X
  have e1 : R.frames = fr := C.2.2.2.2.2.2.2.2.2.2.2.1
  have e2 : R.locals = lo := C.2.2.2.2.2.2.2.2.2.2.2.2
  have hts := C.2.2.2.2.1
  have q3' : hn S0 ≤ hn S ∧ hn S ≤ CM ∧ hu S0 ≤ hu S ∧ hu S ≤ UM := q3
  have hc0 := q1.arr (by omega) ha0
  have hc1 := q1.arr (by omega) ha
  have hA := hp_aro C.2.2.2.2.2.1.1
  obtain ⟨ty, hty, hAr⟩ : ∃ ty : FieldType, ((kd = 8 ∧ ty = .int) ∨ (kd = 9 ∧ ty = .boolean)) ∧ ArrOfT s (dA kd) ty := by
    rcases hkd with rfl | rfl
    · exact ⟨.int, Or.inl ⟨rfl, rfl⟩, hA.1⟩
    · exact ⟨.boolean, Or.inr ⟨rfl, rfl⟩, hA.2.1⟩
  obtain ⟨-, k0, hk0, cm0, hkk0⟩ := hAr 0 (fun _ => .null)
  have ef : ∀ x j, av b kd (hI S x j) (hR S x j) = iv (hI S x j) := fun x j => by unfold av; rw [if_pos (by omega)]
  have nn : ∀ z : Int, inR z → 0 ≤ z → ¬ Int32.ofInt z < 0 := fun z hz h0 h => by
    rw [iv_z] at h
    have := (iv_lt hz (by decide)).mp h
    omega
  have c1 : (Int32.ofInt sp).toNatClampNeg = sp.toNat := iv_clamp hsp
  have c2 : (Int32.ofInt dp).toNatClampNeg = dp.toNat := iv_clamp hdp
  have c3 : (Int32.ofInt n).toNatClampNeg = n.toNat := iv_clamp hn9
  have hprim : refKind ty = false := by rcases hty with ⟨-, rfl⟩ | ⟨-, rfl⟩ <;> rfl
  obtain ⟨vm', X', stp⟩ := X.arraycopy C.1 C.2.2.2.1 (hts _ w1) (hts _ w2) (hts _ w3) (hts _ w4) (src := b + a0) (dst := b + a) (cs := arrV (dA kd) (hl S a0) (fun j => av b kd (hI S a0 j) (hR S a0 j))) (cd := arrV (dA kd) (hl S a) (fun j => av b kd (hI S a j) (hR S a j))) (srcPos := Int32.ofInt sp) (destPos := Int32.ofInt dp) (n := Int32.ofInt n) (by rw [hT]; exact hc0) (by rw [hT]; exact hc1)
    (fun _ h => by cases h) (fun _ h => by cases h) (fun h => by cases h) (fun h => by cases h) hk0 hk0 hkk0 hkk0 (by simp [hprim]) (nn sp hsp g1) (nn dp hdp g2) (nn n hn9 g3)
    (by rw [iv_toInt hsp, iv_toInt hn9, arrV_size]; omega)
    (by rw [iv_toInt hdp, iv_toInt hn9, arrV_size]; omega)
    (fun vm₁ _ i hi => by
      rw [c3] at hi
      have e : (arrV (dA kd) (hl S a0) (fun j => av b kd (hI S a0 j) (hR S a0 j))).slots.getD ((Int32.ofInt sp).toNatClampNeg + i) .null = iv (hI S a0 (sp.toNat + i)) := by
        rw [c1, Array.getD_eq_getD_getElem?, arrV_read _ _ (by omega), ← ef]
        rfl
      refine ⟨?_, ?_⟩
      · rw [e]
        rcases hty with ⟨rfl, rfl⟩ | ⟨rfl, rfl⟩
        · rfl
        · rcases q1.2.2.2.2 a0 (sp.toNat + i) ha0 with h | h <;> rw [h] <;> decide
      · rw [e]
        exact trivial)
    (g := F0 m pc ls (iv n :: iv dp :: .ref (b + a) :: iv sp :: .ref (b + a0) :: st)) rfl (hls.trans C.2.2.1.symm) (rest := st) rfl (by rw [C.2.1]; exact d) (by rw [e1]; exact hfr) (by
      rw [e2]
      have : nativeFrameWords "java/lang/System" "arraycopy" 5 + 11 ≤ 60 := by decide +kernel
      show 2 * 0 + _ + _ ≤ _
      omega)
  have e9 : copied (arrV (dA kd) (hl S a0) (fun j => av b kd (hI S a0 j) (hR S a0 j))) (arrV (dA kd) (hl S a) (fun j => av b kd (hI S a j) (hR S a j))) (Int32.ofInt sp) (Int32.ofInt dp) (Int32.ofInt n) = arrV (dA kd) (hl S a) (fun j => av b kd (hI (wC S a0 a sp.toNat dp.toNat n.toNat) a j) (hR (wC S a0 a sp.toNat dp.toNat n.toNat) a j)) := by
    have h9 := va_copied (fun z : Value => z) (dA kd) (dA kd) (n0 := hl S a0) (n1 := hl S a) (sp := sp.toNat) (dp := dp.toNat) (n := n.toNat) (fun j => av b kd (hI S a0 j) (hR S a0 j)) (fun j => av b kd (hI S a j) (hR S a j)) (by omega)
    unfold copied
    rw [c1, c2, c3]
    refine h9.trans ?_
    congr 1
    funext j
    unfold va_cpy
    simp only [ef]
    rw [hI_wC, hR_wC]
    unfold av
    rw [if_pos (show kd ≤ 9 by omega)]
    by_cases hj : dp.toNat ≤ j ∧ j < dp.toNat + n.toNat
    · rw [if_pos hj, if_pos ⟨rfl, hj⟩]
    · rw [if_neg hj, if_neg (fun q => hj q.2)]
  rw [e9] at X' stp
  have hlt : b + a < H.size := (Array.getElem?_eq_some_iff.mp hc1).1
  generalize hN : arrV (dA kd) (hl S a) (fun j => av b kd (hI (wC S a0 a sp.toNat dp.toNat n.toNat) a j) (hR (wC S a0 a sp.toNat dp.toNat n.toNat) a j)) = N at X' stp
  have oq : ∀ q : Nat, q ≠ b + a → (H.setIfInBounds (b + a) N)[q]? = H[q]? := fun q hq => by simp [Array.getElem?_setIfInBounds, Ne.symm hq]
  have eq : (H.setIfInBounds (b + a) N)[b + a]? = some N := by simp [Array.getElem?_setIfInBounds, hlt]
  have hR : hp_R b D dA (wC S a0 a sp.toNat dp.toNat n.toNat) (H.setIfInBounds (b + a) N) := by
    refine q1.upd a rfl rfl rfl rfl (fun x hx => funext fun j => ?_) (fun _ _ => rfl) ?_ (by simp) oq ?_ (fun j => ?_) (fun hz j => ?_)
    · rw [hI_wC, if_neg (fun q => hx q.1)]
    · rw [ha]
      exact (hp_e_arr (by omega)).mpr (by rw [eq, hN])
    · rw [eq, hc1, ← hN]
      simp [arrV_size]
    · rw [hI_wC]
      split
      · exact q1.2.2.2.1 _ _
      · exact q1.2.2.2.1 _ _
    · rw [hI_wC]
      split
      · exact q1.2.2.2.2 _ _ (by omega)
      · exact q1.2.2.2.2 _ _ hz
  have w := fun (L : List Loc) (hL : ∀ z ∈ L, b ≤ z.base) => k (H.setIfInBounds (b + a) N) (locs ++ L) hR (fun z hz => (List.mem_append.mp hz).elim (q2 z) (hL z)) q3 (fun x hx => (oq x (by omega)).trans (q4 x hx))
  obtain ⟨t, a1, b1⟩ := w _ (fun z hz => by
    obtain ⟨z9, -, hz9⟩ := List.mem_map.mp hz
    rw [← hz9]
    exact Nat.le_add_right _ _) ((T.setVm vm').setCell (b + a) N) (by rw [← hT]; rfl) X'
  exact ⟨t, stp t a1, b1⟩
end J
end
