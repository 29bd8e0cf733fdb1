section
-- ===== PART A: goes FIRST, ahead of the names: the tables' words, and 'selects' of the private methods out of them =====
/-- a private method of a class that the tables say can be made, by its rows of tables_1 -/
def lw_okq (q : MethodName × Nat) : Prop := (q.1.cls ≠ "java/lang/invoke/MethodHandle" ∧ q.1.cls ≠ "java/lang/invoke/VarHandle") ∧ Cond.instantiable q.1.cls q.2 ∈ tables_1 ∧ Cond.privateMethod q.1 ∈ tables_1 ∧ Cond.instanceMethod q.1 ∈ tables_1
theorem lw_p0 : lw_okq (⟨"HandleLoans", "tell", "(I)I"⟩, 8) := ⟨⟨by decide +kernel, by decide +kernel⟩, List.mem_of_getElem? (i := 17) (by decide +kernel), List.mem_of_getElem? (i := 212) (by decide +kernel), List.mem_of_getElem? (i := 213) (by decide +kernel)⟩
theorem lw_p1 : lw_okq (⟨"HandleLoans$Handle", "isOpposite", "(I)Z"⟩, 6) := ⟨⟨by decide +kernel, by decide +kernel⟩, List.mem_of_getElem? (i := 32) (by decide +kernel), List.mem_of_getElem? (i := 279) (by decide +kernel), List.mem_of_getElem? (i := 280) (by decide +kernel)⟩
theorem lw_p2 : lw_okq (⟨"HandleLoans$Text", "step", "()V"⟩, 6) := ⟨⟨by decide +kernel, by decide +kernel⟩, List.mem_of_getElem? (i := 130) (by decide +kernel), List.mem_of_getElem? (i := 547) (by decide +kernel), List.mem_of_getElem? (i := 548) (by decide +kernel)⟩
theorem lw_p3 : lw_okq (⟨"HandleLoans$Text", "numberHere", "()I"⟩, 6) := ⟨⟨by decide +kernel, by decide +kernel⟩, List.mem_of_getElem? (i := 130) (by decide +kernel), List.mem_of_getElem? (i := 554) (by decide +kernel), List.mem_of_getElem? (i := 555) (by decide +kernel)⟩
theorem lw_p4 : lw_okq (⟨"HandleLoans$Text", "takeItem", "()Z"⟩, 6) := ⟨⟨by decide +kernel, by decide +kernel⟩, List.mem_of_getElem? (i := 130) (by decide +kernel), List.mem_of_getElem? (i := 559) (by decide +kernel), List.mem_of_getElem? (i := 560) (by decide +kernel)⟩
theorem lw_p5 : lw_okq (⟨"HandleLoans$Text", "namedKind", "()I"⟩, 6) := ⟨⟨by decide +kernel, by decide +kernel⟩, List.mem_of_getElem? (i := 130) (by decide +kernel), List.mem_of_getElem? (i := 563) (by decide +kernel), List.mem_of_getElem? (i := 564) (by decide +kernel)⟩
theorem lw_p6 : lw_okq (⟨"HandleLoans$Text", "isWord", "(Ljava/lang/String;)Z"⟩, 6) := ⟨⟨by decide +kernel, by decide +kernel⟩, List.mem_of_getElem? (i := 130) (by decide +kernel), List.mem_of_getElem? (i := 576) (by decide +kernel), List.mem_of_getElem? (i := 577) (by decide +kernel)⟩
theorem lw_p7 : lw_okq (⟨"HandleLoans$Text", "takeHandle", "(I)Z"⟩, 6) := ⟨⟨by decide +kernel, by decide +kernel⟩, List.mem_of_getElem? (i := 130) (by decide +kernel), List.mem_of_getElem? (i := 628) (by decide +kernel), List.mem_of_getElem? (i := 629) (by decide +kernel)⟩
theorem lw_p8 : lw_okq (⟨"HandleLoans$Text", "takeWord", "(Ljava/lang/String;)Z"⟩, 6) := ⟨⟨by decide +kernel, by decide +kernel⟩, List.mem_of_getElem? (i := 130) (by decide +kernel), List.mem_of_getElem? (i := 634) (by decide +kernel), List.mem_of_getElem? (i := 635) (by decide +kernel)⟩
theorem lw_p9 : lw_okq (⟨"HandleLoans$Text", "takeNumber", "(I)I"⟩, 6) := ⟨⟨by decide +kernel, by decide +kernel⟩, List.mem_of_getElem? (i := 130) (by decide +kernel), List.mem_of_getElem? (i := 638) (by decide +kernel), List.mem_of_getElem? (i := 639) (by decide +kernel)⟩
theorem lw_p10 : lw_okq (⟨"HandleLoans$Text", "takeMember", "()Z"⟩, 6) := ⟨⟨by decide +kernel, by decide +kernel⟩, List.mem_of_getElem? (i := 130) (by decide +kernel), List.mem_of_getElem? (i := 646) (by decide +kernel), List.mem_of_getElem? (i := 647) (by decide +kernel)⟩
theorem lw_p11 : lw_okq (⟨"HandleLoans$Text", "takeLoan", "()Z"⟩, 6) := ⟨⟨by decide +kernel, by decide +kernel⟩, List.mem_of_getElem? (i := 130) (by decide +kernel), List.mem_of_getElem? (i := 654) (by decide +kernel), List.mem_of_getElem? (i := 655) (by decide +kernel)⟩
theorem lw_p12 : lw_okq (⟨"HandleLoansModel", "finds", "(I)I"⟩, 18) := ⟨⟨by decide +kernel, by decide +kernel⟩, List.mem_of_getElem? (i := 734) (by decide +kernel), List.mem_of_getElem? (i := 809) (by decide +kernel), List.mem_of_getElem? (i := 810) (by decide +kernel)⟩
theorem lw_p13 : lw_okq (⟨"HandleLoansModel", "addHandle", "(IIII)V"⟩, 18) := ⟨⟨by decide +kernel, by decide +kernel⟩, List.mem_of_getElem? (i := 734) (by decide +kernel), List.mem_of_getElem? (i := 814) (by decide +kernel), List.mem_of_getElem? (i := 815) (by decide +kernel)⟩
theorem lw_p14 : lw_okq (⟨"HandleLoansModel", "puts", "(III)V"⟩, 18) := ⟨⟨by decide +kernel, by decide +kernel⟩, List.mem_of_getElem? (i := 734) (by decide +kernel), List.mem_of_getElem? (i := 818) (by decide +kernel), List.mem_of_getElem? (i := 819) (by decide +kernel)⟩
theorem lw_p15 : lw_okq (⟨"HandleLoansModel", "isOne", "(I)Z"⟩, 18) := ⟨⟨by decide +kernel, by decide +kernel⟩, List.mem_of_getElem? (i := 734) (by decide +kernel), List.mem_of_getElem? (i := 826) (by decide +kernel), List.mem_of_getElem? (i := 827) (by decide +kernel)⟩
def lw_privs_1 : List (MethodName × Nat) := [(⟨"HandleLoans", "tell", "(I)I"⟩, 8), (⟨"HandleLoans$Handle", "isOpposite", "(I)Z"⟩, 6), (⟨"HandleLoans$Text", "step", "()V"⟩, 6), (⟨"HandleLoans$Text", "numberHere", "()I"⟩, 6), (⟨"HandleLoans$Text", "takeItem", "()Z"⟩, 6), (⟨"HandleLoans$Text", "namedKind", "()I"⟩, 6), (⟨"HandleLoans$Text", "isWord", "(Ljava/lang/String;)Z"⟩, 6), (⟨"HandleLoans$Text", "takeHandle", "(I)Z"⟩, 6), (⟨"HandleLoans$Text", "takeWord", "(Ljava/lang/String;)Z"⟩, 6), (⟨"HandleLoans$Text", "takeNumber", "(I)I"⟩, 6), (⟨"HandleLoans$Text", "takeMember", "()Z"⟩, 6), (⟨"HandleLoans$Text", "takeLoan", "()Z"⟩, 6), (⟨"HandleLoansModel", "finds", "(I)I"⟩, 18), (⟨"HandleLoansModel", "addHandle", "(IIII)V"⟩, 18), (⟨"HandleLoansModel", "puts", "(III)V"⟩, 18), (⟨"HandleLoansModel", "isOne", "(I)Z"⟩, 18)]
theorem lw_r1 : ∀ q ∈ lw_privs_1, lw_okq q := List.forall_mem_cons.mpr ⟨lw_p0, List.forall_mem_cons.mpr ⟨lw_p1, List.forall_mem_cons.mpr ⟨lw_p2, List.forall_mem_cons.mpr ⟨lw_p3, List.forall_mem_cons.mpr ⟨lw_p4, List.forall_mem_cons.mpr ⟨lw_p5, List.forall_mem_cons.mpr ⟨lw_p6, List.forall_mem_cons.mpr ⟨lw_p7, List.forall_mem_cons.mpr ⟨lw_p8, List.forall_mem_cons.mpr ⟨lw_p9, List.forall_mem_cons.mpr ⟨lw_p10, List.forall_mem_cons.mpr ⟨lw_p11, List.forall_mem_cons.mpr ⟨lw_p12, List.forall_mem_cons.mpr ⟨lw_p13, List.forall_mem_cons.mpr ⟨lw_p14, List.forall_mem_cons.mpr ⟨lw_p15, fun _ h => absurd h List.not_mem_nil⟩⟩⟩⟩⟩⟩⟩⟩⟩⟩⟩⟩⟩⟩⟩⟩
theorem lw_p16 : lw_okq (⟨"HandleLoansModel", "isLate", "(I)Z"⟩, 18) := ⟨⟨by decide +kernel, by decide +kernel⟩, List.mem_of_getElem? (i := 734) (by decide +kernel), List.mem_of_getElem? (i := 830) (by decide +kernel), List.mem_of_getElem? (i := 831) (by decide +kernel)⟩
theorem lw_p17 : lw_okq (⟨"HandleLoansModel", "its", "(II)I"⟩, 18) := ⟨⟨by decide +kernel, by decide +kernel⟩, List.mem_of_getElem? (i := 734) (by decide +kernel), List.mem_of_getElem? (i := 834) (by decide +kernel), List.mem_of_getElem? (i := 835) (by decide +kernel)⟩
theorem lw_p18 : lw_okq (⟨"HandleLoansModel", "endOf", "(I)I"⟩, 18) := ⟨⟨by decide +kernel, by decide +kernel⟩, List.mem_of_getElem? (i := 734) (by decide +kernel), List.mem_of_getElem? (i := 838) (by decide +kernel), List.mem_of_getElem? (i := 839) (by decide +kernel)⟩
theorem lw_p19 : lw_okq (⟨"HandleLoansModel", "moved", "(I)I"⟩, 18) := ⟨⟨by decide +kernel, by decide +kernel⟩, List.mem_of_getElem? (i := 734) (by decide +kernel), List.mem_of_getElem? (i := 842) (by decide +kernel), List.mem_of_getElem? (i := 843) (by decide +kernel)⟩
theorem lw_p20 : lw_okq (⟨"HandleLoansModel", "wears", "(I)I"⟩, 18) := ⟨⟨by decide +kernel, by decide +kernel⟩, List.mem_of_getElem? (i := 734) (by decide +kernel), List.mem_of_getElem? (i := 846) (by decide +kernel), List.mem_of_getElem? (i := 847) (by decide +kernel)⟩
theorem lw_p21 : lw_okq (⟨"HandleLoansModel", "becomes", "(II)I"⟩, 18) := ⟨⟨by decide +kernel, by decide +kernel⟩, List.mem_of_getElem? (i := 734) (by decide +kernel), List.mem_of_getElem? (i := 854) (by decide +kernel), List.mem_of_getElem? (i := 855) (by decide +kernel)⟩
theorem lw_p22 : lw_okq (⟨"HandleLoansModel", "opens", "(II)Z"⟩, 18) := ⟨⟨by decide +kernel, by decide +kernel⟩, List.mem_of_getElem? (i := 734) (by decide +kernel), List.mem_of_getElem? (i := 871) (by decide +kernel), List.mem_of_getElem? (i := 872) (by decide +kernel)⟩
theorem lw_p23 : lw_okq (⟨"HandleLoansModel", "leadsTo", "(II)I"⟩, 18) := ⟨⟨by decide +kernel, by decide +kernel⟩, List.mem_of_getElem? (i := 734) (by decide +kernel), List.mem_of_getElem? (i := 875) (by decide +kernel), List.mem_of_getElem? (i := 876) (by decide +kernel)⟩
theorem lw_p24 : lw_okq (⟨"HandleLoansModel", "arePair", "(II)Z"⟩, 18) := ⟨⟨by decide +kernel, by decide +kernel⟩, List.mem_of_getElem? (i := 734) (by decide +kernel), List.mem_of_getElem? (i := 884) (by decide +kernel), List.mem_of_getElem? (i := 885) (by decide +kernel)⟩
theorem lw_p25 : lw_okq (⟨"HandleLoansModel", "addMember", "(I)V"⟩, 18) := ⟨⟨by decide +kernel, by decide +kernel⟩, List.mem_of_getElem? (i := 734) (by decide +kernel), List.mem_of_getElem? (i := 892) (by decide +kernel), List.mem_of_getElem? (i := 893) (by decide +kernel)⟩
theorem lw_p26 : lw_okq (⟨"HandleLoansModel", "isMember", "(I)Z"⟩, 18) := ⟨⟨by decide +kernel, by decide +kernel⟩, List.mem_of_getElem? (i := 734) (by decide +kernel), List.mem_of_getElem? (i := 900) (by decide +kernel), List.mem_of_getElem? (i := 901) (by decide +kernel)⟩
theorem lw_p27 : lw_okq (⟨"HandleLoansModel", "whose", "(II)I"⟩, 18) := ⟨⟨by decide +kernel, by decide +kernel⟩, List.mem_of_getElem? (i := 734) (by decide +kernel), List.mem_of_getElem? (i := 904) (by decide +kernel), List.mem_of_getElem? (i := 905) (by decide +kernel)⟩
theorem lw_p28 : lw_okq (⟨"HandleLoansModel", "holds", "(I)I"⟩, 18) := ⟨⟨by decide +kernel, by decide +kernel⟩, List.mem_of_getElem? (i := 734) (by decide +kernel), List.mem_of_getElem? (i := 908) (by decide +kernel), List.mem_of_getElem? (i := 909) (by decide +kernel)⟩
theorem lw_p29 : lw_okq (⟨"HandleLoansModel", "openTo", "(I)I"⟩, 18) := ⟨⟨by decide +kernel, by decide +kernel⟩, List.mem_of_getElem? (i := 734) (by decide +kernel), List.mem_of_getElem? (i := 912) (by decide +kernel), List.mem_of_getElem? (i := 913) (by decide +kernel)⟩
theorem lw_p30 : lw_okq (⟨"HandleLoansModel", "hasPair", "(II)Z"⟩, 18) := ⟨⟨by decide +kernel, by decide +kernel⟩, List.mem_of_getElem? (i := 734) (by decide +kernel), List.mem_of_getElem? (i := 932) (by decide +kernel), List.mem_of_getElem? (i := 933) (by decide +kernel)⟩
theorem lw_p31 : lw_okq (⟨"HandleLoansModel", "lends", "(II)V"⟩, 18) := ⟨⟨by decide +kernel, by decide +kernel⟩, List.mem_of_getElem? (i := 734) (by decide +kernel), List.mem_of_getElem? (i := 936) (by decide +kernel), List.mem_of_getElem? (i := 937) (by decide +kernel)⟩
def lw_privs_2 : List (MethodName × Nat) := [(⟨"HandleLoansModel", "isLate", "(I)Z"⟩, 18), (⟨"HandleLoansModel", "its", "(II)I"⟩, 18), (⟨"HandleLoansModel", "endOf", "(I)I"⟩, 18), (⟨"HandleLoansModel", "moved", "(I)I"⟩, 18), (⟨"HandleLoansModel", "wears", "(I)I"⟩, 18), (⟨"HandleLoansModel", "becomes", "(II)I"⟩, 18), (⟨"HandleLoansModel", "opens", "(II)Z"⟩, 18), (⟨"HandleLoansModel", "leadsTo", "(II)I"⟩, 18), (⟨"HandleLoansModel", "arePair", "(II)Z"⟩, 18), (⟨"HandleLoansModel", "addMember", "(I)V"⟩, 18), (⟨"HandleLoansModel", "isMember", "(I)Z"⟩, 18), (⟨"HandleLoansModel", "whose", "(II)I"⟩, 18), (⟨"HandleLoansModel", "holds", "(I)I"⟩, 18), (⟨"HandleLoansModel", "openTo", "(I)I"⟩, 18), (⟨"HandleLoansModel", "hasPair", "(II)Z"⟩, 18), (⟨"HandleLoansModel", "lends", "(II)V"⟩, 18)]
theorem lw_r2 : ∀ q ∈ lw_privs_2, lw_okq q := List.forall_mem_cons.mpr ⟨lw_p16, List.forall_mem_cons.mpr ⟨lw_p17, List.forall_mem_cons.mpr ⟨lw_p18, List.forall_mem_cons.mpr ⟨lw_p19, List.forall_mem_cons.mpr ⟨lw_p20, List.forall_mem_cons.mpr ⟨lw_p21, List.forall_mem_cons.mpr ⟨lw_p22, List.forall_mem_cons.mpr ⟨lw_p23, List.forall_mem_cons.mpr ⟨lw_p24, List.forall_mem_cons.mpr ⟨lw_p25, List.forall_mem_cons.mpr ⟨lw_p26, List.forall_mem_cons.mpr ⟨lw_p27, List.forall_mem_cons.mpr ⟨lw_p28, List.forall_mem_cons.mpr ⟨lw_p29, List.forall_mem_cons.mpr ⟨lw_p30, List.forall_mem_cons.mpr ⟨lw_p31, fun _ h => absurd h List.not_mem_nil⟩⟩⟩⟩⟩⟩⟩⟩⟩⟩⟩⟩⟩⟩⟩⟩
theorem lw_p32 : lw_okq (⟨"HandleLoansModel", "wearsBy", "(I)V"⟩, 18) := ⟨⟨by decide +kernel, by decide +kernel⟩, List.mem_of_getElem? (i := 734) (by decide +kernel), List.mem_of_getElem? (i := 948) (by decide +kernel), List.mem_of_getElem? (i := 949) (by decide +kernel)⟩
theorem lw_p33 : lw_okq (⟨"HandleLoansModel", "passes", "(I)V"⟩, 18) := ⟨⟨by decide +kernel, by decide +kernel⟩, List.mem_of_getElem? (i := 734) (by decide +kernel), List.mem_of_getElem? (i := 959) (by decide +kernel), List.mem_of_getElem? (i := 960) (by decide +kernel)⟩
theorem lw_p34 : lw_okq (⟨"HandleLoansModel", "oneDay", "()V"⟩, 18) := ⟨⟨by decide +kernel, by decide +kernel⟩, List.mem_of_getElem? (i := 734) (by decide +kernel), List.mem_of_getElem? (i := 963) (by decide +kernel), List.mem_of_getElem? (i := 964) (by decide +kernel)⟩
theorem lw_p35 : lw_okq (⟨"HandleLoansModel", "finesAll", "()I"⟩, 18) := ⟨⟨by decide +kernel, by decide +kernel⟩, List.mem_of_getElem? (i := 734) (by decide +kernel), List.mem_of_getElem? (i := 967) (by decide +kernel), List.mem_of_getElem? (i := 968) (by decide +kernel)⟩
theorem lw_p36 : lw_okq (⟨"HandleLoansModel", "lentSet", "()I"⟩, 18) := ⟨⟨by decide +kernel, by decide +kernel⟩, List.mem_of_getElem? (i := 734) (by decide +kernel), List.mem_of_getElem? (i := 975) (by decide +kernel), List.mem_of_getElem? (i := 976) (by decide +kernel)⟩
theorem lw_p37 : lw_okq (⟨"HandleLoansModel", "lateSet", "()I"⟩, 18) := ⟨⟨by decide +kernel, by decide +kernel⟩, List.mem_of_getElem? (i := 734) (by decide +kernel), List.mem_of_getElem? (i := 979) (by decide +kernel), List.mem_of_getElem? (i := 980) (by decide +kernel)⟩
theorem lw_p38 : lw_okq (⟨"HandleLoansModel", "wearAll", "()I"⟩, 18) := ⟨⟨by decide +kernel, by decide +kernel⟩, List.mem_of_getElem? (i := 734) (by decide +kernel), List.mem_of_getElem? (i := 983) (by decide +kernel), List.mem_of_getElem? (i := 984) (by decide +kernel)⟩
theorem lw_p39 : lw_okq (⟨"HandleLoansModel", "moveAll", "(Z[I)V"⟩, 18) := ⟨⟨by decide +kernel, by decide +kernel⟩, List.mem_of_getElem? (i := 734) (by decide +kernel), List.mem_of_getElem? (i := 991) (by decide +kernel), List.mem_of_getElem? (i := 992) (by decide +kernel)⟩
theorem lw_p40 : lw_okq (⟨"HandleLoansModel", "reachOf", "(I)I"⟩, 18) := ⟨⟨by decide +kernel, by decide +kernel⟩, List.mem_of_getElem? (i := 734) (by decide +kernel), List.mem_of_getElem? (i := 995) (by decide +kernel), List.mem_of_getElem? (i := 996) (by decide +kernel)⟩
theorem lw_p41 : lw_okq (⟨"HandleLoansModel", "oneMore", "(II)I"⟩, 18) := ⟨⟨by decide +kernel, by decide +kernel⟩, List.mem_of_getElem? (i := 734) (by decide +kernel), List.mem_of_getElem? (i := 999) (by decide +kernel), List.mem_of_getElem? (i := 1000) (by decide +kernel)⟩
theorem lw_p42 : lw_okq (⟨"HandleLoansModel", "far", "(III)I"⟩, 18) := ⟨⟨by decide +kernel, by decide +kernel⟩, List.mem_of_getElem? (i := 734) (by decide +kernel), List.mem_of_getElem? (i := 1015) (by decide +kernel), List.mem_of_getElem? (i := 1016) (by decide +kernel)⟩
theorem lw_p43 : lw_okq (⟨"HandleLoansModel", "comes", "(II)Z"⟩, 18) := ⟨⟨by decide +kernel, by decide +kernel⟩, List.mem_of_getElem? (i := 734) (by decide +kernel), List.mem_of_getElem? (i := 1027) (by decide +kernel), List.mem_of_getElem? (i := 1028) (by decide +kernel)⟩
theorem lw_p44 : lw_okq (⟨"HandleLoansModel", "mayHave", "(II)Z"⟩, 18) := ⟨⟨by decide +kernel, by decide +kernel⟩, List.mem_of_getElem? (i := 734) (by decide +kernel), List.mem_of_getElem? (i := 1031) (by decide +kernel), List.mem_of_getElem? (i := 1032) (by decide +kernel)⟩
theorem lw_p45 : lw_okq (⟨"HandleLoansModel", "advance", "()V"⟩, 18) := ⟨⟨by decide +kernel, by decide +kernel⟩, List.mem_of_getElem? (i := 734) (by decide +kernel), List.mem_of_getElem? (i := 1067) (by decide +kernel), List.mem_of_getElem? (i := 1068) (by decide +kernel)⟩
theorem lw_p46 : lw_okq (⟨"HandleLoansModel", "byteAt", "(I)I"⟩, 18) := ⟨⟨by decide +kernel, by decide +kernel⟩, List.mem_of_getElem? (i := 734) (by decide +kernel), List.mem_of_getElem? (i := 1071) (by decide +kernel), List.mem_of_getElem? (i := 1072) (by decide +kernel)⟩
theorem lw_p47 : lw_okq (⟨"HandleLoansModel", "wantItem", "()V"⟩, 18) := ⟨⟨by decide +kernel, by decide +kernel⟩, List.mem_of_getElem? (i := 734) (by decide +kernel), List.mem_of_getElem? (i := 1084) (by decide +kernel), List.mem_of_getElem? (i := 1085) (by decide +kernel)⟩
def lw_privs_3 : List (MethodName × Nat) := [(⟨"HandleLoansModel", "wearsBy", "(I)V"⟩, 18), (⟨"HandleLoansModel", "passes", "(I)V"⟩, 18), (⟨"HandleLoansModel", "oneDay", "()V"⟩, 18), (⟨"HandleLoansModel", "finesAll", "()I"⟩, 18), (⟨"HandleLoansModel", "lentSet", "()I"⟩, 18), (⟨"HandleLoansModel", "lateSet", "()I"⟩, 18), (⟨"HandleLoansModel", "wearAll", "()I"⟩, 18), (⟨"HandleLoansModel", "moveAll", "(Z[I)V"⟩, 18), (⟨"HandleLoansModel", "reachOf", "(I)I"⟩, 18), (⟨"HandleLoansModel", "oneMore", "(II)I"⟩, 18), (⟨"HandleLoansModel", "far", "(III)I"⟩, 18), (⟨"HandleLoansModel", "comes", "(II)Z"⟩, 18), (⟨"HandleLoansModel", "mayHave", "(II)Z"⟩, 18), (⟨"HandleLoansModel", "advance", "()V"⟩, 18), (⟨"HandleLoansModel", "byteAt", "(I)I"⟩, 18), (⟨"HandleLoansModel", "wantItem", "()V"⟩, 18)]
theorem lw_r3 : ∀ q ∈ lw_privs_3, lw_okq q := List.forall_mem_cons.mpr ⟨lw_p32, List.forall_mem_cons.mpr ⟨lw_p33, List.forall_mem_cons.mpr ⟨lw_p34, List.forall_mem_cons.mpr ⟨lw_p35, List.forall_mem_cons.mpr ⟨lw_p36, List.forall_mem_cons.mpr ⟨lw_p37, List.forall_mem_cons.mpr ⟨lw_p38, List.forall_mem_cons.mpr ⟨lw_p39, List.forall_mem_cons.mpr ⟨lw_p40, List.forall_mem_cons.mpr ⟨lw_p41, List.forall_mem_cons.mpr ⟨lw_p42, List.forall_mem_cons.mpr ⟨lw_p43, List.forall_mem_cons.mpr ⟨lw_p44, List.forall_mem_cons.mpr ⟨lw_p45, List.forall_mem_cons.mpr ⟨lw_p46, List.forall_mem_cons.mpr ⟨lw_p47, fun _ h => absurd h List.not_mem_nil⟩⟩⟩⟩⟩⟩⟩⟩⟩⟩⟩⟩⟩⟩⟩⟩
theorem lw_p48 : lw_okq (⟨"HandleLoansModel", "kindHere", "()I"⟩, 18) := ⟨⟨by decide +kernel, by decide +kernel⟩, List.mem_of_getElem? (i := 734) (by decide +kernel), List.mem_of_getElem? (i := 1088) (by decide +kernel), List.mem_of_getElem? (i := 1089) (by decide +kernel)⟩
theorem lw_p49 : lw_okq (⟨"HandleLoansModel", "isWord", "(J)Z"⟩, 18) := ⟨⟨by decide +kernel, by decide +kernel⟩, List.mem_of_getElem? (i := 734) (by decide +kernel), List.mem_of_getElem? (i := 1093) (by decide +kernel), List.mem_of_getElem? (i := 1094) (by decide +kernel)⟩
theorem lw_p50 : lw_okq (⟨"HandleLoansModel", "wantHandle", "(I)V"⟩, 18) := ⟨⟨by decide +kernel, by decide +kernel⟩, List.mem_of_getElem? (i := 734) (by decide +kernel), List.mem_of_getElem? (i := 1102) (by decide +kernel), List.mem_of_getElem? (i := 1103) (by decide +kernel)⟩
theorem lw_p51 : lw_okq (⟨"HandleLoansModel", "wantWord", "(J)V"⟩, 18) := ⟨⟨by decide +kernel, by decide +kernel⟩, List.mem_of_getElem? (i := 734) (by decide +kernel), List.mem_of_getElem? (i := 1107) (by decide +kernel), List.mem_of_getElem? (i := 1108) (by decide +kernel)⟩
theorem lw_p52 : lw_okq (⟨"HandleLoansModel", "wantNumber", "(II)I"⟩, 18) := ⟨⟨by decide +kernel, by decide +kernel⟩, List.mem_of_getElem? (i := 734) (by decide +kernel), List.mem_of_getElem? (i := 1111) (by decide +kernel), List.mem_of_getElem? (i := 1112) (by decide +kernel)⟩
theorem lw_p53 : lw_okq (⟨"HandleLoansModel", "mayWant", "(JIII)I"⟩, 18) := ⟨⟨by decide +kernel, by decide +kernel⟩, List.mem_of_getElem? (i := 734) (by decide +kernel), List.mem_of_getElem? (i := 1117) (by decide +kernel), List.mem_of_getElem? (i := 1118) (by decide +kernel)⟩
theorem lw_p54 : lw_okq (⟨"HandleLoansModel", "wantMember", "()V"⟩, 18) := ⟨⟨by decide +kernel, by decide +kernel⟩, List.mem_of_getElem? (i := 734) (by decide +kernel), List.mem_of_getElem? (i := 1122) (by decide +kernel), List.mem_of_getElem? (i := 1123) (by decide +kernel)⟩
theorem lw_p55 : lw_okq (⟨"HandleLoansModel", "isPart", "(III)Z"⟩, 18) := ⟨⟨by decide +kernel, by decide +kernel⟩, List.mem_of_getElem? (i := 734) (by decide +kernel), List.mem_of_getElem? (i := 1148) (by decide +kernel), List.mem_of_getElem? (i := 1149) (by decide +kernel)⟩
theorem lw_p56 : lw_okq (⟨"HandleLoansModel", "badSheet", "(I)I"⟩, 18) := ⟨⟨by decide +kernel, by decide +kernel⟩, List.mem_of_getElem? (i := 734) (by decide +kernel), List.mem_of_getElem? (i := 1156) (by decide +kernel), List.mem_of_getElem? (i := 1157) (by decide +kernel)⟩
theorem lw_p57 : lw_okq (⟨"HandleLoansModel", "isLed", "(III)Z"⟩, 18) := ⟨⟨by decide +kernel, by decide +kernel⟩, List.mem_of_getElem? (i := 734) (by decide +kernel), List.mem_of_getElem? (i := 1170) (by decide +kernel), List.mem_of_getElem? (i := 1171) (by decide +kernel)⟩
theorem lw_p58 : lw_okq (⟨"HandleLoansModel", "pairs", "()I"⟩, 18) := ⟨⟨by decide +kernel, by decide +kernel⟩, List.mem_of_getElem? (i := 734) (by decide +kernel), List.mem_of_getElem? (i := 1190) (by decide +kernel), List.mem_of_getElem? (i := 1191) (by decide +kernel)⟩
def lw_privs_4 : List (MethodName × Nat) := [(⟨"HandleLoansModel", "kindHere", "()I"⟩, 18), (⟨"HandleLoansModel", "isWord", "(J)Z"⟩, 18), (⟨"HandleLoansModel", "wantHandle", "(I)V"⟩, 18), (⟨"HandleLoansModel", "wantWord", "(J)V"⟩, 18), (⟨"HandleLoansModel", "wantNumber", "(II)I"⟩, 18), (⟨"HandleLoansModel", "mayWant", "(JIII)I"⟩, 18), (⟨"HandleLoansModel", "wantMember", "()V"⟩, 18), (⟨"HandleLoansModel", "isPart", "(III)Z"⟩, 18), (⟨"HandleLoansModel", "badSheet", "(I)I"⟩, 18), (⟨"HandleLoansModel", "isLed", "(III)Z"⟩, 18), (⟨"HandleLoansModel", "pairs", "()I"⟩, 18)]
theorem lw_r4 : ∀ q ∈ lw_privs_4, lw_okq q := List.forall_mem_cons.mpr ⟨lw_p48, List.forall_mem_cons.mpr ⟨lw_p49, List.forall_mem_cons.mpr ⟨lw_p50, List.forall_mem_cons.mpr ⟨lw_p51, List.forall_mem_cons.mpr ⟨lw_p52, List.forall_mem_cons.mpr ⟨lw_p53, List.forall_mem_cons.mpr ⟨lw_p54, List.forall_mem_cons.mpr ⟨lw_p55, List.forall_mem_cons.mpr ⟨lw_p56, List.forall_mem_cons.mpr ⟨lw_p57, List.forall_mem_cons.mpr ⟨lw_p58, fun _ h => absurd h List.not_mem_nil⟩⟩⟩⟩⟩⟩⟩⟩⟩⟩⟩
def lw_privs : List (MethodName × Nat) := lw_privs_1 ++ (lw_privs_2 ++ (lw_privs_3 ++ (lw_privs_4)))
def lw_tbl : List Cond := k2_sels lw_privs ++ tables_1
theorem lw_privs_ok : ∀ q ∈ lw_privs, lw_okq q := by
  show ∀ q ∈ lw_privs_1 ++ (lw_privs_2 ++ (lw_privs_3 ++ (lw_privs_4))), lw_okq q
  exact List.forall_mem_append.mpr ⟨lw_r1, List.forall_mem_append.mpr ⟨lw_r2, List.forall_mem_append.mpr ⟨lw_r3, lw_r4⟩⟩⟩
end
section
def RX0 : String := "HandleLoans$Handle"
def TX0 : u_T := fun k => match k with
  | 0 => ("HandleLoans$Handle", "kind", "I", false)
  | 1 => ("HandleLoans$Handle", "from", "I", false)
  | 2 => ("HandleLoans$Handle", "to", "I", false)
  | 3 => ("HandleLoans$Handle", "wear", "I", false)
  | 4 => ("HandleLoans$Handle", "holder", "I", false)
  | _ => ("HandleLoans$Handle", "out", "I", false)
def tyX0 : Nat → FieldType := fun k => match k with
  | 0 => .int
  | 1 => .int
  | 2 => .int
  | 3 => .int
  | 4 => .int
  | _ => .int
abbrev wsX00 : List Cond := u_ws RX0 TX0 6
theorem nmX0 : ∀ a, a < 6 → ∀ b, b < 6 → a ≠ b → (TX0 a).2.1 ≠ (TX0 b).2.1 := by decide +kernel
theorem tyX0_ok : ∀ k, k < 6 → parseFieldDescriptor (TX0 k).2.2.1 = some (tyX0 k) := by decide +kernel
abbrev cX0_init : ByteArray := prog_2_method_1_code
def yX0_init : MethodName := ⟨RX0, "<init>", "()V"⟩
abbrev cX0_becomes : ByteArray := prog_2_method_2_code
def yX0_becomes : MethodName := ⟨RX0, "becomes", "(LHandleLoans$Handle;)V"⟩
abbrev cX0_isLent : ByteArray := prog_2_method_3_code
def yX0_isLent : MethodName := ⟨RX0, "isLent", "()Z"⟩
abbrev cX0_isLate : ByteArray := prog_2_method_4_code
def yX0_isLate : MethodName := ⟨RX0, "isLate", "(I)Z"⟩
abbrev cX0_isOfKind : ByteArray := prog_2_method_5_code
def yX0_isOfKind : MethodName := ⟨RX0, "isOfKind", "(I)Z"⟩
abbrev cX0_isPairOf : ByteArray := prog_2_method_6_code
def yX0_isPairOf : MethodName := ⟨RX0, "isPairOf", "(LHandleLoans$Handle;)Z"⟩
abbrev cX0_end : ByteArray := prog_2_method_7_code
def yX0_end : MethodName := ⟨RX0, "end", "(I)I"⟩
abbrev cX0_opensIn : ByteArray := prog_2_method_8_code
def yX0_opensIn : MethodName := ⟨RX0, "opensIn", "(III)Z"⟩
abbrev cX0_isOpposite : ByteArray := prog_2_method_9_code
def yX0_isOpposite : MethodName := ⟨RX0, "isOpposite", "(I)Z"⟩
abbrev cX0_ledTo : ByteArray := prog_2_method_10_code
def yX0_ledTo : MethodName := ⟨RX0, "ledTo", "(II)I"⟩
abbrev cX0_wears : ByteArray := prog_2_method_11_code
def yX0_wears : MethodName := ⟨RX0, "wears", "(I)I"⟩
abbrev cX0_wearOnce : ByteArray := prog_2_method_12_code
def yX0_wearOnce : MethodName := ⟨RX0, "wearOnce", "(I)V"⟩
def RX1 : String := "HandleLoans$Library"
def TX1 : u_T := fun k => match k with
  | 0 => ("HandleLoans$Library", "day", "I", false)
  | 1 => ("HandleLoans$Library", "loanDays", "I", false)
  | 2 => ("HandleLoans$Library", "handles", "[LHandleLoans$Handle;", true)
  | 3 => ("HandleLoans$Library", "handleCount", "I", false)
  | 4 => ("HandleLoans$Library", "members", "[LHandleLoans$Member;", true)
  | _ => ("HandleLoans$Library", "memberCount", "I", false)
def tyX1 : Nat → FieldType := fun k => match k with
  | 0 => .int
  | 1 => .int
  | 2 => .array (.object "HandleLoans$Handle")
  | 3 => .int
  | 4 => .array (.object "HandleLoans$Member")
  | _ => .int
abbrev wsX10 : List Cond := u_ws RX1 TX1 6
theorem nmX1 : ∀ a, a < 6 → ∀ b, b < 6 → a ≠ b → (TX1 a).2.1 ≠ (TX1 b).2.1 := by decide +kernel
theorem tyX1_ok : ∀ k, k < 6 → parseFieldDescriptor (TX1 k).2.2.1 = some (tyX1 k) := by decide +kernel
abbrev cX1_init : ByteArray := prog_3_method_1_code
def yX1_init : MethodName := ⟨RX1, "<init>", "()V"⟩
abbrev cX1_becomes : ByteArray := prog_3_method_2_code
def yX1_becomes : MethodName := ⟨RX1, "becomes", "(LHandleLoans$Library;)V"⟩
abbrev cX1_hasHandle : ByteArray := prog_3_method_3_code
def yX1_hasHandle : MethodName := ⟨RX1, "hasHandle", "(I)Z"⟩
abbrev cX1_hasMember : ByteArray := prog_3_method_4_code
def yX1_hasMember : MethodName := ⟨RX1, "hasMember", "(I)Z"⟩
abbrev cX1_hasPlaceForHandle : ByteArray := prog_3_method_5_code
def yX1_hasPlaceForHandle : MethodName := ⟨RX1, "hasPlaceForHandle", "()Z"⟩
abbrev cX1_hasPlaceForMember : ByteArray := prog_3_method_6_code
def yX1_hasPlaceForMember : MethodName := ⟨RX1, "hasPlaceForMember", "()Z"⟩
abbrev cX1_addHandle : ByteArray := prog_3_method_7_code
def yX1_addHandle : MethodName := ⟨RX1, "addHandle", "(IIII)I"⟩
abbrev cX1_addMember : ByteArray := prog_3_method_8_code
def yX1_addMember : MethodName := ⟨RX1, "addMember", "(I)I"⟩
abbrev cX1_opensIn : ByteArray := prog_3_method_9_code
def yX1_opensIn : MethodName := ⟨RX1, "opensIn", "(II)Z"⟩
abbrev cX1_ledTo : ByteArray := prog_3_method_10_code
def yX1_ledTo : MethodName := ⟨RX1, "ledTo", "(II)I"⟩
abbrev cX1_holds : ByteArray := prog_3_method_11_code
def yX1_holds : MethodName := ⟨RX1, "holds", "(II)Z"⟩
abbrev cX1_heldBy : ByteArray := prog_3_method_12_code
def yX1_heldBy : MethodName := ⟨RX1, "heldBy", "(I)I"⟩
abbrev cX1_heldCount : ByteArray := prog_3_method_13_code
def yX1_heldCount : MethodName := ⟨RX1, "heldCount", "(I)I"⟩
abbrev cX1_openTo : ByteArray := prog_3_method_14_code
def yX1_openTo : MethodName := ⟨RX1, "openTo", "(I)I"⟩
abbrev cX1_allLent : ByteArray := prog_3_method_15_code
def yX1_allLent : MethodName := ⟨RX1, "allLent", "()I"⟩
abbrev cX1_allLate : ByteArray := prog_3_method_16_code
def yX1_allLate : MethodName := ⟨RX1, "allLate", "()I"⟩
abbrev cX1_allWear : ByteArray := prog_3_method_17_code
def yX1_allWear : MethodName := ⟨RX1, "allWear", "()I"⟩
abbrev cX1_allFines : ByteArray := prog_3_method_18_code
def yX1_allFines : MethodName := ⟨RX1, "allFines", "()I"⟩
abbrev cX1_pairCount : ByteArray := prog_3_method_19_code
def yX1_pairCount : MethodName := ⟨RX1, "pairCount", "()I"⟩
abbrev cX1_hasHandsFull : ByteArray := prog_3_method_20_code
def yX1_hasHandsFull : MethodName := ⟨RX1, "hasHandsFull", "(I)Z"⟩
abbrev cX1_holdsPairOf : ByteArray := prog_3_method_21_code
def yX1_holdsPairOf : MethodName := ⟨RX1, "holdsPairOf", "(II)Z"⟩
abbrev cX1_mayLend : ByteArray := prog_3_method_22_code
def yX1_mayLend : MethodName := ⟨RX1, "mayLend", "(II)Z"⟩
abbrev cX1_goOn : ByteArray := prog_3_method_23_code
def yX1_goOn : MethodName := ⟨RX1, "goOn", "(I)V"⟩
abbrev cX1_finesAhead : ByteArray := prog_3_method_24_code
def yX1_finesAhead : MethodName := ⟨RX1, "finesAhead", "(III)I"⟩
abbrev cX1_oneTurnFrom : ByteArray := prog_3_method_25_code
def yX1_oneTurnFrom : MethodName := ⟨RX1, "oneTurnFrom", "(II)I"⟩
abbrev cX1_reachOf : ByteArray := prog_3_method_26_code
def yX1_reachOf : MethodName := ⟨RX1, "reachOf", "(I)I"⟩
abbrev cX1_canCome : ByteArray := prog_3_method_27_code
def yX1_canCome : MethodName := ⟨RX1, "canCome", "(II)Z"⟩
abbrev cX1_turnsTo : ByteArray := prog_3_method_28_code
def yX1_turnsTo : MethodName := ⟨RX1, "turnsTo", "(III)I"⟩
abbrev cX1_firstOnWay : ByteArray := prog_3_method_29_code
def yX1_firstOnWay : MethodName := ⟨RX1, "firstOnWay", "(II)I"⟩
abbrev cX1_firstWanted : ByteArray := prog_3_method_30_code
def yX1_firstWanted : MethodName := ⟨RX1, "firstWanted", "(III)I"⟩
def RX2 : String := "HandleLoans$Member"
def TX2 : u_T := fun k => match k with
  | 0 => ("HandleLoans$Member", "at", "I", false)
  | _ => ("HandleLoans$Member", "fines", "I", false)
def tyX2 : Nat → FieldType := fun k => match k with
  | 0 => .int
  | _ => .int
abbrev wsX20 : List Cond := u_ws RX2 TX2 2
theorem nmX2 : ∀ a, a < 2 → ∀ b, b < 2 → a ≠ b → (TX2 a).2.1 ≠ (TX2 b).2.1 := by decide +kernel
theorem tyX2_ok : ∀ k, k < 2 → parseFieldDescriptor (TX2 k).2.2.1 = some (tyX2 k) := by decide +kernel
abbrev cX2_init : ByteArray := prog_4_method_1_code
def yX2_init : MethodName := ⟨RX2, "<init>", "()V"⟩
abbrev cX2_becomes : ByteArray := prog_4_method_2_code
def yX2_becomes : MethodName := ⟨RX2, "becomes", "(LHandleLoans$Member;)V"⟩
def RX3 : String := "HandleLoans$Sheet"
def TX3 : u_T := fun k => match k with
  | 0 => ("HandleLoans$Sheet", "bits", "I", false)
  | 1 => ("HandleLoans$Sheet", "size", "I", false)
  | _ => ("HandleLoans$Sheet", "row", "[J", true)
def tyX3 : Nat → FieldType := fun k => match k with
  | 0 => .int
  | 1 => .int
  | _ => .array .long
abbrev wsX30 : List Cond := u_ws RX3 TX3 3
theorem nmX3 : ∀ a, a < 3 → ∀ b, b < 3 → a ≠ b → (TX3 a).2.1 ≠ (TX3 b).2.1 := by decide +kernel
theorem tyX3_ok : ∀ k, k < 3 → parseFieldDescriptor (TX3 k).2.2.1 = some (tyX3 k) := by decide +kernel
abbrev cX3_init : ByteArray := prog_5_method_1_code
def yX3_init : MethodName := ⟨RX3, "<init>", "()V"⟩
abbrev cX3_start : ByteArray := prog_5_method_2_code
def yX3_start : MethodName := ⟨RX3, "start", "(II)V"⟩
abbrev cX3_isMissing : ByteArray := prog_5_method_3_code
def yX3_isMissing : MethodName := ⟨RX3, "isMissing", "()Z"⟩
abbrev cX3_put : ByteArray := prog_5_method_4_code
def yX3_put : MethodName := ⟨RX3, "put", "(IJ)V"⟩
abbrev cX3_hasPart : ByteArray := prog_5_method_5_code
def yX3_hasPart : MethodName := ⟨RX3, "hasPart", "(II)Z"⟩
def RX4 : String := "HandleLoans$Tape"
def TX4 : u_T := fun k => match k with
  | 0 => ("HandleLoans$Tape", "bytes", "[I", true)
  | _ => ("HandleLoans$Tape", "length", "I", false)
def tyX4 : Nat → FieldType := fun k => match k with
  | 0 => .array .int
  | _ => .int
abbrev wsX40 : List Cond := u_ws RX4 TX4 2
theorem nmX4 : ∀ a, a < 2 → ∀ b, b < 2 → a ≠ b → (TX4 a).2.1 ≠ (TX4 b).2.1 := by decide +kernel
theorem tyX4_ok : ∀ k, k < 2 → parseFieldDescriptor (TX4 k).2.2.1 = some (tyX4 k) := by decide +kernel
abbrev cX4_init : ByteArray := prog_6_method_1_code
def yX4_init : MethodName := ⟨RX4, "<init>", "()V"⟩
abbrev cX4_hasPlaceFor : ByteArray := prog_6_method_2_code
def yX4_hasPlaceFor : MethodName := ⟨RX4, "hasPlaceFor", "(I)Z"⟩
abbrev cX4_add : ByteArray := prog_6_method_3_code
def yX4_add : MethodName := ⟨RX4, "add", "(I)V"⟩
abbrev cX4_clear : ByteArray := prog_6_method_4_code
def yX4_clear : MethodName := ⟨RX4, "clear", "()I"⟩
def RX5 : String := "HandleLoans$Text"
def TX5 : u_T := fun k => match k with
  | 0 => ("HandleLoans$Text", "tape", "LHandleLoans$Tape;", true)
  | 1 => ("HandleLoans$Text", "library", "LHandleLoans$Library;", true)
  | 2 => ("HandleLoans$Text", "token", "I", false)
  | 3 => ("HandleLoans$Text", "start", "I", false)
  | 4 => ("HandleLoans$Text", "after", "I", false)
  | _ => ("HandleLoans$Text", "value", "I", false)
def tyX5 : Nat → FieldType := fun k => match k with
  | 0 => .object "HandleLoans$Tape"
  | 1 => .object "HandleLoans$Library"
  | 2 => .int
  | 3 => .int
  | 4 => .int
  | _ => .int
abbrev wsX50 : List Cond := u_ws RX5 TX5 6
theorem nmX5 : ∀ a, a < 6 → ∀ b, b < 6 → a ≠ b → (TX5 a).2.1 ≠ (TX5 b).2.1 := by decide +kernel
theorem tyX5_ok : ∀ k, k < 6 → parseFieldDescriptor (TX5 k).2.2.1 = some (tyX5 k) := by decide +kernel
abbrev cX5_init : ByteArray := prog_7_method_1_code
def yX5_init : MethodName := ⟨RX5, "<init>", "(LHandleLoans$Tape;LHandleLoans$Library;)V"⟩
abbrev cX5_parse : ByteArray := prog_7_method_2_code
def yX5_parse : MethodName := ⟨RX5, "parse", "()I"⟩
abbrev cX5_takeItem : ByteArray := prog_7_method_3_code
def yX5_takeItem : MethodName := ⟨RX5, "takeItem", "()Z"⟩
abbrev cX5_takeHandle : ByteArray := prog_7_method_4_code
def yX5_takeHandle : MethodName := ⟨RX5, "takeHandle", "(I)Z"⟩
abbrev cX5_takeMember : ByteArray := prog_7_method_5_code
def yX5_takeMember : MethodName := ⟨RX5, "takeMember", "()Z"⟩
abbrev cX5_takeLoan : ByteArray := prog_7_method_6_code
def yX5_takeLoan : MethodName := ⟨RX5, "takeLoan", "()Z"⟩
abbrev cX5_takeWord : ByteArray := prog_7_method_7_code
def yX5_takeWord : MethodName := ⟨RX5, "takeWord", "(Ljava/lang/String;)Z"⟩
abbrev cX5_takeNumber : ByteArray := prog_7_method_8_code
def yX5_takeNumber : MethodName := ⟨RX5, "takeNumber", "(I)I"⟩
abbrev cX5_namedKind : ByteArray := prog_7_method_9_code
def yX5_namedKind : MethodName := ⟨RX5, "namedKind", "()I"⟩
abbrev cX5_nameOf : ByteArray := prog_7_method_10_code
def yX5_nameOf : MethodName := ⟨RX5, "nameOf", "(I)Ljava/lang/String;"⟩
abbrev cX5_isWord : ByteArray := prog_7_method_11_code
def yX5_isWord : MethodName := ⟨RX5, "isWord", "(Ljava/lang/String;)Z"⟩
abbrev cX5_step : ByteArray := prog_7_method_12_code
def yX5_step : MethodName := ⟨RX5, "step", "()V"⟩
abbrev cX5_tokenWith : ByteArray := prog_7_method_13_code
def yX5_tokenWith : MethodName := ⟨RX5, "tokenWith", "(I)I"⟩
abbrev cX5_numberHere : ByteArray := prog_7_method_14_code
def yX5_numberHere : MethodName := ⟨RX5, "numberHere", "()I"⟩
def RX6 : String := "HandleLoans"
def TX6 : u_T := fun k => match k with
  | 0 => ("HandleLoans", "library", "LHandleLoans$Library;", true)
  | 1 => ("HandleLoans", "supposed", "LHandleLoans$Library;", true)
  | 2 => ("HandleLoans", "kept", "LHandleLoans$Library;", true)
  | 3 => ("HandleLoans", "isKept", "Z", false)
  | 4 => ("HandleLoans", "tape", "LHandleLoans$Tape;", true)
  | 5 => ("HandleLoans", "text", "LHandleLoans$Text;", true)
  | 6 => ("HandleLoans", "sheets", "[LHandleLoans$Sheet;", true)
  | _ => ("HandleLoans", "told", "[I", true)
def tyX6 : Nat → FieldType := fun k => match k with
  | 0 => .object "HandleLoans$Library"
  | 1 => .object "HandleLoans$Library"
  | 2 => .object "HandleLoans$Library"
  | 3 => .boolean
  | 4 => .object "HandleLoans$Tape"
  | 5 => .object "HandleLoans$Text"
  | 6 => .array (.object "HandleLoans$Sheet")
  | _ => .array .int
abbrev wsX60 : List Cond := u_ws RX6 TX6 8
theorem nmX6 : ∀ a, a < 8 → ∀ b, b < 8 → a ≠ b → (TX6 a).2.1 ≠ (TX6 b).2.1 := by decide +kernel
theorem tyX6_ok : ∀ k, k < 8 → parseFieldDescriptor (TX6 k).2.2.1 = some (tyX6 k) := by decide +kernel
abbrev cX6_init : ByteArray := prog_1_method_1_code
def yX6_init : MethodName := ⟨RX6, "<init>", "()V"⟩
abbrev cX6_handle : ByteArray := prog_1_method_2_code
def yX6_handle : MethodName := ⟨RX6, "handle", "(III)I"⟩
abbrev cX6_of : ByteArray := prog_1_method_3_code
def yX6_of : MethodName := ⟨RX6, "of", "(II)I"⟩
abbrev cX6_set : ByteArray := prog_1_method_4_code
def yX6_set : MethodName := ⟨RX6, "set", "(III)I"⟩
abbrev cX6_turn : ByteArray := prog_1_method_5_code
def yX6_turn : MethodName := ⟨RX6, "turn", "(II)I"⟩
abbrev cX6_as : ByteArray := prog_1_method_6_code
def yX6_as : MethodName := ⟨RX6, "as", "(II)I"⟩
abbrev cX6_leads : ByteArray := prog_1_method_7_code
def yX6_leads : MethodName := ⟨RX6, "leads", "(II)I"⟩
abbrev cX6_pair : ByteArray := prog_1_method_8_code
def yX6_pair : MethodName := ⟨RX6, "pair", "(II)I"⟩
abbrev cX6_member : ByteArray := prog_1_method_9_code
def yX6_member : MethodName := ⟨RX6, "member", "(I)I"⟩
abbrev cX6_about : ByteArray := prog_1_method_10_code
def yX6_about : MethodName := ⟨RX6, "about", "(II)I"⟩
abbrev cX6_place : ByteArray := prog_1_method_11_code
def yX6_place : MethodName := ⟨RX6, "place", "(III)I"⟩
abbrev cX6_loan : ByteArray := prog_1_method_12_code
def yX6_loan : MethodName := ⟨RX6, "loan", "(I)I"⟩
abbrev cX6_lend : ByteArray := prog_1_method_13_code
def yX6_lend : MethodName := ⟨RX6, "lend", "(II)I"⟩
abbrev cX6_back : ByteArray := prog_1_method_14_code
def yX6_back : MethodName := ⟨RX6, "back", "(I)I"⟩
abbrev cX6_use : ByteArray := prog_1_method_15_code
def yX6_use : MethodName := ⟨RX6, "use", "(II)I"⟩
abbrev cX6_days : ByteArray := prog_1_method_16_code
def yX6_days : MethodName := ⟨RX6, "days", "(I)I"⟩
abbrev cX6_now : ByteArray := prog_1_method_17_code
def yX6_now : MethodName := ⟨RX6, "now", "(I)I"⟩
abbrev cX6_on : ByteArray := prog_1_method_18_code
def yX6_on : MethodName := ⟨RX6, "on", "(III)I"⟩
abbrev cX6_late : ByteArray := prog_1_method_19_code
def yX6_late : MethodName := ⟨RX6, "late", "(I)I"⟩
abbrev cX6_reach : ByteArray := prog_1_method_20_code
def yX6_reach : MethodName := ⟨RX6, "reach", "(I)I"⟩
abbrev cX6_way : ByteArray := prog_1_method_21_code
def yX6_way : MethodName := ⟨RX6, "way", "(II)I"⟩
abbrev cX6_next : ByteArray := prog_1_method_22_code
def yX6_next : MethodName := ⟨RX6, "next", "(II)I"⟩
abbrev cX6_wanted : ByteArray := prog_1_method_23_code
def yX6_wanted : MethodName := ⟨RX6, "wanted", "(II)I"⟩
abbrev cX6_two : ByteArray := prog_1_method_24_code
def yX6_two : MethodName := ⟨RX6, "two", "(II)I"⟩
abbrev cX6_meet : ByteArray := prog_1_method_25_code
def yX6_meet : MethodName := ⟨RX6, "meet", "(II)I"⟩
abbrev cX6_kind : ByteArray := prog_1_method_26_code
def yX6_kind : MethodName := ⟨RX6, "kind", "(II)I"⟩
abbrev cX6_least : ByteArray := prog_1_method_27_code
def yX6_least : MethodName := ⟨RX6, "least", "(II)I"⟩
abbrev cX6_uses : ByteArray := prog_1_method_28_code
def yX6_uses : MethodName := ⟨RX6, "uses", "(II)I"⟩
abbrev cX6_feed : ByteArray := prog_1_method_29_code
def yX6_feed : MethodName := ⟨RX6, "feed", "(II)I"⟩
abbrev cX6_wipe : ByteArray := prog_1_method_30_code
def yX6_wipe : MethodName := ⟨RX6, "wipe", "()I"⟩
abbrev cX6_house : ByteArray := prog_1_method_31_code
def yX6_house : MethodName := ⟨RX6, "house", "()I"⟩
abbrev cX6_sheet : ByteArray := prog_1_method_32_code
def yX6_sheet : MethodName := ⟨RX6, "sheet", "(III)I"⟩
abbrev cX6_write : ByteArray := prog_1_method_33_code
def yX6_write : MethodName := ⟨RX6, "write", "(IIJ)J"⟩
abbrev cX6_copy : ByteArray := prog_1_method_34_code
def yX6_copy : MethodName := ⟨RX6, "copy", "(IIIII)I"⟩
abbrev cX6_lays : ByteArray := prog_1_method_35_code
def yX6_lays : MethodName := ⟨RX6, "lays", "(I)I"⟩
abbrev cX6_book : ByteArray := prog_1_method_36_code
def yX6_book : MethodName := ⟨RX6, "book", "(II)I"⟩
abbrev cX6_read : ByteArray := prog_1_method_37_code
def yX6_read : MethodName := ⟨RX6, "read", "(II)I"⟩
abbrev cX6_image : ByteArray := prog_1_method_38_code
def yX6_image : MethodName := ⟨RX6, "image", "()I"⟩
abbrev cX6_undo : ByteArray := prog_1_method_39_code
def yX6_undo : MethodName := ⟨RX6, "undo", "()I"⟩
abbrev cX6_tear : ByteArray := prog_1_method_40_code
def yX6_tear : MethodName := ⟨RX6, "tear", "()I"⟩
abbrev cX6_count : ByteArray := prog_1_method_41_code
def yX6_count : MethodName := ⟨RX6, "count", "(I)I"⟩
abbrev cX6_status : ByteArray := prog_1_method_42_code
def yX6_status : MethodName := ⟨RX6, "status", "(I)I"⟩
abbrev cX6_tell : ByteArray := prog_1_method_43_code
def yX6_tell : MethodName := ⟨RX6, "tell", "(I)I"⟩
abbrev cX6_isUpTo : ByteArray := prog_1_method_44_code
def yX6_isUpTo : MethodName := ⟨RX6, "isUpTo", "(II)Z"⟩
abbrev cX6_isRoom : ByteArray := prog_1_method_45_code
def yX6_isRoom : MethodName := ⟨RX6, "isRoom", "(I)Z"⟩
abbrev cX6_isKind : ByteArray := prog_1_method_46_code
def yX6_isKind : MethodName := ⟨RX6, "isKind", "(I)Z"⟩
abbrev cX6_isSheet : ByteArray := prog_1_method_47_code
def yX6_isSheet : MethodName := ⟨RX6, "isSheet", "(I)Z"⟩
def RX7 : String := "HandleLoansModel"
def TX7 : u_T := fun k => match k with
  | 0 => ("HandleLoansModel", "row", "[I", true)
  | 1 => ("HandleLoansModel", "found", "[I", true)
  | 2 => ("HandleLoansModel", "tried", "[I", true)
  | 3 => ("HandleLoansModel", "tape", "[I", true)
  | 4 => ("HandleLoansModel", "tapeMany", "I", false)
  | 5 => ("HandleLoansModel", "sort", "I", false)
  | 6 => ("HandleLoansModel", "begins", "I", false)
  | 7 => ("HandleLoansModel", "tokenEnds", "I", false)
  | 8 => ("HandleLoansModel", "word", "J", false)
  | 9 => ("HandleLoansModel", "value", "I", false)
  | 10 => ("HandleLoansModel", "good", "Z", false)
  | 11 => ("HandleLoansModel", "bitsOf", "[I", true)
  | 12 => ("HandleLoansModel", "sizeOf", "[I", true)
  | 13 => ("HandleLoansModel", "sheets", "[J", true)
  | 14 => ("HandleLoansModel", "lent", "[J", true)
  | 15 => ("HandleLoansModel", "image", "[I", true)
  | 16 => ("HandleLoansModel", "before", "[I", true)
  | _ => ("HandleLoansModel", "isKept", "Z", false)
def tyX7 : Nat → FieldType := fun k => match k with
  | 0 => .array .int
  | 1 => .array .int
  | 2 => .array .int
  | 3 => .array .int
  | 4 => .int
  | 5 => .int
  | 6 => .int
  | 7 => .int
  | 8 => .long
  | 9 => .int
  | 10 => .boolean
  | 11 => .array .int
  | 12 => .array .int
  | 13 => .array .long
  | 14 => .array .long
  | 15 => .array .int
  | 16 => .array .int
  | _ => .boolean
abbrev wsX70 : List Cond := u_ws RX7 TX7 18
theorem nmX7 : ∀ a, a < 18 → ∀ b, b < 18 → a ≠ b → (TX7 a).2.1 ≠ (TX7 b).2.1 := by decide +kernel
theorem tyX7_ok : ∀ k, k < 18 → parseFieldDescriptor (TX7 k).2.2.1 = some (tyX7 k) := by decide +kernel
abbrev cX7_init : ByteArray := prog_9_method_1_code
def yX7_init : MethodName := ⟨RX7, "<init>", "()V"⟩
abbrev cX7_in : ByteArray := prog_9_method_2_code
def yX7_in : MethodName := ⟨RX7, "in", "(III)Z"⟩
abbrev cX7_finds : ByteArray := prog_9_method_3_code
def yX7_finds : MethodName := ⟨RX7, "finds", "(I)I"⟩
abbrev cX7_held : ByteArray := prog_9_method_4_code
def yX7_held : MethodName := ⟨RX7, "held", "(III)I"⟩
abbrev cX7_its : ByteArray := prog_9_method_5_code
def yX7_its : MethodName := ⟨RX7, "its", "(II)I"⟩
abbrev cX7_becomes : ByteArray := prog_9_method_6_code
def yX7_becomes : MethodName := ⟨RX7, "becomes", "(II)I"⟩
abbrev cX7_puts : ByteArray := prog_9_method_7_code
def yX7_puts : MethodName := ⟨RX7, "puts", "(III)V"⟩
abbrev cX7_whose : ByteArray := prog_9_method_8_code
def yX7_whose : MethodName := ⟨RX7, "whose", "(II)I"⟩
abbrev cX7_isOne : ByteArray := prog_9_method_9_code
def yX7_isOne : MethodName := ⟨RX7, "isOne", "(I)Z"⟩
abbrev cX7_isMember : ByteArray := prog_9_method_10_code
def yX7_isMember : MethodName := ⟨RX7, "isMember", "(I)Z"⟩
abbrev cX7_isRoom : ByteArray := prog_9_method_11_code
def yX7_isRoom : MethodName := ⟨RX7, "isRoom", "(I)Z"⟩
abbrev cX7_isKind : ByteArray := prog_9_method_12_code
def yX7_isKind : MethodName := ⟨RX7, "isKind", "(I)Z"⟩
abbrev cX7_bits : ByteArray := prog_9_method_13_code
def yX7_bits : MethodName := ⟨RX7, "bits", "(I)I"⟩
abbrev cX7_isLate : ByteArray := prog_9_method_14_code
def yX7_isLate : MethodName := ⟨RX7, "isLate", "(I)Z"⟩
abbrev cX7_moved : ByteArray := prog_9_method_15_code
def yX7_moved : MethodName := ⟨RX7, "moved", "(I)I"⟩
abbrev cX7_endOf : ByteArray := prog_9_method_16_code
def yX7_endOf : MethodName := ⟨RX7, "endOf", "(I)I"⟩
abbrev cX7_opens : ByteArray := prog_9_method_17_code
def yX7_opens : MethodName := ⟨RX7, "opens", "(II)Z"⟩
abbrev cX7_leadsTo : ByteArray := prog_9_method_18_code
def yX7_leadsTo : MethodName := ⟨RX7, "leadsTo", "(II)I"⟩
abbrev cX7_wears : ByteArray := prog_9_method_19_code
def yX7_wears : MethodName := ⟨RX7, "wears", "(I)I"⟩
abbrev cX7_wearsBy : ByteArray := prog_9_method_20_code
def yX7_wearsBy : MethodName := ⟨RX7, "wearsBy", "(I)V"⟩
abbrev cX7_arePair : ByteArray := prog_9_method_21_code
def yX7_arePair : MethodName := ⟨RX7, "arePair", "(II)Z"⟩
abbrev cX7_addHandle : ByteArray := prog_9_method_22_code
def yX7_addHandle : MethodName := ⟨RX7, "addHandle", "(IIII)V"⟩
abbrev cX7_addMember : ByteArray := prog_9_method_23_code
def yX7_addMember : MethodName := ⟨RX7, "addMember", "(I)V"⟩
abbrev cX7_handle : ByteArray := prog_9_method_24_code
def yX7_handle : MethodName := ⟨RX7, "handle", "(III)I"⟩
abbrev cX7_of : ByteArray := prog_9_method_25_code
def yX7_of : MethodName := ⟨RX7, "of", "(II)I"⟩
abbrev cX7_set : ByteArray := prog_9_method_26_code
def yX7_set : MethodName := ⟨RX7, "set", "(III)I"⟩
abbrev cX7_turn : ByteArray := prog_9_method_27_code
def yX7_turn : MethodName := ⟨RX7, "turn", "(II)I"⟩
abbrev cX7_as : ByteArray := prog_9_method_28_code
def yX7_as : MethodName := ⟨RX7, "as", "(II)I"⟩
abbrev cX7_leads : ByteArray := prog_9_method_29_code
def yX7_leads : MethodName := ⟨RX7, "leads", "(II)I"⟩
abbrev cX7_pair : ByteArray := prog_9_method_30_code
def yX7_pair : MethodName := ⟨RX7, "pair", "(II)I"⟩
abbrev cX7_member : ByteArray := prog_9_method_31_code
def yX7_member : MethodName := ⟨RX7, "member", "(I)I"⟩
abbrev cX7_holds : ByteArray := prog_9_method_32_code
def yX7_holds : MethodName := ⟨RX7, "holds", "(I)I"⟩
abbrev cX7_openTo : ByteArray := prog_9_method_33_code
def yX7_openTo : MethodName := ⟨RX7, "openTo", "(I)I"⟩
abbrev cX7_about : ByteArray := prog_9_method_34_code
def yX7_about : MethodName := ⟨RX7, "about", "(II)I"⟩
abbrev cX7_place : ByteArray := prog_9_method_35_code
def yX7_place : MethodName := ⟨RX7, "place", "(III)I"⟩
abbrev cX7_loan : ByteArray := prog_9_method_36_code
def yX7_loan : MethodName := ⟨RX7, "loan", "(I)I"⟩
abbrev cX7_hasPair : ByteArray := prog_9_method_37_code
def yX7_hasPair : MethodName := ⟨RX7, "hasPair", "(II)Z"⟩
abbrev cX7_mayHave : ByteArray := prog_9_method_38_code
def yX7_mayHave : MethodName := ⟨RX7, "mayHave", "(II)Z"⟩
abbrev cX7_lends : ByteArray := prog_9_method_39_code
def yX7_lends : MethodName := ⟨RX7, "lends", "(II)V"⟩
abbrev cX7_lend : ByteArray := prog_9_method_40_code
def yX7_lend : MethodName := ⟨RX7, "lend", "(II)I"⟩
abbrev cX7_back : ByteArray := prog_9_method_41_code
def yX7_back : MethodName := ⟨RX7, "back", "(I)I"⟩
abbrev cX7_use : ByteArray := prog_9_method_42_code
def yX7_use : MethodName := ⟨RX7, "use", "(II)I"⟩
abbrev cX7_oneDay : ByteArray := prog_9_method_43_code
def yX7_oneDay : MethodName := ⟨RX7, "oneDay", "()V"⟩
abbrev cX7_passes : ByteArray := prog_9_method_44_code
def yX7_passes : MethodName := ⟨RX7, "passes", "(I)V"⟩
abbrev cX7_finesAll : ByteArray := prog_9_method_45_code
def yX7_finesAll : MethodName := ⟨RX7, "finesAll", "()I"⟩
abbrev cX7_days : ByteArray := prog_9_method_46_code
def yX7_days : MethodName := ⟨RX7, "days", "(I)I"⟩
abbrev cX7_lentSet : ByteArray := prog_9_method_47_code
def yX7_lentSet : MethodName := ⟨RX7, "lentSet", "()I"⟩
abbrev cX7_lateSet : ByteArray := prog_9_method_48_code
def yX7_lateSet : MethodName := ⟨RX7, "lateSet", "()I"⟩
abbrev cX7_wearAll : ByteArray := prog_9_method_49_code
def yX7_wearAll : MethodName := ⟨RX7, "wearAll", "()I"⟩
abbrev cX7_now : ByteArray := prog_9_method_50_code
def yX7_now : MethodName := ⟨RX7, "now", "(I)I"⟩
abbrev cX7_oneMore : ByteArray := prog_9_method_51_code
def yX7_oneMore : MethodName := ⟨RX7, "oneMore", "(II)I"⟩
abbrev cX7_reachOf : ByteArray := prog_9_method_52_code
def yX7_reachOf : MethodName := ⟨RX7, "reachOf", "(I)I"⟩
abbrev cX7_comes : ByteArray := prog_9_method_53_code
def yX7_comes : MethodName := ⟨RX7, "comes", "(II)Z"⟩
abbrev cX7_on : ByteArray := prog_9_method_54_code
def yX7_on : MethodName := ⟨RX7, "on", "(III)I"⟩
abbrev cX7_late : ByteArray := prog_9_method_55_code
def yX7_late : MethodName := ⟨RX7, "late", "(I)I"⟩
abbrev cX7_reach : ByteArray := prog_9_method_56_code
def yX7_reach : MethodName := ⟨RX7, "reach", "(I)I"⟩
abbrev cX7_far : ByteArray := prog_9_method_57_code
def yX7_far : MethodName := ⟨RX7, "far", "(III)I"⟩
abbrev cX7_way : ByteArray := prog_9_method_58_code
def yX7_way : MethodName := ⟨RX7, "way", "(II)I"⟩
abbrev cX7_next : ByteArray := prog_9_method_59_code
def yX7_next : MethodName := ⟨RX7, "next", "(II)I"⟩
abbrev cX7_wanted : ByteArray := prog_9_method_60_code
def yX7_wanted : MethodName := ⟨RX7, "wanted", "(II)I"⟩
abbrev cX7_two : ByteArray := prog_9_method_61_code
def yX7_two : MethodName := ⟨RX7, "two", "(II)I"⟩
abbrev cX7_meet : ByteArray := prog_9_method_62_code
def yX7_meet : MethodName := ⟨RX7, "meet", "(II)I"⟩
abbrev cX7_kind : ByteArray := prog_9_method_63_code
def yX7_kind : MethodName := ⟨RX7, "kind", "(II)I"⟩
abbrev cX7_least : ByteArray := prog_9_method_64_code
def yX7_least : MethodName := ⟨RX7, "least", "(II)I"⟩
abbrev cX7_uses : ByteArray := prog_9_method_65_code
def yX7_uses : MethodName := ⟨RX7, "uses", "(II)I"⟩
abbrev cX7_feed : ByteArray := prog_9_method_66_code
def yX7_feed : MethodName := ⟨RX7, "feed", "(II)I"⟩
abbrev cX7_wipe : ByteArray := prog_9_method_67_code
def yX7_wipe : MethodName := ⟨RX7, "wipe", "()I"⟩
abbrev cX7_byteAt : ByteArray := prog_9_method_68_code
def yX7_byteAt : MethodName := ⟨RX7, "byteAt", "(I)I"⟩
abbrev cX7_isLetter : ByteArray := prog_9_method_69_code
def yX7_isLetter : MethodName := ⟨RX7, "isLetter", "(I)Z"⟩
abbrev cX7_isDigit : ByteArray := prog_9_method_70_code
def yX7_isDigit : MethodName := ⟨RX7, "isDigit", "(I)Z"⟩
abbrev cX7_advance : ByteArray := prog_9_method_71_code
def yX7_advance : MethodName := ⟨RX7, "advance", "()V"⟩
abbrev cX7_isWord : ByteArray := prog_9_method_72_code
def yX7_isWord : MethodName := ⟨RX7, "isWord", "(J)Z"⟩
abbrev cX7_kindHere : ByteArray := prog_9_method_73_code
def yX7_kindHere : MethodName := ⟨RX7, "kindHere", "()I"⟩
abbrev cX7_wantNumber : ByteArray := prog_9_method_74_code
def yX7_wantNumber : MethodName := ⟨RX7, "wantNumber", "(II)I"⟩
abbrev cX7_mayWant : ByteArray := prog_9_method_75_code
def yX7_mayWant : MethodName := ⟨RX7, "mayWant", "(JIII)I"⟩
abbrev cX7_wantWord : ByteArray := prog_9_method_76_code
def yX7_wantWord : MethodName := ⟨RX7, "wantWord", "(J)V"⟩
abbrev cX7_wantHandle : ByteArray := prog_9_method_77_code
def yX7_wantHandle : MethodName := ⟨RX7, "wantHandle", "(I)V"⟩
abbrev cX7_wantMember : ByteArray := prog_9_method_78_code
def yX7_wantMember : MethodName := ⟨RX7, "wantMember", "()V"⟩
abbrev cX7_wantItem : ByteArray := prog_9_method_79_code
def yX7_wantItem : MethodName := ⟨RX7, "wantItem", "()V"⟩
abbrev cX7_house : ByteArray := prog_9_method_80_code
def yX7_house : MethodName := ⟨RX7, "house", "()I"⟩
abbrev cX7_isSheet : ByteArray := prog_9_method_81_code
def yX7_isSheet : MethodName := ⟨RX7, "isSheet", "(I)Z"⟩
abbrev cX7_narrow : ByteArray := prog_9_method_82_code
def yX7_narrow : MethodName := ⟨RX7, "narrow", "(IJ)J"⟩
abbrev cX7_sheet : ByteArray := prog_9_method_83_code
def yX7_sheet : MethodName := ⟨RX7, "sheet", "(III)I"⟩
abbrev cX7_write : ByteArray := prog_9_method_84_code
def yX7_write : MethodName := ⟨RX7, "write", "(IIJ)J"⟩
abbrev cX7_isPart : ByteArray := prog_9_method_85_code
def yX7_isPart : MethodName := ⟨RX7, "isPart", "(III)Z"⟩
abbrev cX7_copy : ByteArray := prog_9_method_86_code
def yX7_copy : MethodName := ⟨RX7, "copy", "(IIIII)I"⟩
abbrev cX7_badSheet : ByteArray := prog_9_method_87_code
def yX7_badSheet : MethodName := ⟨RX7, "badSheet", "(I)I"⟩
abbrev cX7_lays : ByteArray := prog_9_method_88_code
def yX7_lays : MethodName := ⟨RX7, "lays", "(I)I"⟩
abbrev cX7_book : ByteArray := prog_9_method_89_code
def yX7_book : MethodName := ⟨RX7, "book", "(II)I"⟩
abbrev cX7_isLed : ByteArray := prog_9_method_90_code
def yX7_isLed : MethodName := ⟨RX7, "isLed", "(III)Z"⟩
abbrev cX7_read : ByteArray := prog_9_method_91_code
def yX7_read : MethodName := ⟨RX7, "read", "(II)I"⟩
abbrev cX7_moveAll : ByteArray := prog_9_method_92_code
def yX7_moveAll : MethodName := ⟨RX7, "moveAll", "(Z[I)V"⟩
abbrev cX7_image : ByteArray := prog_9_method_93_code
def yX7_image : MethodName := ⟨RX7, "image", "()I"⟩
abbrev cX7_undo : ByteArray := prog_9_method_94_code
def yX7_undo : MethodName := ⟨RX7, "undo", "()I"⟩
abbrev cX7_tear : ByteArray := prog_9_method_95_code
def yX7_tear : MethodName := ⟨RX7, "tear", "()I"⟩
abbrev cX7_pairs : ByteArray := prog_9_method_96_code
def yX7_pairs : MethodName := ⟨RX7, "pairs", "()I"⟩
abbrev cX7_count : ByteArray := prog_9_method_97_code
def yX7_count : MethodName := ⟨RX7, "count", "(I)I"⟩
abbrev cX7_status : ByteArray := prog_9_method_98_code
def yX7_status : MethodName := ⟨RX7, "status", "(I)I"⟩
def RJ6 : String := "java/lang/Integer"
def TJ6 : u_T := fun k => match k with
  | _ => ("", "", "", false)
def tyJ6 : Nat → FieldType := fun k => match k with
  | _ => .int
abbrev wsJ60 : List Cond := u_ws RJ6 TJ6 0
theorem nmJ6 : ∀ a, a < 0 → ∀ b, b < 0 → a ≠ b → (TJ6 a).2.1 ≠ (TJ6 b).2.1 := by decide +kernel
theorem tyJ6_ok : ∀ k, k < 0 → parseFieldDescriptor (TJ6 k).2.2.1 = some (tyJ6 k) := by decide +kernel
abbrev cJ6_bitCount_0f7a4 : ByteArray := prog_10_method_49_code
def yJ6_bitCount_0f7a4 : MethodName := ⟨RJ6, "bitCount", "(I)I"⟩
def RJ9 : String := "java/lang/Math"
def TJ9 : u_T := fun k => match k with
  | _ => ("", "", "", false)
def tyJ9 : Nat → FieldType := fun k => match k with
  | _ => .int
abbrev wsJ90 : List Cond := u_ws RJ9 TJ9 0
theorem nmJ9 : ∀ a, a < 0 → ∀ b, b < 0 → a ≠ b → (TJ9 a).2.1 ≠ (TJ9 b).2.1 := by decide +kernel
theorem tyJ9_ok : ∀ k, k < 0 → parseFieldDescriptor (TJ9 k).2.2.1 = some (tyJ9 k) := by decide +kernel
abbrev cJ9_max_7cf53 : ByteArray := prog_11_method_65_code
def yJ9_max_7cf53 : MethodName := ⟨RJ9, "max", "(II)I"⟩
abbrev cJ9_min_7cf53 : ByteArray := prog_11_method_69_code
def yJ9_min_7cf53 : MethodName := ⟨RJ9, "min", "(II)I"⟩
def RJ0 : String := "java/lang/String"
def TJ0 : u_T := fun k => match k with
  | _ => ("", "", "", false)
def tyJ0 : Nat → FieldType := fun k => match k with
  | _ => .int
abbrev wsJ00 : List Cond := u_ws RJ0 TJ0 0
theorem nmJ0 : ∀ a, a < 0 → ∀ b, b < 0 → a ≠ b → (TJ0 a).2.1 ≠ (TJ0 b).2.1 := by decide +kernel
theorem tyJ0_ok : ∀ k, k < 0 → parseFieldDescriptor (TJ0 k).2.2.1 = some (tyJ0 k) := by decide +kernel
abbrev cJ0_length_8abf5 : ByteArray := prog_12_method_54_code
def yJ0_length_8abf5 : MethodName := ⟨RJ0, "length", "()I"⟩
abbrev cJ0_charAt_5068e : ByteArray := prog_12_method_56_code
def yJ0_charAt_5068e : MethodName := ⟨RJ0, "charAt", "(I)C"⟩
abbrev cJ0_coder_7d493 : ByteArray := prog_12_method_152_code
def yJ0_coder_7d493 : MethodName := ⟨RJ0, "coder", "()B"⟩
abbrev cJ0_isLatin1_aae02 : ByteArray := prog_12_method_154_code
def yJ0_isLatin1_aae02 : MethodName := ⟨RJ0, "isLatin1", "()Z"⟩
abbrev cJ0_checkIndex_df160 : ByteArray := prog_12_method_155_code
def yJ0_checkIndex_df160 : MethodName := ⟨RJ0, "checkIndex", "(II)V"⟩
def RJ1 : String := "java/lang/StringLatin1"
def TJ1 : u_T := fun k => match k with
  | _ => ("", "", "", false)
def tyJ1 : Nat → FieldType := fun k => match k with
  | _ => .int
abbrev wsJ10 : List Cond := u_ws RJ1 TJ1 0
theorem nmJ1 : ∀ a, a < 0 → ∀ b, b < 0 → a ≠ b → (TJ1 a).2.1 ≠ (TJ1 b).2.1 := by decide +kernel
theorem tyJ1_ok : ∀ k, k < 0 → parseFieldDescriptor (TJ1 k).2.2.1 = some (tyJ1 k) := by decide +kernel
abbrev cJ1_charAt_3b067 : ByteArray := prog_13_method_2_code
def yJ1_charAt_3b067 : MethodName := ⟨RJ1, "charAt", "([BI)C"⟩
def RJ2 : String := "java/lang/StringUTF16"
def TJ2 : u_T := fun k => match k with
  | _ => ("", "", "", false)
def tyJ2 : Nat → FieldType := fun k => match k with
  | _ => .int
abbrev wsJ20 : List Cond := u_ws RJ2 TJ2 0
theorem nmJ2 : ∀ a, a < 0 → ∀ b, b < 0 → a ≠ b → (TJ2 a).2.1 ≠ (TJ2 b).2.1 := by decide +kernel
theorem tyJ2_ok : ∀ k, k < 0 → parseFieldDescriptor (TJ2 k).2.2.1 = some (tyJ2 k) := by decide +kernel
abbrev cJ2_getChar_3b067 : ByteArray := prog_14_method_5_code
def yJ2_getChar_3b067 : MethodName := ⟨RJ2, "getChar", "([BI)C"⟩
abbrev cJ2_length_9d52b : ByteArray := prog_14_method_6_code
def yJ2_length_9d52b : MethodName := ⟨RJ2, "length", "([B)I"⟩
abbrev cJ2_charAt_3b067 : ByteArray := prog_14_method_83_code
def yJ2_charAt_3b067 : MethodName := ⟨RJ2, "charAt", "([BI)C"⟩
abbrev cJ2_checkIndex_2214a : ByteArray := prog_14_method_91_code
def yJ2_checkIndex_2214a : MethodName := ⟨RJ2, "checkIndex", "(I[B)V"⟩
def RJ10 : String := "java/lang/System"
def TJ10 : u_T := fun k => match k with
  | _ => ("", "", "", false)
def tyJ10 : Nat → FieldType := fun k => match k with
  | _ => .int
abbrev wsJ100 : List Cond := u_ws RJ10 TJ10 0
theorem nmJ10 : ∀ a, a < 0 → ∀ b, b < 0 → a ≠ b → (TJ10 a).2.1 ≠ (TJ10 b).2.1 := by decide +kernel
theorem tyJ10_ok : ∀ k, k < 0 → parseFieldDescriptor (TJ10 k).2.2.1 = some (tyJ10 k) := by decide +kernel
def RJ3 : String := "jdk/internal/util/Preconditions"
def TJ3 : u_T := fun k => match k with
  | _ => ("", "", "", false)
def tyJ3 : Nat → FieldType := fun k => match k with
  | _ => .int
abbrev wsJ30 : List Cond := u_ws RJ3 TJ3 0
theorem nmJ3 : ∀ a, a < 0 → ∀ b, b < 0 → a ≠ b → (TJ3 a).2.1 ≠ (TJ3 b).2.1 := by decide +kernel
theorem tyJ3_ok : ∀ k, k < 0 → parseFieldDescriptor (TJ3 k).2.2.1 = some (tyJ3 k) := by decide +kernel
abbrev cJ3_checkIndex_8e157 : ByteArray := prog_16_method_11_code
def yJ3_checkIndex_8e157 : MethodName := ⟨RJ3, "checkIndex", "(IILjava/util/function/BiFunction;)I"⟩
def RL : String := "HandleLoansLaw"
abbrev cL_law : ByteArray := code
abbrev vwCl : List vw_C := [(RX0, TX0, 6), (RX1, TX1, 6), (RX2, TX2, 2), (RX3, TX3, 3), (RX4, TX4, 2), (RX5, TX5, 6), (RX6, TX6, 8), (RX7, TX7, 18)]
end
section
/-! AN ABSTRACT MACHINE over the rows of the two objects: values, heap, one instruction, a run. What it answers the real machine answers (part 04). -/
/-- a value: an int, a long, a cell (its type and which one of it), or nothing that is looked at -/
abbrev AV : Type := Int32 ⊕ (Int64 ⊕ ((Nat × Nat) ⊕ Unit))
/-- the heap: of each type, of each cell of it, of each place: ints and longs; the class' side, the reference's side -/
abbrev HP : Type := ((Nat → Nat → Nat → Int32) × (Nat → Nat → Nat → Int64)) × ((Nat → Nat → Nat → Int32) × (Nat → Nat → Nat → Int64))
/-- what a call answers: an int, nothing, a long, a text's number -/
abbrev AF : Type := (List AV → HP → Option (Int32 × HP)) ⊕ ((List AV → HP → Option HP) ⊕ ((List AV → HP → Option (Int64 × HP)) ⊕ (List AV → HP → Option (Nat × HP))))
/-- an instruction with its place, the next place, and where it may jump to -/
abbrev AC : Type := Nat × Instr × Nat × List Nat
/-- pools: fields, constants, statics, virtual calls, static calls, arraycopy -/
abbrev AP : Type := List (Nat × Nat × Nat) × List (Nat × AV) × List (Nat × AV) × List (Nat × Nat × AF) × List (Nat × Nat × AF) × List (Nat × Unit)
/-- what a return does -/
abbrev AR (ρ : Type) : Type := (Int32 → HP → Option ρ) × (HP → Option ρ) × (Int64 → HP → Option ρ) × (Nat × Nat → HP → Option ρ)
def am_get {α : Type} : List (Nat × α) → Nat → Option α
  | [], _ => none
  | (q, i) :: r, k => match Nat.beq q k with
    | true => some i
    | false => am_get r k
def am_nth : List AV → Nat → Option AV
  | [], _ => none
  | v :: _, 0 => some v
  | _ :: r, n + 1 => am_nth r n
def am_put : List AV → Nat → AV → List AV
  | [], _, _ => []
  | _ :: r, 0, x => x :: r
  | v :: r, n + 1, x => v :: am_put r n x
def am_isL : AV → Bool
  | .inr (.inl _) => true
  | _ => false
/-- the second half of a long lies at this place -/
def am_half : List AV → Nat → Bool
  | v :: _, 1 => am_isL v
  | _ :: r, n + 2 => am_half r (n + 1)
  | _, _ => false
def am_take : Nat → List AV → List AV → Option (List AV × List AV)
  | 0, acc, st => some (acc, st)
  | n + 1, acc, v :: st => am_take n (v :: acc) st
  | _ + 1, _, [] => none
def am_sz : List AV → Nat
  | [] => 0
  | v :: r => (match am_isL v with
    | true => 2
    | false => 1) + am_sz r
def am_rs (c : Nat) : Bool := match c with
  | 7 => true
  | 13 => true
  | 14 => true
  | _ => false
def am_up {α : Type} (f : Nat → Nat → Nat → α) (c j k : Nat) (v : α) : Nat → Nat → Nat → α := fun c' j' k' => if c' = c ∧ j' = j ∧ k' = k then v else f c' j' k'
def h_rI (h : HP) (c j k : Nat) : Int32 := match am_rs c with
  | true => h.2.1 c j k
  | false => h.1.1 c j k
def h_rJ (h : HP) (c j k : Nat) : Int64 := match am_rs c with
  | true => h.2.2 c j k
  | false => h.1.2 c j k
def h_wI (h : HP) (c j k : Nat) (v : Int32) : HP := match am_rs c with
  | true => (h.1, (am_up h.2.1 c j k v, h.2.2))
  | false => ((am_up h.1.1 c j k v, h.1.2), h.2)
def h_wJ (h : HP) (c j k : Nat) (v : Int64) : HP := match am_rs c with
  | true => (h.1, (h.2.1, am_up h.2.2 c j k v))
  | false => ((h.1.1, am_up h.1.2 c j k v), h.2)
def h_cp (h : HP) (j1 j2 sp dp n : Nat) : HP := ((h.1.1, fun c j k => if c = 12 ∧ j = j2 then va_cpy (h.1.2 12 j1) (h.1.2 12 j2) sp dp n k else h.1.2 c j k), h.2)
/-- fields of a class: 0 int, 1 boolean, 2 long, 3 a cell, 4 the int 0 -/
def am_fl (c : Nat) : List Nat := match c with
  | 0 => [0, 0, 0, 0, 0, 0]
  | 1 => [0, 0, 3, 0, 3, 0]
  | 2 => [0, 0]
  | 3 => [0, 0, 3]
  | 4 => [3, 0]
  | 5 => [3, 3, 0, 0, 0, 0]
  | 6 => [3, 3, 3, 1, 3, 3, 3, 3]
  | 7 => [3, 3, 3, 3, 0, 0, 0, 0, 2, 0, 1, 3, 3, 3, 3, 3, 3, 1]
  | 16 => [3, 4]
  | _ => []
def am_ft (c k : Nat) : Nat := (am_fl c).getD k 9
/-- how many cells of a type there are -/
def am_cnt (c : Nat) : Nat := match c with
  | 0 => 24
  | 1 => 3
  | 2 => 18
  | 3 => 4
  | 4 => 1
  | 5 => 1
  | 6 => 1
  | 7 => 1
  | 8 => 3
  | 9 => 3
  | 10 => 1
  | 11 => 2
  | 12 => 4
  | 13 => 8
  | 14 => 2
  | 15 => 1
  | 16 => 12
  | 17 => 12
  | _ => 0
/-- which cell a place of a cell holds -/
def am_rf (c j k : Nat) : Nat × Nat := match c with
  | 1 => (match k with
    | 2 => (8, j)
    | _ => (9, j))
  | 3 => (12, j)
  | 4 => (11, 0)
  | 5 => (match k with
    | 0 => (4, 0)
    | _ => (1, 1))
  | 6 => (match k with
    | 0 => (1, 0)
    | 1 => (1, 1)
    | 2 => (1, 2)
    | 4 => (4, 0)
    | 5 => (5, 0)
    | 6 => (10, 0)
    | _ => (11, 1))
  | 7 => (match k with
    | 0 => (13, 0)
    | 1 => (13, 1)
    | 2 => (13, 2)
    | 3 => (13, 3)
    | 11 => (13, 4)
    | 12 => (13, 5)
    | 13 => (14, 0)
    | 14 => (14, 1)
    | 15 => (13, 6)
    | _ => (13, 7))
  | 8 => (0, 8 * j + k)
  | 9 => (2, 6 * j + k)
  | 10 => (3, k)
  | _ => (17, j)
def am_byt : List (List Int32) := [[109, 101, 109, 98, 101, 114], [108, 111, 97, 110], [102, 114, 111, 109], [116, 111], [119, 101, 97, 114], [97, 116], [98, 114, 97, 115, 115], [98, 111, 110, 101], [114, 111, 112, 101], [107, 110, 111, 98], [108, 97, 116, 99, 104], [104, 97, 110, 100, 108, 101]]
def am_bln : List Nat := [6, 4, 4, 2, 4, 2, 5, 4, 4, 4, 5, 6]
/-- how long a row is -/
def am_len (c j : Nat) : Nat := match c with
  | 8 => 8
  | 9 => 6
  | 10 => 4
  | 11 => (match j with
    | 0 => 120
    | _ => 7)
  | 12 => 40
  | 13 => (match j with
    | 0 => 64
    | 1 => 7
    | 2 => 64
    | 3 => 120
    | 4 => 4
    | 5 => 4
    | 6 => 64
    | _ => 64)
  | 14 => (match j with
    | 0 => 160
    | _ => 40)
  | _ => 0
/-- a place in a row, if it is one -/
def am_ix (i : Int32) (n : Nat) : Option Nat := if i < 0 ∨ n ≤ i.toNatClampNeg then none else some i.toNatClampNeg
def am_hd : List Nat → Nat
  | [] => 0
  | t :: _ => t
def am_sw {ρ : Type} (x : Int32) (k : Nat → Option ρ) (d : Nat) : Int → List Nat → Option ρ
  | _, [] => k d
  | i, t :: r => if x = Int32.ofInt i then k t else am_sw x k d (i + 1) r
/-- a call's answer goes on -/
def am_call {ρ : Type} (F : AF) (as : List AV) (h : HP) (k : List AV → HP → Option ρ) : Option ρ := match F with
  | .inl f => (f as h).bind (fun q => k [.inl q.1] q.2)
  | .inr (.inl f) => (f as h).bind (fun q => k [] q)
  | .inr (.inr (.inl f)) => (f as h).bind (fun q => k [.inr (.inl q.1)] q.2)
  | .inr (.inr (.inr f)) => (f as h).bind (fun q => k [.inr (.inr (.inl (16, q.1)))] q.2)
/-- one instruction: X the script and its length, P the pools, R the returns, go what comes then -/
def am_exec {ρ : Type} (X : (Nat → Int32) × Nat) (P : AP) (R : AR ρ) (ins : Instr) (nx : Nat) (tg : List Nat) (go : Nat → List AV → List AV → HP → Option ρ) (L st : List AV) (h : HP) : Option ρ :=
  match ins with
  | .iconst n => go nx L (.inl (Int32.ofInt n) :: st) h
  | .bipush n => go nx L (.inl (Int8.ofInt n).toInt32 :: st) h
  | .sipush n => go nx L (.inl (Int16.ofInt n).toInt32 :: st) h
  | .lconst n => go nx L (.inr (.inl (Int64.ofNat (n : Nat))) :: st) h
  | .ldc ix => (match am_get P.2.1 ix with
    | some (.inl v) => go nx L (.inl v :: st) h
    | some (.inr (.inr (.inl (16, j)))) => go nx L (.inr (.inr (.inl (16, j))) :: st) h
    | _ => none)
  | .ldc_w ix => (match am_get P.2.1 ix with
    | some (.inl v) => go nx L (.inl v :: st) h
    | _ => none)
  | .ldc2_w ix => (match am_get P.2.1 ix with
    | some (.inr (.inl v)) => go nx L (.inr (.inl v) :: st) h
    | _ => none)
  | .iload n => (match am_nth L n with
    | some (.inl v) => go nx L (.inl v :: st) h
    | _ => none)
  | .iload_n n => (match am_nth L (n : Nat) with
    | some (.inl v) => go nx L (.inl v :: st) h
    | _ => none)
  | .lload n => (match am_nth L n with
    | some (.inr (.inl v)) => go nx L (.inr (.inl v) :: st) h
    | _ => none)
  | .lload_n n => (match am_nth L (n : Nat) with
    | some (.inr (.inl v)) => go nx L (.inr (.inl v) :: st) h
    | _ => none)
  | .aload n => (match am_nth L n with
    | some (.inr (.inr (.inl v))) => go nx L (.inr (.inr (.inl v)) :: st) h
    | _ => none)
  | .aload_n n => (match am_nth L (n : Nat) with
    | some (.inr (.inr (.inl v))) => go nx L (.inr (.inr (.inl v)) :: st) h
    | _ => none)
  | .istore n => (match st with
    | .inl v :: st => (match am_half L n with
      | false => go nx (am_put L n (.inl v)) st h
      | true => none)
    | _ => none)
  | .istore_n n => (match st with
    | .inl v :: st => (match am_half L (n : Nat) with
      | false => go nx (am_put L (n : Nat) (.inl v)) st h
      | true => none)
    | _ => none)
  | .astore n => (match st with
    | .inr (.inr (.inl v)) :: st => (match am_half L n with
      | false => go nx (am_put L n (.inr (.inr (.inl v)))) st h
      | true => none)
    | _ => none)
  | .astore_n n => (match st with
    | .inr (.inr (.inl v)) :: st => (match am_half L (n : Nat) with
      | false => go nx (am_put L (n : Nat) (.inr (.inr (.inl v)))) st h
      | true => none)
    | _ => none)
  | .lstore n => (match st with
    | .inr (.inl v) :: st => (match am_half L n with
      | false => go nx (am_put (am_put L n (.inr (.inl v))) (n + 1) (.inr (.inr (.inr ())))) st h
      | true => none)
    | _ => none)
  | .lstore_n n => (match st with
    | .inr (.inl v) :: st => (match am_half L (n : Nat) with
      | false => go nx (am_put (am_put L (n : Nat) (.inr (.inl v))) ((n : Nat) + 1) (.inr (.inr (.inr ())))) st h
      | true => none)
    | _ => none)
  | .iinc n k => (match am_nth L n with
    | some (.inl v) => (match am_half L n with
      | false => go nx (am_put L n (.inl (v + Int32.ofInt k))) st h
      | true => none)
    | _ => none)
  | .iadd => (match st with
    | .inl y :: .inl x :: st => go nx L (.inl (x + y) :: st) h
    | _ => none)
  | .isub => (match st with
    | .inl y :: .inl x :: st => go nx L (.inl (x - y) :: st) h
    | _ => none)
  | .imul => (match st with
    | .inl y :: .inl x :: st => go nx L (.inl (x * y) :: st) h
    | _ => none)
  | .irem => (match st with
    | .inl y :: .inl x :: st => if y = 0 then none else go nx L (.inl (x - x / y * y) :: st) h
    | _ => none)
  | .iand => (match st with
    | .inl y :: .inl x :: st => go nx L (.inl (x &&& y) :: st) h
    | _ => none)
  | .ior => (match st with
    | .inl y :: .inl x :: st => go nx L (.inl (x ||| y) :: st) h
    | _ => none)
  | .ixor => (match st with
    | .inl y :: .inl x :: st => go nx L (.inl (x ^^^ y) :: st) h
    | _ => none)
  | .ishl => (match st with
    | .inl y :: .inl x :: st => go nx L (.inl (x <<< (y &&& 31)) :: st) h
    | _ => none)
  | .ishr => (match st with
    | .inl y :: .inl x :: st => go nx L (.inl (x >>> (y &&& 31)) :: st) h
    | _ => none)
  | .iushr => (match st with
    | .inl y :: .inl x :: st => go nx L (.inl (x.toUInt32 >>> (y.toUInt32 &&& Int32.toUInt32 31)).toInt32 :: st) h
    | _ => none)
  | .ladd => (match st with
    | .inr (.inl y) :: .inr (.inl x) :: st => go nx L (.inr (.inl (x + y)) :: st) h
    | _ => none)
  | .lsub => (match st with
    | .inr (.inl y) :: .inr (.inl x) :: st => go nx L (.inr (.inl (x - y)) :: st) h
    | _ => none)
  | .lmul => (match st with
    | .inr (.inl y) :: .inr (.inl x) :: st => go nx L (.inr (.inl (x * y)) :: st) h
    | _ => none)
  | .land => (match st with
    | .inr (.inl y) :: .inr (.inl x) :: st => go nx L (.inr (.inl (x &&& y)) :: st) h
    | _ => none)
  | .lor => (match st with
    | .inr (.inl y) :: .inr (.inl x) :: st => go nx L (.inr (.inl (x ||| y)) :: st) h
    | _ => none)
  | .lshl => (match st with
    | .inl y :: .inr (.inl x) :: st => go nx L (.inr (.inl (x <<< (y.toInt64 &&& 63))) :: st) h
    | _ => none)
  | .lshr => (match st with
    | .inl y :: .inr (.inl x) :: st => go nx L (.inr (.inl (x >>> (y.toInt64 &&& 63))) :: st) h
    | _ => none)
  | .lcmp => (match st with
    | .inr (.inl y) :: .inr (.inl x) :: st => go nx L (.inl (lg_cmp x y) :: st) h
    | _ => none)
  | .i2l => (match st with
    | .inl x :: st => go nx L (.inr (.inl x.toInt64) :: st) h
    | _ => none)
  | .l2i => (match st with
    | .inr (.inl x) :: st => go nx L (.inl x.toInt32 :: st) h
    | _ => none)
  | .i2b => (match st with
    | .inl x :: st => go nx L (.inl x.toInt8.toInt32 :: st) h
    | _ => none)
  | .i2s => (match st with
    | .inl x :: st => go nx L (.inl x.toInt16.toInt32 :: st) h
    | _ => none)
  | .i2c => (match st with
    | .inl x :: st => go nx L (.inl (x.toUInt32 % 65536).toInt32 :: st) h
    | _ => none)
  | .pop => (match st with
    | v :: st => (match am_isL v with
      | false => go nx L st h
      | true => none)
    | _ => none)
  | .dup => (match st with
    | v :: st => (match am_isL v with
      | false => go nx L (v :: v :: st) h
      | true => none)
    | _ => none)
  | .dup2 => (match st with
    | v :: w :: st => (match am_isL v, am_isL w with
      | false, false => go nx L (v :: w :: v :: w :: st) h
      | _, _ => none)
    | _ => none)
  | .goto _ => go (am_hd tg) L st h
  | .ifCond cd _ => (match st with
    | .inl x :: st => (match cd with
      | .eq => if x = 0 then go (am_hd tg) L st h else go nx L st h
      | .ne => if x = 0 then go nx L st h else go (am_hd tg) L st h
      | .lt => if x < 0 then go (am_hd tg) L st h else go nx L st h
      | .ge => if 0 ≤ x then go (am_hd tg) L st h else go nx L st h
      | .gt => if 0 < x then go (am_hd tg) L st h else go nx L st h
      | .le => if x ≤ 0 then go (am_hd tg) L st h else go nx L st h)
    | _ => none)
  | .if_icmp cd _ => (match st with
    | .inl y :: .inl x :: st => (match cd with
      | .eq => if x = y then go (am_hd tg) L st h else go nx L st h
      | .ne => if x = y then go nx L st h else go (am_hd tg) L st h
      | .lt => if x < y then go (am_hd tg) L st h else go nx L st h
      | .ge => if y ≤ x then go (am_hd tg) L st h else go nx L st h
      | .gt => if y < x then go (am_hd tg) L st h else go nx L st h
      | .le => if x ≤ y then go (am_hd tg) L st h else go nx L st h)
    | _ => none)
  | .tableswitch _ lo _ _ => (match st, tg with
    | .inl x :: st, d :: ts => am_sw x (fun t => go t L st h) d lo ts
    | _, _ => none)
  | .getfield ix => (match am_get P.1 ix, st with
    | some (c, k), .inr (.inr (.inl (c', j))) :: st => (match Nat.beq c c' with
      | true => (match am_ft c k with
        | 0 => go nx L (.inl (h_rI h c j k) :: st) h
        | 1 => go nx L (.inl (h_rI h c j k) :: st) h
        | 2 => go nx L (.inr (.inl (h_rJ h c j k)) :: st) h
        | 3 => go nx L (.inr (.inr (.inl (am_rf c j k))) :: st) h
        | 4 => go nx L (.inl 0 :: st) h
        | _ => none)
      | false => none)
    | _, _ => none)
  | .putfield ix => (match am_get P.1 ix, st with
    | some (c, k), v :: .inr (.inr (.inl (c', j))) :: st => (match Nat.beq c c', v with
      | true, .inl x => (match am_ft c k with
        | 0 => go nx L st (h_wI h c j k x)
        | 1 => if x &&& 1 = x then go nx L st (h_wI h c j k x) else none
        | _ => none)
      | true, .inr (.inl x) => (match am_ft c k with
        | 2 => go nx L st (h_wJ h c j k x)
        | _ => none)
      | _, _ => none)
    | _, _ => none)
  | .getstatic ix => (match am_get P.2.2.1 ix with
    | some (.inl v) => go nx L (.inl v :: st) h
    | some (.inr (.inr (.inr u))) => go nx L (.inr (.inr (.inr u)) :: st) h
    | _ => none)
  | .arraylength => (match st with
    | .inr (.inr (.inl (c, j))) :: st => (match c with
      | 15 => go nx L (.inl (Int32.ofNat X.2) :: st) h
      | 17 => go nx L (.inl (Int32.ofNat (am_bln.getD j 0)) :: st) h
      | _ => none)
    | _ => none)
  | .iaload => (match st with
    | .inl i :: .inr (.inr (.inl (c, j))) :: st => (match c with
      | 11 => (am_ix i (am_len c j)).bind (fun k => go nx L (.inl (h_rI h c j k) :: st) h)
      | 13 => (am_ix i (am_len c j)).bind (fun k => go nx L (.inl (h_rI h c j k) :: st) h)
      | 15 => (am_ix i X.2).bind (fun k => go nx L (.inl (X.1 k) :: st) h)
      | _ => none)
    | _ => none)
  | .baload => (match st with
    | .inl i :: .inr (.inr (.inl (c, j))) :: st => (match c with
      | 17 => (am_ix i (am_bln.getD j 0)).bind (fun k => go nx L (.inl ((am_byt.getD j []).getD k 0) :: st) h)
      | _ => none)
    | _ => none)
  | .laload => (match st with
    | .inl i :: .inr (.inr (.inl (c, j))) :: st => (match c with
      | 12 => (am_ix i (am_len c j)).bind (fun k => go nx L (.inr (.inl (h_rJ h c j k)) :: st) h)
      | 14 => (am_ix i (am_len c j)).bind (fun k => go nx L (.inr (.inl (h_rJ h c j k)) :: st) h)
      | _ => none)
    | _ => none)
  | .aaload => (match st with
    | .inl i :: .inr (.inr (.inl (c, j))) :: st => (match c with
      | 8 => (am_ix i (am_len c j)).bind (fun k => go nx L (.inr (.inr (.inl (am_rf c j k))) :: st) h)
      | 9 => (am_ix i (am_len c j)).bind (fun k => go nx L (.inr (.inr (.inl (am_rf c j k))) :: st) h)
      | 10 => (am_ix i (am_len c j)).bind (fun k => go nx L (.inr (.inr (.inl (am_rf c j k))) :: st) h)
      | _ => none)
    | _ => none)
  | .iastore => (match st with
    | .inl x :: .inl i :: .inr (.inr (.inl (c, j))) :: st => (match c with
      | 11 => (am_ix i (am_len c j)).bind (fun k => go nx L st (h_wI h c j k x))
      | 13 => (am_ix i (am_len c j)).bind (fun k => go nx L st (h_wI h c j k x))
      | _ => none)
    | _ => none)
  | .lastore => (match st with
    | .inr (.inl x) :: .inl i :: .inr (.inr (.inl (c, j))) :: st => (match c with
      | 12 => (am_ix i (am_len c j)).bind (fun k => go nx L st (h_wJ h c j k x))
      | 14 => (am_ix i (am_len c j)).bind (fun k => go nx L st (h_wJ h c j k x))
      | _ => none)
    | _ => none)
  | .invokevirtual ix => (match am_get P.2.2.2.1 ix with
    | some (n, F) => (match am_take n [] st with
      | some (as, rest) => (match Nat.ble (am_sz rest) 8 with
        | true => am_call F as h (fun r h => go nx L (r ++ rest) h)
        | false => none)
      | none => none)
    | none => none)
  | .invokestatic ix => (match am_get P.2.2.2.2.1 ix with
    | some (n, F) => (match am_take n [] st with
      | some (as, rest) => (match Nat.ble (am_sz rest) 8 with
        | true => am_call F as h (fun r h => go nx L (r ++ rest) h)
        | false => none)
      | none => none)
    | none => (match am_get P.2.2.2.2.2 ix, st with
      | some _, .inl n :: .inl dp :: .inr (.inr (.inl (12, j2))) :: .inl sp :: .inr (.inr (.inl (12, j1))) :: [] =>
        if sp < 0 ∨ dp < 0 ∨ n < 0 ∨ 40 < sp.toNatClampNeg + n.toNatClampNeg ∨ 40 < dp.toNatClampNeg + n.toNatClampNeg then none
        else go nx L [] (h_cp h j1 j2 sp.toNatClampNeg dp.toNatClampNeg n.toNatClampNeg)
      | _, _ => none))
  | .ireturn => (match st with
    | [.inl v] => R.1 v h
    | _ => none)
  | .return_ => (match st with
    | [] => R.2.1 h
    | _ => none)
  | .lreturn => (match st with
    | [.inr (.inl v)] => R.2.2.1 v h
    | _ => none)
  | .areturn => (match st with
    | [.inr (.inr (.inl v))] => R.2.2.2 v h
    | _ => none)
  | _ => none
/-- a run from a place on: K says at which places it is handed over -/
def am_run {ρ : Type} (X : (Nat → Int32) × Nat) (P : AP) (R : AR ρ) (C : List AC) (K : List (Nat × (List AV → List AV → HP → Option ρ))) : Nat → Nat → List AV → List AV → HP → Option ρ
  | 0, _, _, _, _ => none
  | n + 1, pc, L, st, h => match am_get C pc with
    | none => none
    | some (ins, nx, tg) => am_exec X P R ins nx tg (fun pc' L' st' h' => match am_get K pc' with
      | some k => k L' st' h'
      | none => am_run X P R C K n pc' L' st' h') L st h
def am_rI : AR (Int32 × HP) := (fun v h => some (v, h), fun _ => none, fun _ _ => none, fun _ _ => none)
def am_rZ : AR (Int32 × HP) := (fun v h => some (v &&& 1, h), fun _ => none, fun _ _ => none, fun _ _ => none)
def am_rV : AR HP := (fun _ _ => none, fun h => some h, fun _ _ => none, fun _ _ => none)
def am_rJ : AR (Int64 × HP) := (fun _ _ => none, fun _ => none, fun v h => some (v, h), fun _ _ => none)
def am_rR : AR (Nat × HP) := (fun _ _ => none, fun _ => none, fun _ _ => none, fun v h => match Nat.beq 16 v.1 with
  | true => some (v.2, h)
  | false => none)
def am_rB : AR (Int32 × HP) := (fun v h => some (v.toInt8.toInt32, h), fun _ => none, fun _ _ => none, fun _ _ => none)
def am_rC : AR (Int32 × HP) := (fun v h => some (v.toUInt32.toUInt16.toUInt32.toInt32, h), fun _ => none, fun _ _ => none, fun _ _ => none)
end
section
/-! THE ABSTRACT HEAP AS A WORLD OF CELLS -/
/-- what is fixed in a run: classes and slots, classes of rows, where the cells lie, the texts and their bytes, the script, a static that nobody looks at -/
abbrev AG : Type := va_G × (Nat → ClassId) × (Nat → Nat) × (Nat → Nat) × (Nat → Nat) × (Nat × Nat × (Nat → Int32)) × Value
def am_off (c : Nat) : Nat := match c with
  | 0 => 0
  | 1 => 24
  | 2 => 27
  | 3 => 45
  | 4 => 49
  | 5 => 50
  | 6 => 51
  | 7 => 52
  | 8 => 53
  | 9 => 56
  | 10 => 59
  | 11 => 60
  | 12 => 62
  | 13 => 66
  | 14 => 74
  | _ => 76
def am_dec (i : Nat) : Nat × Nat := if i < 24 then (0, i) else if i < 27 then (1, i - 24) else if i < 45 then (2, i - 27) else if i < 49 then (3, i - 45) else if i < 50 then (4, 0) else if i < 51 then (5, 0) else if i < 52 then (6, 0) else if i < 53 then (7, 0) else if i < 56 then (8, i - 53) else if i < 59 then (9, i - 56) else if i < 60 then (10, 0) else if i < 62 then (11, i - 60) else if i < 66 then (12, i - 62) else if i < 74 then (13, i - 66) else (14, i - 74)
theorem am_dec_off : ∀ c, c < 15 → ∀ j, j < am_cnt c → am_dec (am_off c + j) = (c, j) ∧ am_off c + j < 76 := by decide +kernel
theorem am_off_dec : ∀ i, i < 76 → (am_dec i).1 < 15 ∧ (am_dec i).2 < am_cnt (am_dec i).1 ∧ am_off (am_dec i).1 + (am_dec i).2 = i := by decide +kernel
def am_loc (G : AG) (q : Nat × Nat) : Nat := match q.1 with
  | 15 => G.2.2.2.2.2.1.1
  | 16 => G.2.2.2.1 q.2
  | 17 => G.2.2.2.2.1 q.2
  | c => G.2.2.1 (am_off c + q.2)
def am_tr (G : AG) : AV → Value
  | .inl x => .int x
  | .inr (.inl x) => .long x
  | .inr (.inr (.inl q)) => .ref (am_loc G q)
  | .inr (.inr (.inr _)) => G.2.2.2.2.2.2
def am_wv : AV → Prop
  | .inr (.inr (.inl q)) => q.2 < am_cnt q.1
  | _ => True
def am_fv (G : AG) (h : HP) (c j k : Nat) : Value := match am_ft c k with
  | 2 => .long (h_rJ h c j k)
  | 3 => .ref (am_loc G (am_rf c j k))
  | _ => .int (h_rI h c j k)
def am_cell (G : AG) (h : HP) (c j : Nat) : va_E := match c with
  | 8 => .inl (G.2.1 8, 8, .inr (.inr (.inr (.inr (fun i => some (am_loc G (am_rf 8 j i)))))))
  | 9 => .inl (G.2.1 9, 6, .inr (.inr (.inr (.inr (fun i => some (am_loc G (am_rf 9 j i)))))))
  | 10 => .inl (G.2.1 10, 4, .inr (.inr (.inr (.inr (fun i => some (am_loc G (am_rf 10 j i)))))))
  | 11 => .inl (G.2.1 11, am_len 11 j, .inl (fun k => h_rI h 11 j k))
  | 12 => .inl (G.2.1 12, am_len 12 j, .inr (.inl (fun k => h_rJ h 12 j k)))
  | 13 => .inl (G.2.1 11, am_len 13 j, .inl (fun k => h_rI h 13 j k))
  | 14 => .inl (G.2.1 12, am_len 14 j, .inr (.inl (fun k => h_rJ h 14 j k)))
  | c => .inr (c, (List.range (am_fl c).length).map (am_fv G h c j))
def am_w (G : AG) (h : HP) : va_W := (List.range 76).map (fun i => (G.2.2.1 i, am_cell G h (am_dec i).1 (am_dec i).2))
def am_reg (G : AG) : Nat → Prop := fun q => ∃ i, i < 76 ∧ q = G.2.2.1 i
def am_tys (G : AG) : List (ClassId × FieldType) := [(G.2.1 8, .object RX0), (G.2.1 9, .object RX2), (G.2.1 10, .object RX3), (G.2.1 11, .int), (G.2.1 12, .long)]
def am_six (i : Nat) : Nat := ([44, 53, 66, 72, 74, 83, 98, 100, 102, 104, 106, 108] : List Nat).getD i 0
def am_stx (i : Nat) : String := (["member", "loan", "from", "to", "wear", "at", "brass", "bone", "rope", "knob", "latch", "handle"] : List String).getD i ""
/-- what holds of the tables, of what nobody writes, and of where the cells lie -/
def am_E (G : AG) (U : State) : Prop :=
  va_K G.1 vwCl (am_tys G) U ∧ va_X G.2.2.2.2.2.1.1 G.2.2.2.2.2.1.2.1 G.2.2.2.2.2.1.2.2 U U.heap ∧ ¬ am_reg G G.2.2.2.2.2.1.1 ∧ vk_S 12 am_bln am_byt G.2.2.2.1 G.2.2.2.2.1 (am_reg G) U U.heap ∧ (∀ i, i < 12 → vk_R RX5 (am_six i) (am_stx i) (G.2.2.2.1 i) U) ∧
  va_Z "java/lang/String" "COMPACT_STRINGS" "Z" (.int 1) (am_reg G) U U.heap ∧ va_Z "jdk/internal/util/Preconditions" "SIOOBE_FORMATTER" "Ljava/util/function/BiFunction;" G.2.2.2.2.2.2 (am_reg G) U U.heap ∧ G.2.2.2.2.2.2.category = 1 ∧ (∀ i j, i < 76 → j < 76 → G.2.2.1 i = G.2.2.1 j → i = j)
theorem am_E.call {G : AG} {U : State} {g : JFrame} {mk : MethodId} {a : Array Value} (h : am_E G U) : am_E G (U.calling g mk a) := by
  obtain ⟨h1, h2, h3, h4, h5, h6, h7, h8⟩ := h
  exact ⟨va_K.moved (u := U) (U := U.calling g mk a) (Vm.Alike.refl U.vm) h1, va_X.moved (u := U) (U := U.calling g mk a) (Vm.Alike.refl U.vm) h2, h3, vk_S.moved (u := U) (U := U.calling g mk a) (Vm.Alike.refl U.vm) h4, fun i hi => vk_R.same (u := U) (U := U.calling g mk a) rfl (h5 i hi), va_Z.moved (u := U) (U := U.calling g mk a) (Vm.Alike.refl U.vm) h6, va_Z.moved (u := U) (U := U.calling g mk a) (Vm.Alike.refl U.vm) h7, h8⟩
theorem am_E.go {G : AG} {s U : State} {locs : List Loc} (h : am_E G s) (hS : va_S (am_reg G) s.heap U.heap locs) (hW : s.WarmedH U.vm) : am_E G U := by
  obtain ⟨h1, h2, h3, h4, h5, h6, h7, h8⟩ := h
  have hq := hS.2.1
  refine ⟨va_K.moved hW.alike h1, va_X.moved hW.alike (h2.kept (hq _ ?_ h3)), h3, vk_S.moved hW.alike (h4.kept hq), fun i hi => vk_R.warm hW (h5 i hi), va_Z.moved hW.alike (h6.kept hq), va_Z.moved hW.alike (h7.kept hq), h8⟩
  obtain ⟨scr, hs, -⟩ := h2
  exact (Array.getElem?_eq_some_iff.mp hs).1
theorem am_w_at (G : AG) (h : HP) {c j : Nat} (hc : c < 15) (hj : j < am_cnt c) : (am_w G h)[am_off c + j]? = some (G.2.2.1 (am_off c + j), am_cell G h c j) := by
  obtain ⟨h1, h2⟩ := am_dec_off c hc j hj
  rw [am_w, List.getElem?_map, List.getElem?_range h2]
  simp [h1]
theorem am_D (G : AG) (hi : ∀ i j, i < 76 → j < 76 → G.2.2.1 i = G.2.2.1 j → i = j) (h : HP) : va_D (am_reg G) (am_w G h) := by
  have key : ∀ (k : Nat) (q : Nat × va_E), (am_w G h)[k]? = some q → k < 76 ∧ q.1 = G.2.2.1 k := by
    intro k q hq
    have hk : k < 76 := by
      have := (List.getElem?_eq_some_iff.mp hq).1
      simpa [am_w] using this
    rw [am_w, List.getElem?_map, List.getElem?_range hk] at hq
    cases hq
    exact ⟨hk, rfl⟩
  refine ⟨fun i j p q hp hq e => ?_, fun k q hq => ?_⟩
  · obtain ⟨a1, a2⟩ := key i p hp
    obtain ⟨b1, b2⟩ := key j q hq
    exact hi i j a1 b1 (by rw [← a2, ← b2, e])
  · obtain ⟨a1, a2⟩ := key k q hq
    exact ⟨k, a1, a2⟩
theorem am_cell_congr (G : AG) {h h2 : HP} {c j : Nat} (e1 : ∀ k, h_rI h2 c j k = h_rI h c j k) (e2 : ∀ k, h_rJ h2 c j k = h_rJ h c j k) : am_cell G h2 c j = am_cell G h c j := by
  have e3 : am_fv G h2 c j = am_fv G h c j := by
    funext k
    unfold am_fv
    rw [e1, e2]
  unfold am_cell
  split <;> first | rfl | (simp only [e1]; done) | (simp only [e2]; done) | (rw [e3]; done)
/-- one cell's change is the world's -/
theorem am_w_set (G : AG) {h h2 : HP} {c j : Nat} (hc : c < 15) (hj : j < am_cnt c) (e : ∀ c' j' k, ¬ (c' = c ∧ j' = j) → h_rI h2 c' j' k = h_rI h c' j' k ∧ h_rJ h2 c' j' k = h_rJ h c' j' k) :
    (am_w G h).set (am_off c + j) (G.2.2.1 (am_off c + j), am_cell G h2 c j) = am_w G h2 := by
  obtain ⟨h1, h2'⟩ := am_dec_off c hc j hj
  apply List.ext_getElem?
  intro i
  rw [List.getElem?_set]
  by_cases hi : am_off c + j = i
  · subst hi
    rw [if_pos rfl, if_pos (by simpa [am_w] using h2')]
    rw [am_w_at G h2 hc hj]
  · rw [if_neg hi]
    by_cases hl : i < 76
    · obtain ⟨g1, g2, g3⟩ := am_off_dec i hl
      have hne : ¬ ((am_dec i).1 = c ∧ (am_dec i).2 = j) := by
        rintro ⟨e1, e2⟩
        rw [e1, e2] at g3
        exact hi g3
      have hh := am_cell_congr G (fun k => (e _ _ k hne).1) (fun k => (e _ _ k hne).2)
      simp only [am_w, List.getElem?_map, List.getElem?_range hl, Option.map_some, hh]
    · simp [am_w, hl]
theorem h_rI_wI (h : HP) (c j k c' j' k' : Nat) (v : Int32) : h_rI (h_wI h c j k v) c' j' k' = if c' = c ∧ j' = j ∧ k' = k then v else h_rI h c' j' k' := by
  unfold h_rI h_wI
  cases e1 : am_rs c <;> cases e2 : am_rs c' <;> simp only [am_up]
  · have hn : ¬ (c' = c ∧ j' = j ∧ k' = k) := fun q => by rw [q.1, e1] at e2; cases e2
    rw [if_neg hn]
  · have hn : ¬ (c' = c ∧ j' = j ∧ k' = k) := fun q => by rw [q.1, e1] at e2; cases e2
    rw [if_neg hn]
theorem h_rJ_wI (h : HP) (c j k c' j' k' : Nat) (v : Int32) : h_rJ (h_wI h c j k v) c' j' k' = h_rJ h c' j' k' := by
  unfold h_rJ h_wI
  cases am_rs c <;> cases am_rs c' <;> rfl
theorem h_rJ_wJ (h : HP) (c j k c' j' k' : Nat) (v : Int64) : h_rJ (h_wJ h c j k v) c' j' k' = if c' = c ∧ j' = j ∧ k' = k then v else h_rJ h c' j' k' := by
  unfold h_rJ h_wJ
  cases e1 : am_rs c <;> cases e2 : am_rs c' <;> simp only [am_up]
  · have hn : ¬ (c' = c ∧ j' = j ∧ k' = k) := fun q => by rw [q.1, e1] at e2; cases e2
    rw [if_neg hn]
  · have hn : ¬ (c' = c ∧ j' = j ∧ k' = k) := fun q => by rw [q.1, e1] at e2; cases e2
    rw [if_neg hn]
theorem h_rI_wJ (h : HP) (c j k c' j' k' : Nat) (v : Int64) : h_rI (h_wJ h c j k v) c' j' k' = h_rI h c' j' k' := by
  unfold h_rI h_wJ
  cases am_rs c <;> cases am_rs c' <;> rfl
theorem am_w_wI (G : AG) (h : HP) {c j : Nat} (k : Nat) (v : Int32) (hc : c < 15) (hj : j < am_cnt c) : (am_w G h).set (am_off c + j) (G.2.2.1 (am_off c + j), am_cell G (h_wI h c j k v) c j) = am_w G (h_wI h c j k v) :=
  am_w_set G hc hj (fun c' j' k' hn => ⟨by rw [h_rI_wI, if_neg (fun q => hn ⟨q.1, q.2.1⟩)], h_rJ_wI _ _ _ _ _ _ _ _⟩)
theorem am_w_wJ (G : AG) (h : HP) {c j : Nat} (k : Nat) (v : Int64) (hc : c < 15) (hj : j < am_cnt c) : (am_w G h).set (am_off c + j) (G.2.2.1 (am_off c + j), am_cell G (h_wJ h c j k v) c j) = am_w G (h_wJ h c j k v) :=
  am_w_set G hc hj (fun c' j' k' hn => ⟨h_rI_wJ _ _ _ _ _ _ _ _, by rw [h_rJ_wJ, if_neg (fun q => hn ⟨q.1, q.2.1⟩)]⟩)
theorem h_rJ_cp (h : HP) (j1 j2 sp dp n c j k : Nat) : h_rJ (h_cp h j1 j2 sp dp n) c j k = if c = 12 ∧ j = j2 then va_cpy (h_rJ h 12 j1) (h_rJ h 12 j2) sp dp n k else h_rJ h c j k := by
  have e12 : am_rs 12 = false := rfl
  have e0 : ∀ j, h_rJ h 12 j = h.1.2 12 j := fun j => by funext k; simp [h_rJ, e12]
  rw [e0, e0]
  unfold h_rJ h_cp
  cases e2 : am_rs c
  · rfl
  · have hn : ¬ (c = 12 ∧ j = j2) := fun q => by rw [q.1, e12] at e2; cases e2
    simp only [if_neg hn]
theorem h_rI_cp (h : HP) (j1 j2 sp dp n c j k : Nat) : h_rI (h_cp h j1 j2 sp dp n) c j k = h_rI h c j k := by
  unfold h_rI h_cp
  cases am_rs c <;> rfl
theorem am_w_cp (G : AG) (h : HP) {j1 j2 : Nat} (sp dp n : Nat) (hj : j2 < 4) : (am_w G h).set (am_off 12 + j2) (G.2.2.1 (am_off 12 + j2), am_cell G (h_cp h j1 j2 sp dp n) 12 j2) = am_w G (h_cp h j1 j2 sp dp n) :=
  am_w_set G (by decide) hj (fun c' j' k' hn => ⟨h_rI_cp _ _ _ _ _ _ _ _ _, by rw [h_rJ_cp, if_neg hn]⟩)
/-- an object's fields behind a put -/
theorem am_fs_wI (G : AG) (h : HP) {c j k n : Nat} (v : Int32) (hk : am_ft c k = 0 ∨ am_ft c k = 1) : ((List.range n).map (am_fv G h c j)).set k (.int v) = (List.range n).map (am_fv G (h_wI h c j k v) c j) := by
  apply List.ext_getElem?
  intro i
  rw [List.getElem?_set]
  by_cases hi : k = i
  · subst hi
    rw [if_pos rfl]
    by_cases hl : k < n
    · rw [if_pos (by simpa using hl), List.getElem?_map, List.getElem?_range hl]
      have : am_fv G (h_wI h c j k v) c j k = .int v := by
        unfold am_fv
        rcases hk with e | e <;> simp [e, h_rI_wI]
      simp [this]
    · simp [hl]
  · rw [if_neg hi]
    by_cases hl : i < n
    · have : am_fv G (h_wI h c j k v) c j i = am_fv G h c j i := by
        unfold am_fv
        rw [h_rI_wI, h_rJ_wI, if_neg (fun q => hi q.2.2.symm)]
      simp [List.getElem?_map, List.getElem?_range hl, this]
    · simp [hl]
theorem am_fs_wJ (G : AG) (h : HP) {c j k n : Nat} (v : Int64) (hk : am_ft c k = 2) : ((List.range n).map (am_fv G h c j)).set k (.long v) = (List.range n).map (am_fv G (h_wJ h c j k v) c j) := by
  apply List.ext_getElem?
  intro i
  rw [List.getElem?_set]
  by_cases hi : k = i
  · subst hi
    rw [if_pos rfl]
    by_cases hl : k < n
    · rw [if_pos (by simpa using hl), List.getElem?_map, List.getElem?_range hl]
      have : am_fv G (h_wJ h c j k v) c j k = .long v := by
        unfold am_fv
        simp [hk, h_rJ_wJ]
      simp [this]
    · simp [hl]
  · rw [if_neg hi]
    by_cases hl : i < n
    · have : am_fv G (h_wJ h c j k v) c j i = am_fv G h c j i := by
        unfold am_fv
        rw [h_rI_wJ, h_rJ_wJ, if_neg (fun q => hi q.2.2.symm)]
      simp [List.getElem?_map, List.getElem?_range hl, this]
    · simp [hl]
theorem am_cell_o (G : AG) (h : HP) {c j : Nat} (hc : c < 8) : am_cell G h c j = .inr (c, (List.range (am_fl c).length).map (am_fv G h c j)) := by
  unfold am_cell
  split <;> first | omega | rfl
theorem am_loc_o (G : AG) {c j : Nat} (hc : c < 15) : am_loc G (c, j) = G.2.2.1 (am_off c + j) := by
  unfold am_loc
  dsimp only
  split <;> first | omega | rfl
end
section
/-! THE REAL MACHINE DOES WHAT THE ABSTRACT ONE DOES -/
theorem am_get_mem {α : Type} : ∀ (C : List (Nat × α)) (k : Nat) (v : α), am_get C k = some v → (k, v) ∈ C
  | [], k, v, h => by cases h
  | (q, i) :: r, k, v, h => by
    unfold am_get at h
    cases e : Nat.beq q k with
    | true =>
      rw [e] at h
      cases h
      rw [Nat.eq_of_beq_eq_true e]
      exact List.mem_cons_self
    | false =>
      rw [e] at h
      exact List.mem_cons_of_mem _ (am_get_mem r k v h)
def am_un : AV := .inr (.inr (.inr ()))
def am_LR (G : AG) (nL : Nat) (ls : Array Slot) (L : List AV) : Prop := L.length = nL ∧ ls.size = nL ∧ lv_wf ls ∧ ∀ (i : Nat) (v : AV), am_nth L i = some v → v ≠ am_un → ls[i]? = some (.val (am_tr G v))
def am_lv (G : AG) : Nat → List AV → List (Nat × Value)
  | _, [] => []
  | k, v :: r => (match v with
    | .inr (.inr (.inr _)) => am_lv G (k + 1) r
    | v => (k, am_tr G v) :: am_lv G (k + 1) r)
theorem am_lv_mem (G : AG) : ∀ (L : List AV) (k : Nat) (q : Nat × Value), q ∈ am_lv G k L ↔ ∃ i v, am_nth L i = some v ∧ v ≠ am_un ∧ q = (k + i, am_tr G v)
  | [], k, q => by simp [am_lv, am_nth]
  | v :: r, k, q => by
    have ih := am_lv_mem G r (k + 1) q
    constructor
    · intro h
      have hor : (v ≠ am_un ∧ q = (k, am_tr G v)) ∨ q ∈ am_lv G (k + 1) r := by
        rcases v with x | x | x | x
        · rcases List.mem_cons.mp h with h | h
          · exact Or.inl ⟨(fun e => by cases e), h⟩
          · exact Or.inr h
        · rcases List.mem_cons.mp h with h | h
          · exact Or.inl ⟨(fun e => by cases e), h⟩
          · exact Or.inr h
        · rcases List.mem_cons.mp h with h | h
          · exact Or.inl ⟨(fun e => by cases e), h⟩
          · exact Or.inr h
        · exact Or.inr h
      rcases hor with ⟨h1, h2⟩ | h
      · exact ⟨0, v, rfl, h1, h2⟩
      · obtain ⟨i, w, h1, h2, h3⟩ := ih.mp h
        exact ⟨i + 1, w, h1, h2, by rw [h3]; congr 1; omega⟩
    · rintro ⟨i, w, h1, h2, h3⟩
      cases i with
      | zero =>
        cases h1
        rcases v with x | x | x | x
        · exact List.mem_cons.mpr (Or.inl h3)
        · exact List.mem_cons.mpr (Or.inl h3)
        · exact List.mem_cons.mpr (Or.inl h3)
        · exact absurd rfl h2
      | succ i =>
        have hm : q ∈ am_lv G (k + 1) r := ih.mpr ⟨i, w, h1, h2, by rw [h3]; congr 1; omega⟩
        rcases v with x | x | x | x
        · exact List.mem_cons_of_mem _ hm
        · exact List.mem_cons_of_mem _ hm
        · exact List.mem_cons_of_mem _ hm
        · exact hm
theorem am_LR.has {G : AG} {nL : Nat} {ls : Array Slot} {L : List AV} (h : am_LR G nL ls L) : lv_has ls nL (am_lv G 0 L) := by
  refine ⟨h.2.1, h.2.2.1, fun q hq => ?_⟩
  obtain ⟨i, v, h1, h2, h3⟩ := (am_lv_mem G L 0 q).mp hq
  rw [h3]
  show ls[0 + i]? = _
  rw [Nat.zero_add]
  exact h.2.2.2 i v h1 h2
theorem am_put_len : ∀ (L : List AV) (i : Nat) (x : AV), (am_put L i x).length = L.length
  | [], _, _ => rfl
  | _ :: r, 0, _ => rfl
  | _ :: r, n + 1, x => congrArg (· + 1) (am_put_len r n x)
theorem am_put_same : ∀ (L : List AV) (i : Nat) (x v : AV), am_nth (am_put L i x) i = some v → v = x
  | [], _, _, _, h => by cases h
  | _ :: r, 0, _, _, h => (Option.some.inj h).symm
  | _ :: r, n + 1, x, v, h => am_put_same r n x v h
theorem am_put_ne : ∀ (L : List AV) (i j : Nat) (x : AV), j ≠ i → am_nth (am_put L i x) j = am_nth L j
  | [], _, _, _, _ => rfl
  | _ :: r, 0, 0, _, h => absurd rfl h
  | _ :: r, 0, j + 1, _, _ => rfl
  | _ :: r, n + 1, 0, x, _ => rfl
  | _ :: r, n + 1, j + 1, x, h => am_put_ne r n j x (fun e => h (by rw [e]))
theorem am_half_nth : ∀ (L : List AV) (i : Nat) (v : AV), am_nth L i = some v → am_half L (i + 1) = am_isL v
  | [], _, _, h => by cases h
  | w :: r, 0, v, h => by
    cases h
    rfl
  | w :: r, n + 1, v, h => am_half_nth r n v h
theorem am_nth_mem : ∀ (L : List AV) (i : Nat) (v : AV), am_nth L i = some v → v ∈ L
  | [], _, _, h => by cases h
  | w :: r, 0, v, h => by
    cases h
    exact List.mem_cons_self
  | w :: r, n + 1, v, h => List.mem_cons_of_mem _ (am_nth_mem r n v h)
theorem am_put_mem : ∀ (L : List AV) (i : Nat) (x v : AV), v ∈ am_put L i x → v = x ∨ v ∈ L
  | [], _, _, _, h => by cases h
  | w :: r, 0, x, v, h => by
    rcases List.mem_cons.mp h with h | h
    · exact Or.inl h
    · exact Or.inr (List.mem_cons_of_mem _ h)
  | w :: r, n + 1, x, v, h => by
    rcases List.mem_cons.mp h with h | h
    · exact Or.inr (List.mem_cons.mpr (Or.inl h))
    · rcases am_put_mem r n x v h with h | h
      · exact Or.inl h
      · exact Or.inr (List.mem_cons_of_mem _ h)
theorem am_cat {G : AG} (hs : G.2.2.2.2.2.2.category = 1) (v : AV) : (am_tr G v).category = (match am_isL v with
    | true => 2
    | false => 1) := by
  rcases v with x | x | x | x
  · rfl
  · rfl
  · rfl
  · exact hs
theorem am_sz_eq {G : AG} (hs : G.2.2.2.2.2.2.category = 1) : ∀ (L : List AV), ((L.map (am_tr G)).map fun v => v.category).sum = am_sz L
  | [] => rfl
  | v :: r => by
    rw [List.map_cons, List.map_cons, List.sum_cons, am_sz_eq hs r, am_cat hs v]
    rfl
/-- a value of one slot is stored -/
theorem am_LR.st1 {G : AG} {nL : Nat} {ls ls' : Array Slot} {L : List AV} {i : Nat} {x : AV} (hs : G.2.2.2.2.2.2.category = 1) (h : am_LR G nL ls L) (hh : am_half L i = false)
    (h' : lv_has ls' nL ((i, am_tr G x) :: (am_lv G 0 L).filter (fun q => !(q.1 == i) && !(q.1 + 1 == i && q.2.category == 2)))) : am_LR G nL ls' (am_put L i x) := by
  refine ⟨by rw [am_put_len]; exact h.1, h'.1, h'.2.1, fun j v hj hv => ?_⟩
  by_cases e : j = i
  · subst e
    rw [am_put_same L j x v hj]
    exact h'.2.2 _ List.mem_cons_self
  · rw [am_put_ne L i j x e] at hj
    refine h'.2.2 (j, am_tr G v) (List.mem_cons_of_mem _ (List.mem_filter.mpr ⟨(am_lv_mem G L 0 _).mpr ⟨j, v, hj, hv, by rw [Nat.zero_add]⟩, ?_⟩))
    have h1 : (j == i) = false := by simpa using e
    have h2 : (j + 1 == i && (am_tr G v).category == 2) = false := by
      by_cases e2 : j + 1 = i
      · have h3 := am_half_nth L j v hj
        rw [e2, hh] at h3
        rw [am_cat hs v, ← h3]
        simp
      · simp [e2]
    simp only [h1, h2]
    rfl
theorem am_LR.st2 {G : AG} {nL : Nat} {ls ls' : Array Slot} {L : List AV} {i : Nat} {x : AV} (hs : G.2.2.2.2.2.2.category = 1) (h : am_LR G nL ls L) (hh : am_half L i = false)
    (h' : lv_has ls' nL ((i, am_tr G x) :: (am_lv G 0 L).filter (fun q => !(q.1 == i) && (!(q.1 == i + 1) && !(q.1 + 1 == i && q.2.category == 2))))) : am_LR G nL ls' (am_put (am_put L i x) (i + 1) am_un) := by
  refine ⟨by rw [am_put_len, am_put_len]; exact h.1, h'.1, h'.2.1, fun j v hj hv => ?_⟩
  by_cases e0 : j = i + 1
  · subst e0
    exact absurd (am_put_same _ _ _ _ hj) hv
  rw [am_put_ne _ _ _ _ e0] at hj
  by_cases e : j = i
  · subst e
    rw [am_put_same L j x v hj]
    exact h'.2.2 _ List.mem_cons_self
  · rw [am_put_ne L i j x e] at hj
    refine h'.2.2 (j, am_tr G v) (List.mem_cons_of_mem _ (List.mem_filter.mpr ⟨(am_lv_mem G L 0 _).mpr ⟨j, v, hj, hv, by rw [Nat.zero_add]⟩, ?_⟩))
    have h1 : (j == i) = false := by simpa using e
    have h0 : (j == i + 1) = false := by simpa using e0
    have h2 : (j + 1 == i && (am_tr G v).category == 2) = false := by
      by_cases e2 : j + 1 = i
      · have h3 := am_half_nth L j v hj
        rw [e2, hh] at h3
        rw [am_cat hs v, ← h3]
        simp
      · simp [e2]
    simp only [h0, h1, h2]
    rfl
/-- an int comes back cut to its type -/
theorem am_nret {p : Program} {l : Launch} {e : Env} {R : Room} {s : State} {m : MethodId} {args : Array Value} {below : List Frame} {meth : Method} {c : Code} {H : Heap} {locs : List Loc} {cells slots : Nat} {cc : ByteArray} {Qc : Array Value → State → Outcome → State → Prop} {free : Addr → Prop} {v w : Int32} {ty : FieldType} (hexec : p.tables.exec = Jvm.exec) (hb : c.code = cc) (hr : meth.sig.returnType = some ty) (hn : narrow ty (.int v) = .int w)
    (hq : ∀ t : State, t.heap = H → s.WarmedH t.vm → Qc args s (.returned (some (.int w))) t) (hf : ∀ q ∈ locs, free q.base)
    {pc : Nat} {ls : Array Slot} (hdg : decode cc pc = .ok (.ireturn, 1)) (hlocks : meth.locks = false) : W p l e R s m args below meth c H locs cells slots (MQ below Qc args s cells slots free) (F0 m pc ls [.int v]) := by
  intro T hT X
  obtain ⟨fs, hret, hrun, hended, hW, hframe⟩ := X.leave (v := some (.int w)) (fun h => by rw [hr] at h; cases h)
  have hmeth' : T.vm.method? m = some meth := X.method'
  refine ⟨T.setFrames fs, ?_, .returned (some (.int w)), hrun, hended, hq _ hT hW, locs, ⟨⟨_, rfl⟩, hW, hframe⟩, hf⟩
  jvm_step X.here [X.here.top, hexec, hb, hdg, hmeth', hr, hn]
  (try refine ⟨rfl, ?_⟩); (try refine ⟨rfl, ?_⟩)
  first | (intro acts; rw [hret _ acts rfl rfl rfl]) | rw [hret _ _ rfl rfl rfl]
  exact Steps.refl _
end
section
/-! ONE INSTRUCTION OF THE ABSTRACT MACHINE IS ONE OF THE REAL ONE -/
def am_il : Instr → Nat
  | .bipush _ => 2
  | .ldc _ => 2
  | .iload _ => 2
  | .lload _ => 2
  | .aload _ => 2
  | .istore _ => 2
  | .lstore _ => 2
  | .astore _ => 2
  | .sipush _ => 3
  | .ldc_w _ => 3
  | .ldc2_w _ => 3
  | .iinc _ _ => 3
  | .goto _ => 3
  | .ifCond _ _ => 3
  | .if_icmp _ _ => 3
  | .getfield _ => 3
  | .putfield _ => 3
  | .getstatic _ => 3
  | .invokevirtual _ => 3
  | .invokestatic _ => 3
  | _ => 1
/-- places in the locals are there, jumps go where they say -/
def am_io (nL pc : Nat) (tg : List Nat) : Instr → Bool
  | .istore n => decide (n < nL)
  | .astore n => decide (n < nL)
  | .lstore n => decide (n + 1 < nL)
  | .istore_n n => decide ((n : Nat) < nL)
  | .astore_n n => decide ((n : Nat) < nL)
  | .lstore_n n => decide ((n : Nat) + 1 < nL)
  | .iinc n _ => decide (n < nL)
  | .goto off => decide ((pc : Int) + off = (am_hd tg : Int))
  | .ifCond _ off => decide ((pc : Int) + off = (am_hd tg : Int))
  | .if_icmp _ off => decide ((pc : Int) + off = (am_hd tg : Int))
  | .tableswitch d lo hi offs => decide ((pc : Int) + d = (am_hd tg : Int) ∧ hi + 1 = lo + (tg.tail.length : Int) ∧ (-2147483648 : Int) ≤ lo ∧ hi < 2147483648 ∧ offs.toList.map (fun off => (pc : Int) + off) = tg.tail.map (fun (t : Nat) => (t : Int)))
  | _ => true
def am_isSw : Instr → Bool
  | .tableswitch _ _ _ _ => true
  | _ => false
def am_ok (cc : ByteArray) (nL : Nat) (x : AC) : Bool := decide (decode cc x.1 = .ok (x.2.1, x.2.2.1 - x.1)) && (am_isSw x.2.1 || decide (x.2.2.1 = x.1 + am_il x.2.1)) && am_io nL x.1 x.2.2.2 x.2.1
/-- what a call answers, in one form -/
def am_app (F : AF) (as : List AV) (h : HP) : Option (Option AV × HP) := match F with
  | .inl f => (f as h).map (fun q => (some (.inl q.1), q.2))
  | .inr (.inl f) => (f as h).map (fun q => (none, q))
  | .inr (.inr (.inl f)) => (f as h).map (fun q => (some (.inr (.inl q.1)), q.2))
  | .inr (.inr (.inr f)) => (f as h).map (fun q => (some (.inr (.inr (.inl (16, q.1)))), q.2))
theorem am_call_app {ρ : Type} {F : AF} {as : List AV} {h : HP} {k : List AV → HP → Option ρ} {r : ρ} (e : am_call F as h k = some r) : ∃ (v : Option AV) (h' : HP), am_app F as h = some (v, h') ∧ k v.toList h' = some r := by
  rcases F with f | f | f | f
  · obtain ⟨q, h1, h2⟩ := Option.bind_eq_some_iff.mp (show (f as h).bind (fun q => k [.inl q.1] q.2) = some r from e)
    exact ⟨some (.inl q.1), q.2, by show (f as h).map _ = _; rw [h1]; rfl, h2⟩
  · obtain ⟨q, h1, h2⟩ := Option.bind_eq_some_iff.mp (show (f as h).bind (fun q => k [] q) = some r from e)
    exact ⟨none, q, by show (f as h).map _ = _; rw [h1]; rfl, h2⟩
  · obtain ⟨q, h1, h2⟩ := Option.bind_eq_some_iff.mp (show (f as h).bind (fun q => k [.inr (.inl q.1)] q.2) = some r from e)
    exact ⟨some (.inr (.inl q.1)), q.2, by show (f as h).map _ = _; rw [h1]; rfl, h2⟩
  · obtain ⟨q, h1, h2⟩ := Option.bind_eq_some_iff.mp (show (f as h).bind (fun q => k [.inr (.inr (.inl (16, q.1)))] q.2) = some r from e)
    exact ⟨some (.inr (.inr (.inl (16, q.1)))), q.2, by show (f as h).map _ = _; rw [h1]; rfl, h2⟩
theorem am_take_spec : ∀ (n : Nat) (acc st as rest : List AV), am_take n acc st = some (as, rest) → ∃ xs : List AV, xs.length = n ∧ as = xs ++ acc ∧ st = xs.reverse ++ rest
  | 0, acc, st, as, rest, h => by
    cases h
    exact ⟨[], rfl, rfl, rfl⟩
  | n + 1, acc, [], as, rest, h => by cases h
  | n + 1, acc, v :: st, as, rest, h => by
    obtain ⟨xs, h1, h2, h3⟩ := am_take_spec n (v :: acc) st as rest h
    exact ⟨xs ++ [v], by simp [h1], by simp [h2], by simp [h3]⟩
theorem am_ix_some {i : Int32} {n k : Nat} (h : am_ix i n = some k) : vp_in i n ∧ k = i.toNatClampNeg := by
  unfold am_ix at h
  split at h
  · cases h
  · rename_i hn
    exact ⟨hn, (Option.some.inj h).symm⟩
theorem am_fl_rf : ∀ c, c < 8 → ∀ j, j < am_cnt c → ∀ k, k < (am_fl c).length → am_ft c k = 3 → (am_rf c j k).2 < am_cnt (am_rf c j k).1 := by decide +kernel
theorem am_ar_rf : ∀ c, c < 11 → 8 ≤ c → ∀ j, j < am_cnt c → ∀ k, k < am_len c j → (am_rf c j k).2 < am_cnt (am_rf c j k).1 := by decide +kernel
/-- what a field of the pool must be -/
def am_fok (own : String) (Ts : List Cond) (x : Nat × Nat × Nat) : Prop :=
  (x.2.1 < 8 ∧ x.2.2 < (am_fl x.2.1).length ∧ (∃ (C : String) (T : u_T) (ty0 : Nat → FieldType), vwCl[x.2.1]? = some (C, T, (am_fl x.2.1).length) ∧ (∀ w ∈ u_ws C T (am_fl x.2.1).length, w ∈ Ts) ∧ (∀ k, k < (am_fl x.2.1).length → parseFieldDescriptor (T k).2.2.1 = some (ty0 k)) ∧ (∀ a, a < (am_fl x.2.1).length → ∀ b, b < (am_fl x.2.1).length → a ≠ b → (T a).2.1 ≠ (T b).2.1) ∧
      (T x.2.2).1 = C ∧ Cond.fieldLink own x.1 C (T x.2.2).2.1 (T x.2.2).2.2.1 ∈ Ts ∧
      (am_ft x.2.1 x.2.2 = 0 → ty0 x.2.2 = .int ∧ (T x.2.2).2.2.2 = false) ∧ (am_ft x.2.1 x.2.2 = 1 → ty0 x.2.2 = .boolean ∧ (T x.2.2).2.2.2 = false) ∧ (am_ft x.2.1 x.2.2 = 2 → ty0 x.2.2 = .long ∧ (T x.2.2).2.2.2 = false))) ∨
  (x.2.1 = 16 ∧ ((x.2.2 = 0 ∧ Cond.fieldLink own x.1 "java/lang/String" "value" "[B" ∈ Ts) ∨ (x.2.2 = 1 ∧ Cond.fieldLink own x.1 "java/lang/String" "coder" "B" ∈ Ts)))
def am_kok (own : String) (Ts : List Cond) (x : Nat × AV) : Prop := match x.2 with
  | .inl v => Cond.constant own x.1 v ∈ Ts
  | .inr (.inl v) => Cond.constantLong own x.1 v ∈ Ts
  | .inr (.inr (.inl q)) => q.1 = 16 ∧ q.2 < 12 ∧ own = RX5 ∧ x.1 = am_six q.2
  | .inr (.inr (.inr _)) => False
def am_sok (own : String) (Ts : List Cond) (x : Nat × AV) : Prop := match x.2 with
  | .inl v => v = 1 ∧ Cond.fieldLink own x.1 "java/lang/String" "COMPACT_STRINGS" "Z" ∈ Ts
  | .inr (.inr (.inr _)) => Cond.fieldLink own x.1 "jdk/internal/util/Preconditions" "SIOOBE_FORMATTER" "Ljava/util/function/BiFunction;" ∈ Ts
  | _ => False
def am_aok (own : String) (Ts : List Cond) (R : Room) (x : Nat × Unit) : Prop := Cond.methodLink own x.1 arraycopyName ∈ Ts ∧ Cond.native arraycopyName ∈ Ts ∧ Cond.static arraycopyName ∈ Ts ∧ Cond.initialized "java/lang/System" ∈ Ts ∧ 1 ≤ R.frames ∧ nativeFrameWords "java/lang/System" "arraycopy" 5 + 11 ≤ R.locals
theorem am_sw_inv {ρ : Type} {x : Int32} {k : Nat → Option ρ} {d : Nat} {r : ρ} : ∀ (ts : List Nat) (lo : Int), (-2147483648 : Int) ≤ lo → lo + ts.length ≤ 2147483648 → am_sw x k d lo ts = some r →
    ((x.toInt < lo ∨ lo + ts.length ≤ x.toInt) ∧ k d = some r) ∨ ∃ (i t : Nat), ts[i]? = some t ∧ x.toInt = lo + i ∧ k t = some r
  | [], lo, h1, h2, h => Or.inl ⟨by simp; omega, h⟩
  | t :: ts, lo, h1, h2, h => by
    simp only [List.length_cons] at h2 ⊢
    unfold am_sw at h
    split at h
    · rename_i e
      refine Or.inr ⟨0, t, rfl, ?_, h⟩
      rw [e, Int32.toInt_ofInt_of_le (by omega) (by omega)]
      simp
    · rename_i e
      have hne : x.toInt ≠ lo := fun q => e (by rw [← q, Int32.ofInt_toInt])
      rcases am_sw_inv ts (lo + 1) (by omega) (by omega) h with ⟨q, h3⟩ | ⟨i, t', h3, h4, h5⟩
      · exact Or.inl ⟨by omega, h3⟩
      · exact Or.inr ⟨i + 1, t', h3, by rw [h4]; simp; omega, h5⟩
theorem am_bit {x : Int32} (h : x &&& 1 = x) : fits .boolean (.int x) = true := by
  have h1 : x.toBitVec &&& 1#32 = x.toBitVec := congrArg Int32.toBitVec h
  have h2 : x.toBitVec = 0#32 ∨ x.toBitVec = 1#32 := by
    have h3 := congrArg BitVec.toNat h1
    rw [BitVec.toNat_and] at h3
    have h4 : x.toBitVec.toNat &&& 1 = x.toBitVec.toNat % 2 := Nat.and_one_is_mod _
    have h5 : (1#32).toNat = 1 := rfl
    rw [h5, h4] at h3
    have h6 : x.toBitVec.toNat = 0 ∨ x.toBitVec.toNat = 1 := by omega
    rcases h6 with h6 | h6
    · exact Or.inl (BitVec.eq_of_toNat_eq h6)
    · exact Or.inr (BitVec.eq_of_toNat_eq h6)
  rcases h2 with h2 | h2
  · have : x = 0 := Int32.toBitVec_inj.mp h2
    rw [this]
    rfl
  · have : x = 1 := Int32.toBitVec_inj.mp h2
    rw [this]
    rfl
theorem am_up_rI (h : HP) (c j k : Nat) (x : Int32) : (fun k' => h_rI (h_wI h c j k x) c j k') = upd (fun k' => h_rI h c j k') k x := by
  funext k'
  rw [h_rI_wI]
  unfold upd
  by_cases e : k' = k
  · rw [if_pos ⟨rfl, rfl, e⟩, if_pos e]
  · rw [if_neg (fun q => e q.2.2), if_neg e]
theorem am_up_rJ (h : HP) (c j k : Nat) (x : Int64) : (fun k' => h_rJ (h_wJ h c j k x) c j k') = vp_updL (fun k' => h_rJ h c j k') k x := by
  funext k'
  rw [h_rJ_wJ]
  unfold vp_updL
  by_cases e : k' = k
  · rw [if_pos ⟨rfl, rfl, e⟩, if_pos e]
  · rw [if_neg (fun q => e q.2.2), if_neg e]
theorem am_up_cellI11 (G : AG) (h : HP) (j k : Nat) (x : Int32) : am_cell G (h_wI h 11 j k x) 11 j = .inl (G.2.1 11, am_len 11 j, .inl (upd (fun k => h_rI h 11 j k) k x)) := by
  rw [← am_up_rI]; rfl
theorem am_up_cellI13 (G : AG) (h : HP) (j k : Nat) (x : Int32) : am_cell G (h_wI h 13 j k x) 13 j = .inl (G.2.1 11, am_len 13 j, .inl (upd (fun k => h_rI h 13 j k) k x)) := by
  rw [← am_up_rI]; rfl
theorem am_up_cellJ12 (G : AG) (h : HP) (j k : Nat) (x : Int64) : am_cell G (h_wJ h 12 j k x) 12 j = .inl (G.2.1 12, am_len 12 j, .inr (.inl (vp_updL (fun k => h_rJ h 12 j k) k x))) := by
  rw [← am_up_rJ]; rfl
theorem am_up_cellJ14 (G : AG) (h : HP) (j k : Nat) (x : Int64) : am_cell G (h_wJ h 14 j k x) 14 j = .inl (G.2.1 12, am_len 14 j, .inr (.inl (vp_updL (fun k => h_rJ h 14 j k) k x))) := by
  rw [← am_up_rJ]; rfl
theorem am_up_cp (G : AG) (h : HP) (j1 j2 sp dp n : Nat) : am_cell G (h_cp h j1 j2 sp dp n) 12 j2 = .inl (G.2.1 12, am_len 12 j2, .inr (.inl (va_cpy (fun k => h_rJ h 12 j1 k) (fun k => h_rJ h 12 j2 k) sp dp n))) := by
  have e : (fun k => h_rJ (h_cp h j1 j2 sp dp n) 12 j2 k) = va_cpy (fun k => h_rJ h 12 j1 k) (fun k => h_rJ h 12 j2 k) sp dp n := by
    funext k
    rw [h_rJ_cp, if_pos ⟨rfl, rfl⟩]
  rw [← e]; rfl
section AMS
variable {p : Program} {l : Launch} {e : Env} {R : Room} {s : State} {m : MethodId} {args : Array Value} {below : List Frame} {meth : Method} {c : Code} {cells slots : Nat}
def am_W (p : Program) (l : Launch) (e : Env) (R : Room) (s : State) (m : MethodId) (args : Array Value) (below : List Frame) (meth : Method) (c : Code) (cells slots : Nat) (G : AG) (nL : Nat) (Q : State → Prop) (pc : Nat) (L st : List AV) (h : HP) : Prop :=
  ∀ (H : Heap) (locs : List Loc) (ls : Array Slot), va_P G.1 vwCl (am_w G h) H → va_S (am_reg G) s.heap H locs → am_LR G nL ls L → (∀ v ∈ L, am_wv v) → (∀ v ∈ st, am_wv v) →
    W p l e R s m args below meth c H locs cells slots Q (F0 m pc ls (st.map (am_tr G)))
/-- a call that is sound: instruction ins, n values off the stack, F what it answers -/
def am_C (p : Program) (l : Launch) (e : Env) (R : Room) (s : State) (m : MethodId) (args : Array Value) (below : List Frame) (meth : Method) (c : Code) (cells slots : Nat) (G : AG) (nL : Nat) (cc : ByteArray) (ins : Instr) (n : Nat) (F : AF) : Prop :=
  ∀ (as : List AV) (h h' : HP) (r : Option AV), am_app F as h = some (r, h') → as.length = n → (∀ v ∈ as, am_wv v) → (∀ v, r = some v → am_wv v) ∧
    ∀ (pc : Nat) (rest : List AV) (H : Heap) (locs : List Loc) (ls : Array Slot), decode cc pc = .ok (ins, 3) → ls.size = nL → am_sz rest ≤ 8 → va_P G.1 vwCl (am_w G h) H → va_S (am_reg G) s.heap H locs →
      va_Run p l e R s m args below meth c H locs cells slots 0 0 (F0 m pc ls ((as.map (am_tr G)).reverse ++ rest.map (am_tr G))) (rest.map (am_tr G)) (fun st oc t => oc = .returned (r.map (am_tr G)) ∧ va_P G.1 vwCl (am_w G h') t.heap ∧ va_F (am_reg G) st t) (am_reg G)
/-- a return that is sound -/
def am_Rt {ρ : Type} (p : Program) (l : Launch) (e : Env) (R : Room) (s : State) (m : MethodId) (args : Array Value) (below : List Frame) (meth : Method) (c : Code) (cells slots : Nat) (G : AG) (cc : ByteArray) (Q : ρ → State → Prop) (ins : Instr) (ret : AV → HP → Option ρ) : Prop :=
  ∀ (v : AV) (h : HP) (r : ρ) (pc : Nat) (ls : Array Slot) (H : Heap) (locs : List Loc), ret v h = some r → am_wv v → decode cc pc = .ok (ins, 1) → va_P G.1 vwCl (am_w G h) H → va_S (am_reg G) s.heap H locs → W p l e R s m args below meth c H locs cells slots (Q r) (F0 m pc ls (match v with
    | .inr (.inr (.inr _)) => []
    | v => [am_tr G v]))
def am_rt {ρ : Type} (Rr : AR ρ) : AV → HP → Option ρ
  | .inl v, h => Rr.1 v h
  | .inr (.inl v), h => Rr.2.2.1 v h
  | .inr (.inr (.inl v)), h => Rr.2.2.2 v h
  | .inr (.inr (.inr _)), h => Rr.2.1 h
/-- all that a method's walk stands on -/
def am_X {ρ : Type} (p : Program) (l : Launch) (e : Env) (R : Room) (s : State) (m : MethodId) (args : Array Value) (below : List Frame) (meth : Method) (c : Code) (cells slots : Nat) (G : AG) (nL : Nat) (cc : ByteArray) (own : String) (Ts : List Cond) (P : AP) (Rr : AR ρ) (Q : ρ → State → Prop) : Prop :=
  p.tables.exec = Jvm.exec ∧ c.code = cc ∧ c.maxLocals = nL ∧ s.vm.findClass own = some m.cls ∧ (∀ w ∈ Ts, w.before args s = true) ∧ am_E G s ∧
  (∀ x ∈ P.1, am_fok own Ts x) ∧ (∀ x ∈ P.2.1, am_kok own Ts x) ∧ (∀ x ∈ P.2.2.1, am_sok own Ts x) ∧
  (∀ ix n F, am_get P.2.2.2.1 ix = some (n, F) → am_C p l e R s m args below meth c cells slots G nL cc (.invokevirtual ix) n F) ∧
  (∀ ix n F, am_get P.2.2.2.2.1 ix = some (n, F) → am_C p l e R s m args below meth c cells slots G nL cc (.invokestatic ix) n F) ∧
  (∀ x ∈ P.2.2.2.2.2, am_aok own Ts R x) ∧
  am_Rt p l e R s m args below meth c cells slots G cc Q .ireturn (fun v h => match v with
    | .inl x => Rr.1 x h
    | _ => none) ∧
  am_Rt p l e R s m args below meth c cells slots G cc Q .return_ (fun v h => match v with
    | .inr (.inr (.inr _)) => Rr.2.1 h
    | _ => none) ∧
  am_Rt p l e R s m args below meth c cells slots G cc Q .lreturn (fun v h => match v with
    | .inr (.inl x) => Rr.2.2.1 x h
    | _ => none) ∧
  am_Rt p l e R s m args below meth c cells slots G cc Q .areturn (fun v h => match v with
    | .inr (.inr (.inl x)) => Rr.2.2.2 x h
    | _ => none)
/-- behind a call -/
theorem am_goes {G : AG} {nL pc : Nat} {Q : State → Prop} {H : Heap} {locs : List Loc} {ls : Array Slot} {st0 : List Value} {L rest : List AV} {r : Option AV} {h' : HP}
    (hr : va_Run p l e R s m args below meth c H locs cells slots 0 0 (F0 m pc ls st0) (rest.map (am_tr G)) (fun st oc t => oc = .returned (r.map (am_tr G)) ∧ va_P G.1 vwCl (am_w G h') t.heap ∧ va_F (am_reg G) st t) (am_reg G))
    (hS : va_S (am_reg G) s.heap H locs) (hL : am_LR G nL ls L) (hwL : ∀ v ∈ L, am_wv v) (hw : ∀ v ∈ r.toList ++ rest, am_wv v) (k : am_W p l e R s m args below meth c cells slots G nL Q (pc + 3) L (r.toList ++ rest) h') : W p l e R s m args below meth c H locs cells slots Q (F0 m pc ls st0) := by
  intro T hT X
  obtain ⟨v, st₀, t, T', L', h0, X', hL', e1, e2, ⟨hv, hp, hz, hk⟩, st⟩ := hr T hT X
  rw [h0] at hz hk
  have hv2 : v = r.map (am_tr G) := by
    cases hv
    rfl
  have hS' : va_S (am_reg G) s.heap T'.heap (locs ++ L') := ⟨Nat.le_trans hS.1 (by rw [e1]; exact hz), fun q h1 h2 => by rw [e1, hk q (Nat.lt_of_lt_of_le h1 hS.1) h2]; exact hS.2.1 q h1 h2, fun q hq => by
      rcases List.mem_append.mp hq with h | h
      · exact hS.2.2 q h
      · exact hL' q h⟩
  obtain ⟨t2, a1, b1⟩ := k T'.heap (locs ++ L') ls (by rw [e1]; exact hp) hS' hL hwL hw T' rfl X'
  refine ⟨t2, st t2 ?_, b1⟩
  have e3 : v.toList ++ rest.map (am_tr G) = (r.toList ++ rest).map (am_tr G) := by
    rw [hv2]
    cases r <;> rfl
  rw [show ({ F0 m pc ls st0 with pc := (F0 m pc ls st0).pc + 3, stack := v.toList ++ rest.map (am_tr G) } : JFrame) = F0 m (pc + 3) ls ((r.toList ++ rest).map (am_tr G)) by rw [e3]]
  exact a1

set_option maxHeartbeats 4000000 in
set_option maxRecDepth 100000 in
/-- one instruction -/
theorem am_exec_ok {ρ : Type} {G : AG} {nL : Nat} {cc : ByteArray} {own : String} {Ts : List Cond} {P : AP} {Rr : AR ρ} {Q : ρ → State → Prop} (CX : am_X p l e R s m args below meth c cells slots G nL cc own Ts P Rr Q)
    {pc nx : Nat} {ins : Instr} {tg : List Nat} (hok : am_ok cc nL (pc, ins, nx, tg) = true) {go : Nat → List AV → List AV → HP → Option ρ} {r : ρ}
    (hgo : ∀ pc' L' st' h', go pc' L' st' h' = some r → am_W p l e R s m args below meth c cells slots G nL (Q r) pc' L' st' h') {L st : List AV} {h : HP}
    (hr : am_exec (G.2.2.2.2.2.1.2.2, G.2.2.2.2.2.1.2.1) P Rr ins nx tg go L st h = some r) : am_W p l e R s m args below meth c cells slots G nL (Q r) pc L st h := by
  obtain ⟨hx, hb, hml, hown, hts, hE, hFp, hKp, hSp, hVc, hSc, hAc, hRi, hRv, hRj, hRr⟩ := CX
  obtain ⟨eK, eX, eB, eT, eR, eZ, eY, ecat, einj⟩ := id hE
  have hDw : ∀ h, va_D (am_reg G) (am_w G h) := am_D G einj
  unfold am_ok at hok
  dsimp only at hok
  rw [Bool.and_eq_true, Bool.and_eq_true] at hok
  obtain ⟨⟨hd0, hil⟩, hio⟩ := hok
  have hd : decode cc pc = .ok (ins, nx - pc) := of_decide_eq_true hd0
  intro H locs ls hP hS hL hwL hwS
  cases ins with
  | iconst n =>
    have hn : nx = pc + 1 := of_decide_eq_true hil
    subst hn
    rw [Nat.add_sub_cancel_left] at hd
    simp only [am_exec] at hr
    exact lv_iconst hx hb hd rfl (hgo _ _ _ _ hr H locs ls hP hS hL hwL (List.forall_mem_cons.mpr ⟨trivial, hwS⟩))
  | bipush n =>
    have hn : nx = pc + 2 := of_decide_eq_true hil
    subst hn
    rw [Nat.add_sub_cancel_left] at hd
    simp only [am_exec] at hr
    exact lv_bipush hx hb hd rfl (hgo _ _ _ _ hr H locs ls hP hS hL hwL (List.forall_mem_cons.mpr ⟨trivial, hwS⟩))
  | sipush n =>
    have hn : nx = pc + 3 := of_decide_eq_true hil
    subst hn
    rw [Nat.add_sub_cancel_left] at hd
    simp only [am_exec] at hr
    exact lv_sipush hx hb hd rfl (hgo _ _ _ _ hr H locs ls hP hS hL hwL (List.forall_mem_cons.mpr ⟨trivial, hwS⟩))
  | lconst n =>
    have hn : nx = pc + 1 := of_decide_eq_true hil
    subst hn
    rw [Nat.add_sub_cancel_left] at hd
    simp only [am_exec] at hr
    exact lv_lconst hx hb hd rfl (hgo _ _ _ _ hr H locs ls hP hS hL hwL (List.forall_mem_cons.mpr ⟨trivial, hwS⟩))
  | ldc ix =>
    have hn : nx = pc + 2 := of_decide_eq_true hil
    subst hn
    rw [Nat.add_sub_cancel_left] at hd
    simp only [am_exec] at hr
    split at hr
    · rename_i v hv
      have hk := hKp _ (am_get_mem _ _ _ hv)
      exact lv_ldc hx hb hown (hts _ hk) hd (hgo _ _ _ _ hr H locs ls hP hS hL hwL (List.forall_mem_cons.mpr ⟨trivial, hwS⟩))
    · rename_i j hv
      obtain ⟨-, k2, k3, k4⟩ := hKp _ (am_get_mem _ _ _ hv)
      dsimp only at k2 k4
      rw [k3] at hown
      rw [k4] at hd
      exact va_ldcS hx hb hown (eR j k2) hd (hgo _ _ _ _ hr H locs ls hP hS hL hwL (List.forall_mem_cons.mpr ⟨k2, hwS⟩))
    · cases hr
  | ldc_w ix =>
    have hn : nx = pc + 3 := of_decide_eq_true hil
    subst hn
    rw [Nat.add_sub_cancel_left] at hd
    simp only [am_exec] at hr
    split at hr
    · rename_i v hv
      have hk := hKp _ (am_get_mem _ _ _ hv)
      exact lv_ldcw hx hb hown (hts _ hk) hd (hgo _ _ _ _ hr H locs ls hP hS hL hwL (List.forall_mem_cons.mpr ⟨trivial, hwS⟩))
    · cases hr
  | ldc2_w ix =>
    have hn : nx = pc + 3 := of_decide_eq_true hil
    subst hn
    rw [Nat.add_sub_cancel_left] at hd
    simp only [am_exec] at hr
    split at hr
    · rename_i v hv
      have hk := hKp _ (am_get_mem _ _ _ hv)
      exact lv_ldc2 hx hb hown (hts _ hk) hd (hgo _ _ _ _ hr H locs ls hP hS hL hwL (List.forall_mem_cons.mpr ⟨trivial, hwS⟩))
    · cases hr
  | iload n =>
    have hn : nx = pc + 2 := of_decide_eq_true hil
    subst hn
    rw [Nat.add_sub_cancel_left] at hd
    simp only [am_exec] at hr
    split at hr
    · rename_i v hv
      have hk := hL.2.2.2 _ _ hv (fun z => by cases z)
      exact lv_iload hx hb hd hk (hgo _ _ _ _ hr H locs ls hP hS hL hwL (List.forall_mem_cons.mpr ⟨trivial, hwS⟩))
    · cases hr
  | iload_n n =>
    have hn : nx = pc + 1 := of_decide_eq_true hil
    subst hn
    rw [Nat.add_sub_cancel_left] at hd
    simp only [am_exec] at hr
    split at hr
    · rename_i v hv
      have hk := hL.2.2.2 _ _ hv (fun z => by cases z)
      exact lv_iload_n hx hb hd rfl hk (hgo _ _ _ _ hr H locs ls hP hS hL hwL (List.forall_mem_cons.mpr ⟨trivial, hwS⟩))
    · cases hr
  | lload n =>
    have hn : nx = pc + 2 := of_decide_eq_true hil
    subst hn
    rw [Nat.add_sub_cancel_left] at hd
    simp only [am_exec] at hr
    split at hr
    · rename_i v hv
      have hk := hL.2.2.2 _ _ hv (fun z => by cases z)
      exact lv_lload hx hb hd hk (hgo _ _ _ _ hr H locs ls hP hS hL hwL (List.forall_mem_cons.mpr ⟨trivial, hwS⟩))
    · cases hr
  | lload_n n =>
    have hn : nx = pc + 1 := of_decide_eq_true hil
    subst hn
    rw [Nat.add_sub_cancel_left] at hd
    simp only [am_exec] at hr
    split at hr
    · rename_i v hv
      have hk := hL.2.2.2 _ _ hv (fun z => by cases z)
      exact lv_lload_n hx hb hd rfl hk (hgo _ _ _ _ hr H locs ls hP hS hL hwL (List.forall_mem_cons.mpr ⟨trivial, hwS⟩))
    · cases hr
  | aload n =>
    have hn : nx = pc + 2 := of_decide_eq_true hil
    subst hn
    rw [Nat.add_sub_cancel_left] at hd
    simp only [am_exec] at hr
    split at hr
    · rename_i v hv
      have hk := hL.2.2.2 _ _ hv (fun z => by cases z)
      exact lv_aload hx hb hd hk (hgo _ _ _ _ hr H locs ls hP hS hL hwL (List.forall_mem_cons.mpr ⟨hwL _ (am_nth_mem _ _ _ hv), hwS⟩))
    · cases hr
  | aload_n n =>
    have hn : nx = pc + 1 := of_decide_eq_true hil
    subst hn
    rw [Nat.add_sub_cancel_left] at hd
    simp only [am_exec] at hr
    split at hr
    · rename_i v hv
      have hk := hL.2.2.2 _ _ hv (fun z => by cases z)
      exact lv_aload_n hx hb hd rfl hk (hgo _ _ _ _ hr H locs ls hP hS hL hwL (List.forall_mem_cons.mpr ⟨hwL _ (am_nth_mem _ _ _ hv), hwS⟩))
    · cases hr
  | istore n =>
    have hn : nx = pc + 2 := of_decide_eq_true hil
    subst hn
    rw [Nat.add_sub_cancel_left] at hd
    simp only [am_exec] at hr
    have hlt := of_decide_eq_true hio
    split at hr
    · rename_i v st'
      split at hr
      · rename_i hh
        have hw := List.forall_mem_cons.mp hwS
        exact lv_istore hx hb hd hL.has hlt rfl (fun ls' hl' => hgo _ _ _ _ hr H locs ls' hP hS (hL.st1 ecat hh hl') (fun w hm => by
          rcases am_put_mem _ _ _ _ hm with q | q
          · rw [q]; exact hw.1
          · exact hwL w q) hw.2)
      · cases hr
    · cases hr
  | istore_n n =>
    have hn : nx = pc + 1 := of_decide_eq_true hil
    subst hn
    rw [Nat.add_sub_cancel_left] at hd
    simp only [am_exec] at hr
    have hlt := of_decide_eq_true hio
    split at hr
    · rename_i v st'
      split at hr
      · rename_i hh
        have hw := List.forall_mem_cons.mp hwS
        exact lv_istore_n hx hb hd rfl hL.has hlt rfl (fun ls' hl' => hgo _ _ _ _ hr H locs ls' hP hS (hL.st1 ecat hh hl') (fun w hm => by
          rcases am_put_mem _ _ _ _ hm with q | q
          · rw [q]; exact hw.1
          · exact hwL w q) hw.2)
      · cases hr
    · cases hr
  | astore n =>
    have hn : nx = pc + 2 := of_decide_eq_true hil
    subst hn
    rw [Nat.add_sub_cancel_left] at hd
    simp only [am_exec] at hr
    have hlt := of_decide_eq_true hio
    split at hr
    · rename_i v st'
      split at hr
      · rename_i hh
        have hw := List.forall_mem_cons.mp hwS
        exact lv_astore hx hb hd hL.has hlt rfl (fun ls' hl' => hgo _ _ _ _ hr H locs ls' hP hS (hL.st1 ecat hh hl') (fun w hm => by
          rcases am_put_mem _ _ _ _ hm with q | q
          · rw [q]; exact hw.1
          · exact hwL w q) hw.2)
      · cases hr
    · cases hr
  | astore_n n =>
    have hn : nx = pc + 1 := of_decide_eq_true hil
    subst hn
    rw [Nat.add_sub_cancel_left] at hd
    simp only [am_exec] at hr
    have hlt := of_decide_eq_true hio
    split at hr
    · rename_i v st'
      split at hr
      · rename_i hh
        have hw := List.forall_mem_cons.mp hwS
        exact lv_astore_n hx hb hd rfl hL.has hlt rfl (fun ls' hl' => hgo _ _ _ _ hr H locs ls' hP hS (hL.st1 ecat hh hl') (fun w hm => by
          rcases am_put_mem _ _ _ _ hm with q | q
          · rw [q]; exact hw.1
          · exact hwL w q) hw.2)
      · cases hr
    · cases hr
  | lstore n =>
    have hn : nx = pc + 2 := of_decide_eq_true hil
    subst hn
    rw [Nat.add_sub_cancel_left] at hd
    simp only [am_exec] at hr
    have hlt := of_decide_eq_true hio
    split at hr
    · rename_i v st'
      split at hr
      · rename_i hh
        have hw := List.forall_mem_cons.mp hwS
        exact lv_lstore hx hb hd hL.has hlt rfl (fun ls' hl' => hgo _ _ _ _ hr H locs ls' hP hS (hL.st2 ecat hh hl') (fun w hm => by
          rcases am_put_mem _ _ _ _ hm with q | q
          · rw [q]; exact trivial
          · rcases am_put_mem _ _ _ _ q with q | q
            · rw [q]; exact hw.1
            · exact hwL w q) hw.2)
      · cases hr
    · cases hr
  | lstore_n n =>
    have hn : nx = pc + 1 := of_decide_eq_true hil
    subst hn
    rw [Nat.add_sub_cancel_left] at hd
    simp only [am_exec] at hr
    have hlt := of_decide_eq_true hio
    split at hr
    · rename_i v st'
      split at hr
      · rename_i hh
        have hw := List.forall_mem_cons.mp hwS
        exact lv_lstore_n hx hb hd rfl hL.has hlt rfl (fun ls' hl' => hgo _ _ _ _ hr H locs ls' hP hS (hL.st2 ecat hh hl') (fun w hm => by
          rcases am_put_mem _ _ _ _ hm with q | q
          · rw [q]; exact trivial
          · rcases am_put_mem _ _ _ _ q with q | q
            · rw [q]; exact hw.1
            · exact hwL w q) hw.2)
      · cases hr
    · cases hr
  | iinc n k =>
    have hn : nx = pc + 3 := of_decide_eq_true hil
    subst hn
    rw [Nat.add_sub_cancel_left] at hd
    simp only [am_exec] at hr
    have hlt := of_decide_eq_true hio
    split at hr
    · rename_i v hv
      split at hr
      · rename_i hh
        obtain ⟨k9, hk9⟩ := List.mem_iff_getElem?.mp ((am_lv_mem G L 0 (n, .int v)).mpr ⟨n, .inl v, hv, (fun z => by cases z), by rw [Nat.zero_add]; rfl⟩)
        exact lv_iinc hx hb hd hL.has hk9 rfl hlt rfl (fun ls' hl' => hgo _ _ _ _ hr H locs ls' hP hS (hL.st1 ecat hh hl') (fun w hm => by
          rcases am_put_mem _ _ _ _ hm with q | q
          · rw [q]; exact trivial
          · exact hwL w q) hwS)
      · cases hr
    · cases hr
  | iadd =>
    have hn : nx = pc + 1 := of_decide_eq_true hil
    subst hn
    rw [Nat.add_sub_cancel_left] at hd
    simp only [am_exec] at hr
    split at hr
    · rename_i y x st'
      have hw := (List.forall_mem_cons.mp (List.forall_mem_cons.mp hwS).2).2
      exact lv_iadd hx hb hd (hgo _ _ _ _ hr H locs ls hP hS hL hwL (List.forall_mem_cons.mpr ⟨trivial, hw⟩))
    · cases hr
  | isub =>
    have hn : nx = pc + 1 := of_decide_eq_true hil
    subst hn
    rw [Nat.add_sub_cancel_left] at hd
    simp only [am_exec] at hr
    split at hr
    · rename_i y x st'
      have hw := (List.forall_mem_cons.mp (List.forall_mem_cons.mp hwS).2).2
      exact lv_isub hx hb hd (hgo _ _ _ _ hr H locs ls hP hS hL hwL (List.forall_mem_cons.mpr ⟨trivial, hw⟩))
    · cases hr
  | imul =>
    have hn : nx = pc + 1 := of_decide_eq_true hil
    subst hn
    rw [Nat.add_sub_cancel_left] at hd
    simp only [am_exec] at hr
    split at hr
    · rename_i y x st'
      have hw := (List.forall_mem_cons.mp (List.forall_mem_cons.mp hwS).2).2
      exact lv_imul hx hb hd (hgo _ _ _ _ hr H locs ls hP hS hL hwL (List.forall_mem_cons.mpr ⟨trivial, hw⟩))
    · cases hr
  | iand =>
    have hn : nx = pc + 1 := of_decide_eq_true hil
    subst hn
    rw [Nat.add_sub_cancel_left] at hd
    simp only [am_exec] at hr
    split at hr
    · rename_i y x st'
      have hw := (List.forall_mem_cons.mp (List.forall_mem_cons.mp hwS).2).2
      exact lv_iand hx hb hd (hgo _ _ _ _ hr H locs ls hP hS hL hwL (List.forall_mem_cons.mpr ⟨trivial, hw⟩))
    · cases hr
  | ior =>
    have hn : nx = pc + 1 := of_decide_eq_true hil
    subst hn
    rw [Nat.add_sub_cancel_left] at hd
    simp only [am_exec] at hr
    split at hr
    · rename_i y x st'
      have hw := (List.forall_mem_cons.mp (List.forall_mem_cons.mp hwS).2).2
      exact lv_ior hx hb hd (hgo _ _ _ _ hr H locs ls hP hS hL hwL (List.forall_mem_cons.mpr ⟨trivial, hw⟩))
    · cases hr
  | ixor =>
    have hn : nx = pc + 1 := of_decide_eq_true hil
    subst hn
    rw [Nat.add_sub_cancel_left] at hd
    simp only [am_exec] at hr
    split at hr
    · rename_i y x st'
      have hw := (List.forall_mem_cons.mp (List.forall_mem_cons.mp hwS).2).2
      exact lv_ixor hx hb hd (hgo _ _ _ _ hr H locs ls hP hS hL hwL (List.forall_mem_cons.mpr ⟨trivial, hw⟩))
    · cases hr
  | ishl =>
    have hn : nx = pc + 1 := of_decide_eq_true hil
    subst hn
    rw [Nat.add_sub_cancel_left] at hd
    simp only [am_exec] at hr
    split at hr
    · rename_i y x st'
      have hw := (List.forall_mem_cons.mp (List.forall_mem_cons.mp hwS).2).2
      exact lv_ishl hx hb hd (hgo _ _ _ _ hr H locs ls hP hS hL hwL (List.forall_mem_cons.mpr ⟨trivial, hw⟩))
    · cases hr
  | ishr =>
    have hn : nx = pc + 1 := of_decide_eq_true hil
    subst hn
    rw [Nat.add_sub_cancel_left] at hd
    simp only [am_exec] at hr
    split at hr
    · rename_i y x st'
      have hw := (List.forall_mem_cons.mp (List.forall_mem_cons.mp hwS).2).2
      exact lv_ishr hx hb hd (hgo _ _ _ _ hr H locs ls hP hS hL hwL (List.forall_mem_cons.mpr ⟨trivial, hw⟩))
    · cases hr
  | iushr =>
    have hn : nx = pc + 1 := of_decide_eq_true hil
    subst hn
    rw [Nat.add_sub_cancel_left] at hd
    simp only [am_exec] at hr
    split at hr
    · rename_i y x st'
      have hw := (List.forall_mem_cons.mp (List.forall_mem_cons.mp hwS).2).2
      exact lv_iushr hx hb hd rfl (hgo _ _ _ _ hr H locs ls hP hS hL hwL (List.forall_mem_cons.mpr ⟨trivial, hw⟩))
    · cases hr
  | ladd =>
    have hn : nx = pc + 1 := of_decide_eq_true hil
    subst hn
    rw [Nat.add_sub_cancel_left] at hd
    simp only [am_exec] at hr
    split at hr
    · rename_i y x st'
      have hw := (List.forall_mem_cons.mp (List.forall_mem_cons.mp hwS).2).2
      exact lv_ladd hx hb hd (hgo _ _ _ _ hr H locs ls hP hS hL hwL (List.forall_mem_cons.mpr ⟨trivial, hw⟩))
    · cases hr
  | lsub =>
    have hn : nx = pc + 1 := of_decide_eq_true hil
    subst hn
    rw [Nat.add_sub_cancel_left] at hd
    simp only [am_exec] at hr
    split at hr
    · rename_i y x st'
      have hw := (List.forall_mem_cons.mp (List.forall_mem_cons.mp hwS).2).2
      exact lv_lsub hx hb hd (hgo _ _ _ _ hr H locs ls hP hS hL hwL (List.forall_mem_cons.mpr ⟨trivial, hw⟩))
    · cases hr
  | lmul =>
    have hn : nx = pc + 1 := of_decide_eq_true hil
    subst hn
    rw [Nat.add_sub_cancel_left] at hd
    simp only [am_exec] at hr
    split at hr
    · rename_i y x st'
      have hw := (List.forall_mem_cons.mp (List.forall_mem_cons.mp hwS).2).2
      exact lv_lmul hx hb hd (hgo _ _ _ _ hr H locs ls hP hS hL hwL (List.forall_mem_cons.mpr ⟨trivial, hw⟩))
    · cases hr
  | land =>
    have hn : nx = pc + 1 := of_decide_eq_true hil
    subst hn
    rw [Nat.add_sub_cancel_left] at hd
    simp only [am_exec] at hr
    split at hr
    · rename_i y x st'
      have hw := (List.forall_mem_cons.mp (List.forall_mem_cons.mp hwS).2).2
      exact lv_land hx hb hd (hgo _ _ _ _ hr H locs ls hP hS hL hwL (List.forall_mem_cons.mpr ⟨trivial, hw⟩))
    · cases hr
  | lor =>
    have hn : nx = pc + 1 := of_decide_eq_true hil
    subst hn
    rw [Nat.add_sub_cancel_left] at hd
    simp only [am_exec] at hr
    split at hr
    · rename_i y x st'
      have hw := (List.forall_mem_cons.mp (List.forall_mem_cons.mp hwS).2).2
      exact lv_lor hx hb hd (hgo _ _ _ _ hr H locs ls hP hS hL hwL (List.forall_mem_cons.mpr ⟨trivial, hw⟩))
    · cases hr
  | lshl =>
    have hn : nx = pc + 1 := of_decide_eq_true hil
    subst hn
    rw [Nat.add_sub_cancel_left] at hd
    simp only [am_exec] at hr
    split at hr
    · rename_i y x st'
      have hw := (List.forall_mem_cons.mp (List.forall_mem_cons.mp hwS).2).2
      exact lv_lshl hx hb hd rfl (hgo _ _ _ _ hr H locs ls hP hS hL hwL (List.forall_mem_cons.mpr ⟨trivial, hw⟩))
    · cases hr
  | lshr =>
    have hn : nx = pc + 1 := of_decide_eq_true hil
    subst hn
    rw [Nat.add_sub_cancel_left] at hd
    simp only [am_exec] at hr
    split at hr
    · rename_i y x st'
      have hw := (List.forall_mem_cons.mp (List.forall_mem_cons.mp hwS).2).2
      exact lv_lshr hx hb hd rfl (hgo _ _ _ _ hr H locs ls hP hS hL hwL (List.forall_mem_cons.mpr ⟨trivial, hw⟩))
    · cases hr
  | lcmp =>
    have hn : nx = pc + 1 := of_decide_eq_true hil
    subst hn
    rw [Nat.add_sub_cancel_left] at hd
    simp only [am_exec] at hr
    split at hr
    · rename_i y x st'
      have hw := (List.forall_mem_cons.mp (List.forall_mem_cons.mp hwS).2).2
      exact W.lcmp hx hb hd (hgo _ _ _ _ hr H locs ls hP hS hL hwL (List.forall_mem_cons.mpr ⟨trivial, hw⟩))
    · cases hr
  | irem =>
    have hn : nx = pc + 1 := of_decide_eq_true hil
    subst hn
    rw [Nat.add_sub_cancel_left] at hd
    simp only [am_exec] at hr
    split at hr
    · rename_i y x st'
      split at hr
      · cases hr
      · rename_i hne
        have hw := (List.forall_mem_cons.mp (List.forall_mem_cons.mp hwS).2).2
        exact lv_irem hx hb hd hne (hgo _ _ _ _ hr H locs ls hP hS hL hwL (List.forall_mem_cons.mpr ⟨trivial, hw⟩))
    · cases hr
  | i2l =>
    have hn : nx = pc + 1 := of_decide_eq_true hil
    subst hn
    rw [Nat.add_sub_cancel_left] at hd
    simp only [am_exec] at hr
    split at hr
    · rename_i x st'
      have hw := (List.forall_mem_cons.mp hwS).2
      exact lv_i2l hx hb hd rfl (hgo _ _ _ _ hr H locs ls hP hS hL hwL (List.forall_mem_cons.mpr ⟨trivial, hw⟩))
    · cases hr
  | l2i =>
    have hn : nx = pc + 1 := of_decide_eq_true hil
    subst hn
    rw [Nat.add_sub_cancel_left] at hd
    simp only [am_exec] at hr
    split at hr
    · rename_i x st'
      have hw := (List.forall_mem_cons.mp hwS).2
      exact lv_l2i hx hb hd rfl (hgo _ _ _ _ hr H locs ls hP hS hL hwL (List.forall_mem_cons.mpr ⟨trivial, hw⟩))
    · cases hr
  | i2b =>
    have hn : nx = pc + 1 := of_decide_eq_true hil
    subst hn
    rw [Nat.add_sub_cancel_left] at hd
    simp only [am_exec] at hr
    split at hr
    · rename_i x st'
      have hw := (List.forall_mem_cons.mp hwS).2
      exact lv_i2b hx hb hd rfl (hgo _ _ _ _ hr H locs ls hP hS hL hwL (List.forall_mem_cons.mpr ⟨trivial, hw⟩))
    · cases hr
  | i2s =>
    have hn : nx = pc + 1 := of_decide_eq_true hil
    subst hn
    rw [Nat.add_sub_cancel_left] at hd
    simp only [am_exec] at hr
    split at hr
    · rename_i x st'
      have hw := (List.forall_mem_cons.mp hwS).2
      exact lv_i2s hx hb hd rfl (hgo _ _ _ _ hr H locs ls hP hS hL hwL (List.forall_mem_cons.mpr ⟨trivial, hw⟩))
    · cases hr
  | i2c =>
    have hn : nx = pc + 1 := of_decide_eq_true hil
    subst hn
    rw [Nat.add_sub_cancel_left] at hd
    simp only [am_exec] at hr
    split at hr
    · rename_i x st'
      have hw := (List.forall_mem_cons.mp hwS).2
      exact lv_i2c hx hb hd rfl (hgo _ _ _ _ hr H locs ls hP hS hL hwL (List.forall_mem_cons.mpr ⟨trivial, hw⟩))
    · cases hr
  | pop =>
    have hn : nx = pc + 1 := of_decide_eq_true hil
    subst hn
    rw [Nat.add_sub_cancel_left] at hd
    simp only [am_exec] at hr
    split at hr
    · rename_i v st'
      split at hr
      · rename_i hl
        exact lv_pop hx hb hd (by rw [am_cat ecat v, hl]) (hgo _ _ _ _ hr H locs ls hP hS hL hwL (List.forall_mem_cons.mp hwS).2)
      · cases hr
    · cases hr
  | dup =>
    have hn : nx = pc + 1 := of_decide_eq_true hil
    subst hn
    rw [Nat.add_sub_cancel_left] at hd
    simp only [am_exec] at hr
    split at hr
    · rename_i v st'
      split at hr
      · rename_i hl
        exact lv_dup hx hb hd (by rw [am_cat ecat v, hl]) (hgo _ _ _ _ hr H locs ls hP hS hL hwL (List.forall_mem_cons.mpr ⟨(List.forall_mem_cons.mp hwS).1, hwS⟩))
      · cases hr
    · cases hr
  | dup2 =>
    have hn : nx = pc + 1 := of_decide_eq_true hil
    subst hn
    rw [Nat.add_sub_cancel_left] at hd
    simp only [am_exec] at hr
    split at hr
    · rename_i v w st'
      split at hr
      · rename_i hl1 hl2
        have hw1 := List.forall_mem_cons.mp hwS
        have hw2 := List.forall_mem_cons.mp hw1.2
        exact lv_dup2_11 hx hb hd (by rw [am_cat ecat v, hl1]) (by rw [am_cat ecat w, hl2]) (hgo _ _ _ _ hr H locs ls hP hS hL hwL (List.forall_mem_cons.mpr ⟨hw1.1, List.forall_mem_cons.mpr ⟨hw2.1, hwS⟩⟩))
      · cases hr
    · cases hr
  | goto off =>
    have hn : nx = pc + 3 := of_decide_eq_true hil
    subst hn
    rw [Nat.add_sub_cancel_left] at hd
    simp only [am_exec] at hr
    exact lv_goto hx hb hd (of_decide_eq_true hio) (hgo _ _ _ _ hr H locs ls hP hS hL hwL hwS)
  | ifCond cd off =>
    have hn : nx = pc + 3 := of_decide_eq_true hil
    subst hn
    rw [Nat.add_sub_cancel_left] at hd
    simp only [am_exec] at hr
    have ht := of_decide_eq_true hio
    split at hr
    · rename_i x st'
      have hw := (List.forall_mem_cons.mp hwS).2
      cases cd with
      | eq =>
        dsimp only at hr
        exact lv_if_eq hx hb hd ht (fun q => hgo _ _ _ _ (by rwa [if_pos q] at hr) H locs ls hP hS hL hwL hw) (fun q => hgo _ _ _ _ (by rwa [if_neg q] at hr) H locs ls hP hS hL hwL hw)
      | ne =>
        dsimp only at hr
        exact lv_if_ne hx hb hd ht (fun q => hgo _ _ _ _ (by rwa [if_neg q] at hr) H locs ls hP hS hL hwL hw) (fun q => hgo _ _ _ _ (by rwa [if_pos q] at hr) H locs ls hP hS hL hwL hw)
      | lt =>
        dsimp only at hr
        exact lv_if_lt hx hb hd ht (fun q => hgo _ _ _ _ (by rwa [if_pos q] at hr) H locs ls hP hS hL hwL hw) (fun q => hgo _ _ _ _ (by rwa [if_neg q] at hr) H locs ls hP hS hL hwL hw)
      | ge =>
        dsimp only at hr
        exact lv_if_ge hx hb hd ht (fun q => hgo _ _ _ _ (by rwa [if_pos q] at hr) H locs ls hP hS hL hwL hw) (fun q => hgo _ _ _ _ (by rwa [if_neg q] at hr) H locs ls hP hS hL hwL hw)
      | gt =>
        dsimp only at hr
        exact lv_if_gt hx hb hd ht (fun q => hgo _ _ _ _ (by rwa [if_pos q] at hr) H locs ls hP hS hL hwL hw) (fun q => hgo _ _ _ _ (by rwa [if_neg q] at hr) H locs ls hP hS hL hwL hw)
      | le =>
        dsimp only at hr
        exact lv_if_le hx hb hd ht (fun q => hgo _ _ _ _ (by rwa [if_pos q] at hr) H locs ls hP hS hL hwL hw) (fun q => hgo _ _ _ _ (by rwa [if_neg q] at hr) H locs ls hP hS hL hwL hw)
    · cases hr
  | if_icmp cd off =>
    have hn : nx = pc + 3 := of_decide_eq_true hil
    subst hn
    rw [Nat.add_sub_cancel_left] at hd
    simp only [am_exec] at hr
    have ht := of_decide_eq_true hio
    split at hr
    · rename_i y x st'
      have hw := (List.forall_mem_cons.mp (List.forall_mem_cons.mp hwS).2).2
      cases cd with
      | eq =>
        dsimp only at hr
        exact lv_icmp_eq hx hb hd ht (fun q => hgo _ _ _ _ (by rwa [if_pos q] at hr) H locs ls hP hS hL hwL hw) (fun q => hgo _ _ _ _ (by rwa [if_neg q] at hr) H locs ls hP hS hL hwL hw)
      | ne =>
        dsimp only at hr
        exact lv_icmp_ne hx hb hd ht (fun q => hgo _ _ _ _ (by rwa [if_neg q] at hr) H locs ls hP hS hL hwL hw) (fun q => hgo _ _ _ _ (by rwa [if_pos q] at hr) H locs ls hP hS hL hwL hw)
      | lt =>
        dsimp only at hr
        exact lv_icmp_lt hx hb hd ht (fun q => hgo _ _ _ _ (by rwa [if_pos q] at hr) H locs ls hP hS hL hwL hw) (fun q => hgo _ _ _ _ (by rwa [if_neg q] at hr) H locs ls hP hS hL hwL hw)
      | ge =>
        dsimp only at hr
        exact lv_icmp_ge hx hb hd ht (fun q => hgo _ _ _ _ (by rwa [if_pos q] at hr) H locs ls hP hS hL hwL hw) (fun q => hgo _ _ _ _ (by rwa [if_neg q] at hr) H locs ls hP hS hL hwL hw)
      | gt =>
        dsimp only at hr
        exact lv_icmp_gt hx hb hd ht (fun q => hgo _ _ _ _ (by rwa [if_pos q] at hr) H locs ls hP hS hL hwL hw) (fun q => hgo _ _ _ _ (by rwa [if_neg q] at hr) H locs ls hP hS hL hwL hw)
      | le =>
        dsimp only at hr
        exact lv_icmp_le hx hb hd ht (fun q => hgo _ _ _ _ (by rwa [if_pos q] at hr) H locs ls hP hS hL hwL hw) (fun q => hgo _ _ _ _ (by rwa [if_neg q] at hr) H locs ls hP hS hL hwL hw)
    · cases hr
  | tableswitch dflt lo hi offs =>
    simp only [am_exec] at hr
    obtain ⟨t1, t2, t3, t4, t5⟩ := of_decide_eq_true hio
    split at hr
    · rename_i x st' d ts
      have hw := (List.forall_mem_cons.mp hwS).2
      simp only [List.tail_cons, am_hd] at t1 t2 t5
      rcases am_sw_inv ts lo t3 (by omega) hr with ⟨q, h3⟩ | ⟨i, t, h3, h4, h5⟩
      · exact lv_tableOut hx hb hd (by omega) t1 (hgo _ _ _ _ h3 H locs ls hP hS hL hwL hw)
      · have hi : i < ts.length := (List.getElem?_eq_some_iff.mp h3).1
        have h6 : (ts.map (fun (t : Nat) => (t : Int)))[i]? = some (t : Int) := by rw [List.getElem?_map, h3]; rfl
        rw [← t5, List.getElem?_map] at h6
        cases h7 : offs.toList[i]? with
        | none => rw [h7] at h6; cases h6
        | some off =>
          rw [h7] at h6
          have h8 : offs[(x.toInt - lo).toNat]? = some off := by
            rw [h4, show (lo + (i : Int) - lo).toNat = i by omega, ← Array.getElem?_toList]
            exact h7
          exact lv_tableIn hx hb hd (by omega) (by omega) h8 (Option.some.inj h6) (hgo _ _ _ _ h5 H locs ls hP hS hL hwL hw)
    · cases hr
  | getfield ix =>
    have hn : nx = pc + 3 := of_decide_eq_true hil
    subst hn
    rw [Nat.add_sub_cancel_left] at hd
    simp only [am_exec] at hr
    split at hr
    · rename_i c0 k0 c' j0 st' hv
      split at hr
      · rename_i hbq
        have hcc := Nat.eq_of_beq_eq_true hbq
        subst hcc
        have hw := (List.forall_mem_cons.mp hwS).2
        have hj : j0 < am_cnt c0 := (List.forall_mem_cons.mp hwS).1
        rcases hFp _ (am_get_mem _ _ _ hv) with ⟨f1, f2, C, T, ty0, f3, f4, f5, f6, f7, f8, f9, f10, f11⟩ | ⟨f1, f2⟩
        · dsimp only at f1 f2 f3 f4 f5 f6 f7 f8 f9 f10 f11
          have hat := am_w_at G h (c := c0) (by omega) hj
          rw [am_cell_o G h f1] at hat
          have hfv : ((List.range (am_fl c0).length).map (am_fv G h c0 j0))[k0]? = some (am_fv G h c0 j0 k0) := by rw [List.getElem?_map, List.getElem?_range f2]; rfl
          have hgt : ∀ v : Value, am_fv G h c0 j0 k0 = v → W p l e R s m args below meth c H locs cells slots (Q r) (F0 m (pc + 3) ls (v :: st'.map (am_tr G))) → W p l e R s m args below meth c H locs cells slots (Q r) (F0 m pc ls (.ref (am_loc G (c0, j0)) :: st'.map (am_tr G))) := by
            intro v ev kk
            rw [am_loc_o G (by omega)]
            exact va_get hx hb hts f4 hown eK hP _ hat f3 k0 f2 (hts _ f8) (fun x hx9 => by rw [f7] at hx9; exact hx9) (by rw [hfv, ev]) hd kk
          split at hr
          · rename_i e9
            exact hgt (.int (h_rI h c0 j0 k0)) (by unfold am_fv; rw [e9]; rfl) (hgo _ _ _ _ hr H locs ls hP hS hL hwL (List.forall_mem_cons.mpr ⟨trivial, hw⟩))
          · rename_i e9
            exact hgt (.int (h_rI h c0 j0 k0)) (by unfold am_fv; rw [e9]; rfl) (hgo _ _ _ _ hr H locs ls hP hS hL hwL (List.forall_mem_cons.mpr ⟨trivial, hw⟩))
          · rename_i e9
            exact hgt (.long (h_rJ h c0 j0 k0)) (by unfold am_fv; rw [e9]; rfl) (hgo _ _ _ _ hr H locs ls hP hS hL hwL (List.forall_mem_cons.mpr ⟨trivial, hw⟩))
          · rename_i e9
            exact hgt (.ref (am_loc G (am_rf c0 j0 k0))) (by unfold am_fv; rw [e9]; rfl) (hgo _ _ _ _ hr H locs ls hP hS hL hwL (List.forall_mem_cons.mpr ⟨am_fl_rf c0 f1 j0 hj k0 f2 e9, hw⟩))
          · rename_i e9
            have : ∀ c, c < 8 → ∀ k, k < (am_fl c).length → am_ft c k ≠ 4 := by decide +kernel
            exact absurd e9 (this c0 f1 k0 f2)
          · cases hr
        · dsimp only at f1 f2
          subst f1
          have hT := (eT.1 j0 hj)
          rcases f2 with ⟨g1, g2⟩ | ⟨g1, g2⟩
          · subst g1
            exact vk_getf hx hb hT.2.2.1 hS hown (hts _ g2) (fun _ h9 => h9) hd (hgo _ _ _ _ hr H locs ls hP hS hL hwL (List.forall_mem_cons.mpr ⟨hj, hw⟩))
          · subst g1
            exact vk_getf hx hb hT.2.1 hS hown (hts _ g2) (fun _ h9 => h9) hd (hgo _ _ _ _ hr H locs ls hP hS hL hwL (List.forall_mem_cons.mpr ⟨trivial, hw⟩))
      · cases hr
    · cases hr
  | putfield ix =>
    have hn : nx = pc + 3 := of_decide_eq_true hil
    subst hn
    rw [Nat.add_sub_cancel_left] at hd
    simp only [am_exec] at hr
    split at hr
    · rename_i c0 k0 v0 c' j0 st' hv
      have hw := (List.forall_mem_cons.mp (List.forall_mem_cons.mp hwS).2).2
      have hj' : j0 < am_cnt c' := (List.forall_mem_cons.mp (List.forall_mem_cons.mp hwS).2).1
      have hput : ∀ (v : Value) (ty : FieldType) (h2 : HP), Nat.beq c0 c' = true → (am_ft c0 k0 = 0 ∧ ty = .int ∨ am_ft c0 k0 = 1 ∧ ty = .boolean ∨ am_ft c0 k0 = 2 ∧ ty = .long) → narrow ty v = v → fits ty v = true → (∀ (fs : List Value), ((List.range (am_fl c0).length).map (am_fv G h c0 j0)) = fs → fs.set k0 v = (List.range (am_fl c0).length).map (am_fv G h2 c0 j0)) → (c0 < 8 → (am_w G h).set (am_off c0 + j0) (G.2.2.1 (am_off c0 + j0), am_cell G h2 c0 j0) = am_w G h2) → go (pc + 3) L st' h2 = some r → W p l e R s m args below meth c H locs cells slots (Q r) (F0 m pc ls (v :: .ref (am_loc G (c', j0)) :: st'.map (am_tr G))) := by
        intro v ty h2 hbq hty hnar hfit hset hws hr2
        have hcc := Nat.eq_of_beq_eq_true hbq
        subst hcc
        rcases hFp _ (am_get_mem _ _ _ hv) with ⟨f1, f2, C, T, ty0, f3, f4, f5, f6, f7, f8, f9, f10, f11⟩ | ⟨f1, f2⟩
        · dsimp only at f1 f2 f3 f4 f5 f6 f7 f8 f9 f10 f11
          have hat := am_w_at G h (c := c0) (by omega) hj'
          rw [am_cell_o G h f1] at hat
          have hfin : (T k0).2.2.2 = false ∧ ty0 k0 = ty := by
            rcases hty with ⟨e1, e2⟩ | ⟨e1, e2⟩ | ⟨e1, e2⟩
            · exact ⟨(f9 e1).2, by rw [e2]; exact (f9 e1).1⟩
            · exact ⟨(f10 e1).2, by rw [e2]; exact (f10 e1).1⟩
            · exact ⟨(f11 e1).2, by rw [e2]; exact (f11 e1).1⟩
          rw [am_loc_o G (by omega)]
          refine va_put hx hb hts f4 ty0 f5 f6 hown eK hP (hDw h) hS _ hat f3 k0 f2 (hts _ f8) (fun x hx9 => by rw [f7] at hx9; exact hx9) hfin.1 (by rw [f5 k0 f2, hfin.2]) hnar hfit (by simpa using f2) hd (fun H1 locs1 hP1 hD1 hS1 => ?_)
          rw [hset _ rfl, ← am_cell_o G h2 f1, hws f1] at hP1
          exact hgo _ _ _ _ hr2 H1 locs1 ls hP1 hS1 hL hwL hw
        · dsimp only at f1 f2
          subst f1
          rcases f2 with ⟨g1, -⟩ | ⟨g1, -⟩ <;> subst g1 <;> rcases hty with ⟨e1, -⟩ | ⟨e1, -⟩ | ⟨e1, -⟩ <;> exact absurd e1 (by decide)
      split at hr
      · rename_i x hbq
        split at hr
        · rename_i e9
          exact hput (.int x) .int _ hbq (Or.inl ⟨e9, rfl⟩) rfl rfl (fun fs efs => by rw [← efs]; exact am_fs_wI G h x (Or.inl e9)) (fun f1 => am_w_wI G h k0 x (by omega) (by rw [Nat.eq_of_beq_eq_true hbq]; exact hj')) hr
        · rename_i e9
          split at hr
          · rename_i hb1
            have hfit : fits .boolean (.int x) = true := am_bit hb1
            exact hput (.int x) .boolean _ hbq (Or.inr (Or.inl ⟨e9, rfl⟩)) (by show Value.int (x &&& 1) = _; rw [hb1]) hfit (fun fs efs => by rw [← efs]; exact am_fs_wI G h x (Or.inr e9)) (fun f1 => am_w_wI G h k0 x (by omega) (by rw [Nat.eq_of_beq_eq_true hbq]; exact hj')) hr
          · cases hr
        · cases hr
      · rename_i x hbq
        split at hr
        · rename_i e9
          exact hput (.long x) .long _ hbq (Or.inr (Or.inr ⟨e9, rfl⟩)) rfl rfl (fun fs efs => by rw [← efs]; exact am_fs_wJ G h x e9) (fun f1 => am_w_wJ G h k0 x (by omega) (by rw [Nat.eq_of_beq_eq_true hbq]; exact hj')) hr
        · cases hr
      · cases hr
    · cases hr
  | getstatic ix =>
    have hn : nx = pc + 3 := of_decide_eq_true hil
    subst hn
    rw [Nat.add_sub_cancel_left] at hd
    simp only [am_exec] at hr
    split at hr
    · rename_i v hv
      obtain ⟨k1, k2⟩ := hSp _ (am_get_mem _ _ _ hv)
      rw [k1] at hr
      exact va_gets hx hb eZ hS hown (hts _ k2) (fun _ h9 => h9) hd (hgo _ _ _ _ hr H locs ls hP hS hL hwL (List.forall_mem_cons.mpr ⟨trivial, hwS⟩))
    · rename_i u hv
      have k2 := hSp _ (am_get_mem _ _ _ hv)
      exact va_gets hx hb eY hS hown (hts _ k2) (fun _ h9 => h9) hd (hgo _ _ _ _ hr H locs ls hP hS hL hwL (List.forall_mem_cons.mpr ⟨trivial, hwS⟩))
    · cases hr
  | arraylength =>
    have hn : nx = pc + 1 := of_decide_eq_true hil
    subst hn
    rw [Nat.add_sub_cancel_left] at hd
    simp only [am_exec] at hr
    split at hr
    · rename_i c0 j0 st'
      have hw := (List.forall_mem_cons.mp hwS).2
      have hj : j0 < am_cnt c0 := (List.forall_mem_cons.mp hwS).1
      split at hr
      · have hbl : G.2.2.2.2.2.1.1 < s.heap.size := by
          obtain ⟨scr, hs, -⟩ := eX
          exact (Array.getElem?_eq_some_iff.mp hs).1
        exact va_slen hx hb eX hbl eB hS hd (hgo _ _ _ _ hr H locs ls hP hS hL hwL (List.forall_mem_cons.mpr ⟨trivial, hw⟩))
      · exact va_tlen hx hb (eT.1 j0 hj).2.2.2 hS rfl hd (hgo _ _ _ _ hr H locs ls hP hS hL hwL (List.forall_mem_cons.mpr ⟨trivial, hw⟩))
      · cases hr
    · cases hr
  | iaload =>
    have hn : nx = pc + 1 := of_decide_eq_true hil
    subst hn
    rw [Nat.add_sub_cancel_left] at hd
    simp only [am_exec] at hr
    split at hr
    · rename_i i0 c0 j0 st'
      have hw := (List.forall_mem_cons.mp (List.forall_mem_cons.mp hwS).2).2
      have hj : j0 < am_cnt c0 := (List.forall_mem_cons.mp (List.forall_mem_cons.mp hwS).2).1
      split at hr
      · obtain ⟨k, h1, h2⟩ := Option.bind_eq_some_iff.mp hr
        obtain ⟨h3, h4⟩ := am_ix_some h1
        subst h4
        exact va_iald hx hb eK hP (am_off 11 + j0) 3 (am_w_at G h (c := 11) (by decide) hj) rfl h3 hd (hgo _ _ _ _ h2 H locs ls hP hS hL hwL (List.forall_mem_cons.mpr ⟨trivial, hw⟩))
      · obtain ⟨k, h1, h2⟩ := Option.bind_eq_some_iff.mp hr
        obtain ⟨h3, h4⟩ := am_ix_some h1
        subst h4
        exact va_iald hx hb eK hP (am_off 13 + j0) 3 (am_w_at G h (c := 13) (by decide) hj) rfl h3 hd (hgo _ _ _ _ h2 H locs ls hP hS hL hwL (List.forall_mem_cons.mpr ⟨trivial, hw⟩))
      · obtain ⟨k, h1, h2⟩ := Option.bind_eq_some_iff.mp hr
        obtain ⟨h3, h4⟩ := am_ix_some h1
        subst h4
        have hbl : G.2.2.2.2.2.1.1 < s.heap.size := by
          obtain ⟨scr, hs, -⟩ := eX
          exact (Array.getElem?_eq_some_iff.mp hs).1
        exact va_sld hx hb eX hbl eB hS h3 hd (hgo _ _ _ _ h2 H locs ls hP hS hL hwL (List.forall_mem_cons.mpr ⟨trivial, hw⟩))
      · cases hr
    · cases hr
  | baload =>
    have hn : nx = pc + 1 := of_decide_eq_true hil
    subst hn
    rw [Nat.add_sub_cancel_left] at hd
    simp only [am_exec] at hr
    split at hr
    · rename_i i0 c0 j0 st'
      have hw := (List.forall_mem_cons.mp (List.forall_mem_cons.mp hwS).2).2
      have hj : j0 < am_cnt c0 := (List.forall_mem_cons.mp (List.forall_mem_cons.mp hwS).2).1
      split at hr
      · obtain ⟨k, h1, h2⟩ := Option.bind_eq_some_iff.mp hr
        obtain ⟨h3, h4⟩ := am_ix_some h1
        subst h4
        exact va_tb hx hb (eT.1 j0 hj).2.2.2 hS h3 rfl hd (hgo _ _ _ _ h2 H locs ls hP hS hL hwL (List.forall_mem_cons.mpr ⟨trivial, hw⟩))
      · cases hr
    · cases hr
  | laload =>
    have hn : nx = pc + 1 := of_decide_eq_true hil
    subst hn
    rw [Nat.add_sub_cancel_left] at hd
    simp only [am_exec] at hr
    split at hr
    · rename_i i0 c0 j0 st'
      have hw := (List.forall_mem_cons.mp (List.forall_mem_cons.mp hwS).2).2
      have hj : j0 < am_cnt c0 := (List.forall_mem_cons.mp (List.forall_mem_cons.mp hwS).2).1
      split at hr
      · obtain ⟨k, h1, h2⟩ := Option.bind_eq_some_iff.mp hr
        obtain ⟨h3, h4⟩ := am_ix_some h1
        subst h4
        exact va_lald hx hb eK hP (am_off 12 + j0) 4 (am_w_at G h (c := 12) (by decide) hj) rfl h3 hd (hgo _ _ _ _ h2 H locs ls hP hS hL hwL (List.forall_mem_cons.mpr ⟨trivial, hw⟩))
      · obtain ⟨k, h1, h2⟩ := Option.bind_eq_some_iff.mp hr
        obtain ⟨h3, h4⟩ := am_ix_some h1
        subst h4
        exact va_lald hx hb eK hP (am_off 14 + j0) 4 (am_w_at G h (c := 14) (by decide) hj) rfl h3 hd (hgo _ _ _ _ h2 H locs ls hP hS hL hwL (List.forall_mem_cons.mpr ⟨trivial, hw⟩))
      · cases hr
    · cases hr
  | aaload =>
    have hn : nx = pc + 1 := of_decide_eq_true hil
    subst hn
    rw [Nat.add_sub_cancel_left] at hd
    simp only [am_exec] at hr
    split at hr
    · rename_i i0 c0 j0 st'
      have hw := (List.forall_mem_cons.mp (List.forall_mem_cons.mp hwS).2).2
      have hj : j0 < am_cnt c0 := (List.forall_mem_cons.mp (List.forall_mem_cons.mp hwS).2).1
      split at hr
      · obtain ⟨k, h1, h2⟩ := Option.bind_eq_some_iff.mp hr
        obtain ⟨h3, h4⟩ := am_ix_some h1
        have hlt : i0.toNatClampNeg < am_len 8 j0 := Nat.not_le.mp fun q => h3 (Or.inr q)
        subst h4
        exact va_aldq hx hb eK hP (am_off 8 + j0) 0 (am_w_at G h (c := 8) (by decide) hj) rfl h3 hd (hgo _ _ _ _ h2 H locs ls hP hS hL hwL (List.forall_mem_cons.mpr ⟨am_ar_rf 8 (by decide) (by decide) j0 hj _ hlt, hw⟩))
      · obtain ⟨k, h1, h2⟩ := Option.bind_eq_some_iff.mp hr
        obtain ⟨h3, h4⟩ := am_ix_some h1
        have hlt : i0.toNatClampNeg < am_len 9 j0 := Nat.not_le.mp fun q => h3 (Or.inr q)
        subst h4
        exact va_aldq hx hb eK hP (am_off 9 + j0) 1 (am_w_at G h (c := 9) (by decide) hj) rfl h3 hd (hgo _ _ _ _ h2 H locs ls hP hS hL hwL (List.forall_mem_cons.mpr ⟨am_ar_rf 9 (by decide) (by decide) j0 hj _ hlt, hw⟩))
      · obtain ⟨k, h1, h2⟩ := Option.bind_eq_some_iff.mp hr
        obtain ⟨h3, h4⟩ := am_ix_some h1
        have hlt : i0.toNatClampNeg < am_len 10 j0 := Nat.not_le.mp fun q => h3 (Or.inr q)
        subst h4
        exact va_aldq hx hb eK hP (am_off 10 + j0) 2 (am_w_at G h (c := 10) (by decide) hj) rfl h3 hd (hgo _ _ _ _ h2 H locs ls hP hS hL hwL (List.forall_mem_cons.mpr ⟨am_ar_rf 10 (by decide) (by decide) j0 hj _ hlt, hw⟩))
      · cases hr
    · cases hr
  | iastore =>
    have hn : nx = pc + 1 := of_decide_eq_true hil
    subst hn
    rw [Nat.add_sub_cancel_left] at hd
    simp only [am_exec] at hr
    split at hr
    · rename_i x0 i0 c0 j0 st'
      have hw := (List.forall_mem_cons.mp (List.forall_mem_cons.mp (List.forall_mem_cons.mp hwS).2).2).2
      have hj : j0 < am_cnt c0 := (List.forall_mem_cons.mp (List.forall_mem_cons.mp (List.forall_mem_cons.mp hwS).2).2).1
      split at hr
      · obtain ⟨k, h1, h2⟩ := Option.bind_eq_some_iff.mp hr
        obtain ⟨h3, h4⟩ := am_ix_some h1
        subst h4
        refine va_iast hx hb eK hP (hDw h) hS (am_off 11 + j0) 3 (am_w_at G h (c := 11) (by decide) hj) rfl h3 hd (fun H1 locs1 hP1 hD1 hS1 => ?_)
        refine hgo _ _ _ _ h2 H1 locs1 ls ?_ hS1 hL hwL hw
        rw [← am_w_wI G h _ _ (by decide) hj]
        have ec : am_cell G (h_wI h 11 j0 i0.toNatClampNeg x0) 11 j0 = .inl (G.2.1 11, am_len 11 j0, .inl (upd (fun k => h_rI h 11 j0 k) i0.toNatClampNeg x0)) := am_up_cellI11 _ _ _ _ _
        rw [ec]
        exact hP1
      · obtain ⟨k, h1, h2⟩ := Option.bind_eq_some_iff.mp hr
        obtain ⟨h3, h4⟩ := am_ix_some h1
        subst h4
        refine va_iast hx hb eK hP (hDw h) hS (am_off 13 + j0) 3 (am_w_at G h (c := 13) (by decide) hj) rfl h3 hd (fun H1 locs1 hP1 hD1 hS1 => ?_)
        refine hgo _ _ _ _ h2 H1 locs1 ls ?_ hS1 hL hwL hw
        rw [← am_w_wI G h _ _ (by decide) hj]
        have ec : am_cell G (h_wI h 13 j0 i0.toNatClampNeg x0) 13 j0 = .inl (G.2.1 11, am_len 13 j0, .inl (upd (fun k => h_rI h 13 j0 k) i0.toNatClampNeg x0)) := am_up_cellI13 _ _ _ _ _
        rw [ec]
        exact hP1
      · cases hr
    · cases hr
  | lastore =>
    have hn : nx = pc + 1 := of_decide_eq_true hil
    subst hn
    rw [Nat.add_sub_cancel_left] at hd
    simp only [am_exec] at hr
    split at hr
    · rename_i x0 i0 c0 j0 st'
      have hw := (List.forall_mem_cons.mp (List.forall_mem_cons.mp (List.forall_mem_cons.mp hwS).2).2).2
      have hj : j0 < am_cnt c0 := (List.forall_mem_cons.mp (List.forall_mem_cons.mp (List.forall_mem_cons.mp hwS).2).2).1
      split at hr
      · obtain ⟨k, h1, h2⟩ := Option.bind_eq_some_iff.mp hr
        obtain ⟨h3, h4⟩ := am_ix_some h1
        subst h4
        refine va_last hx hb eK hP (hDw h) hS (am_off 12 + j0) 4 (am_w_at G h (c := 12) (by decide) hj) rfl h3 hd (fun H1 locs1 hP1 hD1 hS1 => ?_)
        refine hgo _ _ _ _ h2 H1 locs1 ls ?_ hS1 hL hwL hw
        rw [← am_w_wJ G h _ _ (by decide) hj]
        have ec : am_cell G (h_wJ h 12 j0 i0.toNatClampNeg x0) 12 j0 = .inl (G.2.1 12, am_len 12 j0, .inr (.inl (vp_updL (fun k => h_rJ h 12 j0 k) i0.toNatClampNeg x0))) := am_up_cellJ12 _ _ _ _ _
        rw [ec]
        exact hP1
      · obtain ⟨k, h1, h2⟩ := Option.bind_eq_some_iff.mp hr
        obtain ⟨h3, h4⟩ := am_ix_some h1
        subst h4
        refine va_last hx hb eK hP (hDw h) hS (am_off 14 + j0) 4 (am_w_at G h (c := 14) (by decide) hj) rfl h3 hd (fun H1 locs1 hP1 hD1 hS1 => ?_)
        refine hgo _ _ _ _ h2 H1 locs1 ls ?_ hS1 hL hwL hw
        rw [← am_w_wJ G h _ _ (by decide) hj]
        have ec : am_cell G (h_wJ h 14 j0 i0.toNatClampNeg x0) 14 j0 = .inl (G.2.1 12, am_len 14 j0, .inr (.inl (vp_updL (fun k => h_rJ h 14 j0 k) i0.toNatClampNeg x0))) := am_up_cellJ14 _ _ _ _ _
        rw [ec]
        exact hP1
      · cases hr
    · cases hr
  | invokevirtual ix =>
    have hn : nx = pc + 3 := of_decide_eq_true hil
    subst hn
    rw [Nat.add_sub_cancel_left] at hd
    simp only [am_exec] at hr
    split at hr
    · rename_i n F hv
      split at hr
      · rename_i as rest htk
        split at hr
        · rename_i hsz
          obtain ⟨v, h', h1, h2⟩ := am_call_app hr
          obtain ⟨xs, x1, x2, x3⟩ := am_take_spec _ _ _ _ _ htk
          rw [List.append_nil] at x2
          subst x2
          rw [x3] at hwS ⊢
          have hwa : ∀ v ∈ as, am_wv v := fun v hv => hwS v (List.mem_append_left _ (List.mem_reverse.mpr hv))
          have hwr : ∀ v ∈ rest, am_wv v := fun v hv => hwS v (List.mem_append_right _ hv)
          obtain ⟨g1, g2⟩ := hVc _ _ _ hv as h h' v h1 x1 hwa
          rw [List.map_append, List.map_reverse]
          exact am_goes (g2 pc rest H locs ls hd hL.2.1 (Nat.le_of_ble_eq_true hsz) hP hS) hS hL hwL (fun w hm => by
            rcases List.mem_append.mp hm with q | q
            · exact g1 w (by cases v with
                | none => cases q
                | some z => rw [List.mem_singleton.mp q])
            · exact hwr w q) (hgo _ _ _ _ h2)
        · cases hr
      · cases hr
    · cases hr
  | invokestatic ix =>
    have hn : nx = pc + 3 := of_decide_eq_true hil
    subst hn
    rw [Nat.add_sub_cancel_left] at hd
    simp only [am_exec] at hr
    split at hr
    · rename_i n F hv
      split at hr
      · rename_i as rest htk
        split at hr
        · rename_i hsz
          obtain ⟨v, h', h1, h2⟩ := am_call_app hr
          obtain ⟨xs, x1, x2, x3⟩ := am_take_spec _ _ _ _ _ htk
          rw [List.append_nil] at x2
          subst x2
          rw [x3] at hwS ⊢
          have hwa : ∀ v ∈ as, am_wv v := fun v hv => hwS v (List.mem_append_left _ (List.mem_reverse.mpr hv))
          have hwr : ∀ v ∈ rest, am_wv v := fun v hv => hwS v (List.mem_append_right _ hv)
          obtain ⟨g1, g2⟩ := hSc _ _ _ hv as h h' v h1 x1 hwa
          rw [List.map_append, List.map_reverse]
          exact am_goes (g2 pc rest H locs ls hd hL.2.1 (Nat.le_of_ble_eq_true hsz) hP hS) hS hL hwL (fun w hm => by
            rcases List.mem_append.mp hm with q | q
            · exact g1 w (by cases v with
                | none => cases q
                | some z => rw [List.mem_singleton.mp q])
            · exact hwr w q) (hgo _ _ _ _ h2)
        · cases hr
      · cases hr
    · split at hr
      · rename_i hnone u n0 dp0 j2 sp0 j1 hv
        split at hr
        · cases hr
        · rename_i hcnd
          obtain ⟨a1, a2, a3, a4, a5, a6⟩ := hAc _ (am_get_mem _ _ _ hv)
          have hw1 := (List.forall_mem_cons.mp (List.forall_mem_cons.mp hwS).2).2
          have hj2 : j2 < am_cnt 12 := (List.forall_mem_cons.mp hw1).1
          have hw2 := (List.forall_mem_cons.mp (List.forall_mem_cons.mp hw1).2).2
          have hj1 : j1 < am_cnt 12 := (List.forall_mem_cons.mp hw2).1
          have q1 : ¬ sp0 < 0 := fun q => hcnd (Or.inl q)
          have q2 : ¬ dp0 < 0 := fun q => hcnd (Or.inr (Or.inl q))
          have q3 : ¬ n0 < 0 := fun q => hcnd (Or.inr (Or.inr (Or.inl q)))
          have q4 : sp0.toNatClampNeg + n0.toNatClampNeg ≤ 40 := Nat.not_lt.mp fun q => hcnd (Or.inr (Or.inr (Or.inr (Or.inl q))))
          have q5 : dp0.toNatClampNeg + n0.toNatClampNeg ≤ 40 := Nat.not_lt.mp fun q => hcnd (Or.inr (Or.inr (Or.inr (Or.inr q))))
          refine va_copyl hx hb (by rw [hml]; exact hL.2.1.symm) hown (hts _ a1) (hts _ a2) (hts _ a3) (hts _ a4) eK hP (hDw h) hS (am_off 12 + j1) (am_off 12 + j2) 4 4 (am_w_at G h (c := 12) (by decide) hj1) (am_w_at G h (c := 12) (by decide) hj2) rfl rfl rfl q1 q2 q3 q4 q5 (fun _ _ => rfl) a5 (by show 0 + _ ≤ _; omega) hd (fun H1 locs1 hP1 hD1 hS1 => ?_)
          refine hgo _ _ _ _ hr H1 locs1 ls ?_ hS1 hL hwL (fun _ q => by cases q)
          rw [← am_w_cp G h _ _ _ hj2]
          have ec : am_cell G (h_cp h j1 j2 sp0.toNatClampNeg dp0.toNatClampNeg n0.toNatClampNeg) 12 j2 = .inl (G.2.1 12, am_len 12 j2, .inr (.inl (va_cpy (fun k => h_rJ h 12 j1 k) (fun k => h_rJ h 12 j2 k) sp0.toNatClampNeg dp0.toNatClampNeg n0.toNatClampNeg))) := am_up_cp _ _ _ _ _ _ _
          rw [ec]
          exact hP1
      · cases hr
  | ireturn =>
    have hn : nx = pc + 1 := of_decide_eq_true hil
    subst hn
    rw [Nat.add_sub_cancel_left] at hd
    simp only [am_exec] at hr
    split at hr
    · rename_i v
      exact hRi (.inl v) h r pc ls H locs hr trivial hd hP hS
    · cases hr
  | return_ =>
    have hn : nx = pc + 1 := of_decide_eq_true hil
    subst hn
    rw [Nat.add_sub_cancel_left] at hd
    simp only [am_exec] at hr
    split at hr
    · exact hRv (.inr (.inr (.inr ()))) h r pc ls H locs hr trivial hd hP hS
    · cases hr
  | lreturn =>
    have hn : nx = pc + 1 := of_decide_eq_true hil
    subst hn
    rw [Nat.add_sub_cancel_left] at hd
    simp only [am_exec] at hr
    split at hr
    · rename_i v
      exact hRj (.inr (.inl v)) h r pc ls H locs hr trivial hd hP hS
    · cases hr
  | areturn =>
    have hn : nx = pc + 1 := of_decide_eq_true hil
    subst hn
    rw [Nat.add_sub_cancel_left] at hd
    simp only [am_exec] at hr
    split at hr
    · rename_i v
      exact hRr (.inr (.inr (.inl v))) h r pc ls H locs hr (List.forall_mem_cons.mp hwS).1 hd hP hS
    · cases hr
  | _ => cases hr
/-- a run -/
theorem am_run_ok {ρ : Type} {G : AG} {nL : Nat} {cc : ByteArray} {own : String} {Ts : List Cond} {P : AP} {Rr : AR ρ} {Q : ρ → State → Prop} (CX : am_X p l e R s m args below meth c cells slots G nL cc own Ts P Rr Q)
    {C : List AC} (hC : ∀ x ∈ C, am_ok cc nL x = true) {K : List (Nat × (List AV → List AV → HP → Option ρ))} {r : ρ} (hK : ∀ pc k, am_get K pc = some k → ∀ L st h, k L st h = some r → am_W p l e R s m args below meth c cells slots G nL (Q r) pc L st h) :
    ∀ (n pc : Nat) (L st : List AV) (h : HP), am_run (G.2.2.2.2.2.1.2.2, G.2.2.2.2.2.1.2.1) P Rr C K n pc L st h = some r → am_W p l e R s m args below meth c cells slots G nL (Q r) pc L st h
  | 0, pc, L, st, h, hr => by cases hr
  | n + 1, pc, L, st, h, hr => by
    unfold am_run at hr
    cases hg : am_get C pc with
    | none => rw [hg] at hr; cases hr
    | some x =>
      obtain ⟨ins, nx, tg⟩ := x
      rw [hg] at hr
      refine am_exec_ok CX (hC _ (am_get_mem _ _ _ hg)) (fun pc' L' st' h' q => ?_) hr
      cases hk : am_get K pc' with
      | none =>
        rw [hk] at q
        exact am_run_ok CX hC hK n pc' L' st' h' q
      | some k =>
        rw [hk] at q
        exact hK pc' k hk L' st' h' q
end AMS
end
section
/-! METHODS: a contract out of the abstract machine's run; a call out of a contract -/
def am_tb : List Cond := lw_tbl.filter goodWord
theorem am_tb_mem {w : Cond} (h : w ∈ lw_tbl ∧ goodWord w = true) : w ∈ am_tb := List.mem_filter.mpr h
def am_ws (y : MethodName) (cc : ByteArray) (mL : Nat) (ret : Option FieldType) : List Cond := .code y cc mL ret :: am_tb
def am_Rm (fr lo : Nat) : Room := { frames := fr, cells := 0, slots := 0, locals := lo }
/-- the locals at a method's entry -/
def am_l0 : List AV → List AV
  | [] => []
  | v :: r => match am_isL v with
    | true => v :: am_un :: am_l0 r
    | false => v :: am_l0 r
def am_L0 (n : Nat) (as : List AV) : List AV := am_l0 as ++ List.replicate (n - (am_l0 as).length) am_un
/-- a method's contract: whatever F answers, the method does -/
def am_M (l : Launch) (G : AG) (y : MethodName) (cc : ByteArray) (mL : Nat) (ret : Option FieldType) (fr lo : Nat) (rc : Option Nat) (F : AF) : Prop :=
  ∀ (as : List AV) (h h' : HP) (r : Option AV), am_app F as h = some (r, h') → (∀ v ∈ as, am_wv v) → (∀ k, rc = some k → ∃ (j : Nat) (as' : List AV), as = .inr (.inr (.inl (k, j))) :: as') ∧ (∀ v, r = some v → am_wv v) ∧
    Met l y (am_ws y cc mL ret) (am_Rm fr lo) (va_Pc (as.map (am_tr G)) (fun U => am_E G U ∧ va_P G.1 vwCl (am_w G h) U.heap)) (fun _ st oc t => oc = .returned (r.map (am_tr G)) ∧ va_P G.1 vwCl (am_w G h') t.heap ∧ va_F (am_reg G) st t) 0 0 (am_reg G)
/-- a method's body: from its entry the run comes to what f says -/
def am_B {ρ : Type} (l : Launch) (G : AG) (nL : Nat) (cc : ByteArray) (own : String) (Ts : List Cond) (P : AP) (Rr : AR ρ) (f : List AV → HP → Option ρ) : Prop :=
  ∀ (p : Program) (e : Env) (R : Room) (s : State) (m : MethodId) (args : Array Value) (below : List Frame) (meth : Method) (c : Code) (cells slots : Nat) (Q : ρ → State → Prop), am_X p l e R s m args below meth c cells slots G nL cc own Ts P Rr Q →
    ∀ (as : List AV) (h : HP) (r : ρ), f as h = some r → am_W p l e R s m args below meth c cells slots G nL (Q r) 0 (am_L0 nL as) [] h
/-- a callee by invokevirtual -/
def am_cvOK (l : Launch) (G : AG) (own : String) (fr lo : Nat) (x : Nat × Nat × AF) : Prop :=
  ∃ (y : MethodName) (cc : ByteArray) (mL : Nat) (ret : Option FieldType) (f2 l2 rc : Nat) (C : String), am_M l G y cc mL ret f2 l2 (some rc) x.2.2 ∧
    (Cond.methodLink own x.1 y ∈ am_tb ∧ Cond.instanceMethod y ∈ am_tb ∧ Cond.selects C y y ∈ am_tb ∧ Cond.initialized C ∈ am_tb ∧ Cond.code y cc mL ret ∈ am_tb) ∧
    (y.cls = C ∧ y.cls ≠ "java/lang/invoke/MethodHandle" ∧ y.cls ≠ "java/lang/invoke/VarHandle" ∧ (parseMethodDescriptor y.desc).map (fun d => d.parameters.length + 1) = some x.2.1) ∧
    ((rc < 8 ∧ vwCl[rc]?.map (fun q => q.1) = some C) ∨ (rc = 16 ∧ C = "java/lang/String")) ∧ f2 + 1 ≤ fr ∧ 8 + (mL + 11) + l2 ≤ lo
/-- Math.max and Math.min -/
def f_J9_max_7cf53 (a1 a2 : Int32) (h : HP) : Option (Int32 × HP) := some (if a1 < a2 then a2 else a1, h)
def fl_J9_max_7cf53 : List AV → HP → Option (Int32 × HP) := fun as h => match as with
  | [.inl a1, .inl a2] => f_J9_max_7cf53 a1 a2 h
  | _ => none
def F_J9_max_7cf53 : AF := .inl fl_J9_max_7cf53
def f_J9_min_7cf53 (a1 a2 : Int32) (h : HP) : Option (Int32 × HP) := some (if a2 < a1 then a2 else a1, h)
def fl_J9_min_7cf53 : List AV → HP → Option (Int32 × HP) := fun as h => match as with
  | [.inl a1, .inl a2] => f_J9_min_7cf53 a1 a2 h
  | _ => none
def F_J9_min_7cf53 : AF := .inl fl_J9_min_7cf53
/-- a callee by invokestatic -/
def am_csOK (l : Launch) (G : AG) (own : String) (fr lo : Nat) (x : Nat × Nat × AF) : Prop :=
  (∃ (y : MethodName) (cc : ByteArray) (mL : Nat) (ret : Option FieldType) (f2 l2 : Nat), am_M l G y cc mL ret f2 l2 none x.2.2 ∧
    (Cond.methodLink own x.1 y ∈ am_tb ∧ Cond.static y ∈ am_tb ∧ Cond.initialized y.cls ∈ am_tb ∧ Cond.code y cc mL ret ∈ am_tb) ∧
    (y.cls ≠ "java/lang/invoke/MethodHandle" ∧ y.cls ≠ "java/lang/invoke/VarHandle" ∧ (parseMethodDescriptor y.desc).map (fun d => d.parameters.length) = some x.2.1) ∧ f2 + 1 ≤ fr ∧ 8 + (mL + 11) + l2 ≤ lo) ∨
  (x.2.2 = F_J9_max_7cf53 ∧ (Cond.methodLink own x.1 Lib.Math.max.name ∈ am_tb ∧ Cond.static Lib.Math.max.name ∈ am_tb ∧ Cond.initialized "java/lang/Math" ∈ am_tb ∧ Cond.code Lib.Math.max.name Lib.Math.max.code 2 (some .int) ∈ am_tb) ∧ 1 ≤ fr ∧ 21 ≤ lo) ∨
  (x.2.2 = F_J9_min_7cf53 ∧ (Cond.methodLink own x.1 Lib.Math.min.name ∈ am_tb ∧ Cond.static Lib.Math.min.name ∈ am_tb ∧ Cond.initialized "java/lang/Math" ∈ am_tb ∧ Cond.code Lib.Math.min.name Lib.Math.min.code 2 (some .int) ∈ am_tb) ∧ 1 ≤ fr ∧ 21 ≤ lo)
theorem am_good {Ts : List Cond} (hsub : ∀ w ∈ am_tb, w ∈ Ts) {ws : List Cond} (h : ∀ w ∈ ws, w ∈ am_tb) : GoodIn Ts ws := fun w hw => ⟨hsub w (h w hw), good_of_word (List.mem_filter.mp (h w hw)).2⟩
theorem am_blind {G : AG} {as : List Value} {h : HP} : FrameBlind (va_Pc as (fun U => am_E G U ∧ va_P G.1 vwCl (am_w G h) U.heap)) := fun _ _ _ _ q => ⟨q.1, q.2.1.call, q.2.2⟩
section AMC
variable {p : Program} {l : Launch} {e : Env} {R : Room} {s : State} {m : MethodId} {args : Array Value} {below : List Frame} {meth : Method} {c : Code} {cells slots : Nat} {G : AG} {nL : Nat} {cc : ByteArray} {own : String} {Ts : List Cond} {fr lo : Nat}
theorem am_pre {as : List AV} {h : HP} {H : Heap} {locs : List Loc} (hE : am_E G s) (hP : va_P G.1 vwCl (am_w G h) H) (hS : va_S (am_reg G) s.heap H locs) : ∀ U : State, U.heap = H → s.WarmedH U.vm → va_Pc (as.map (am_tr G)) (fun U => am_E G U ∧ va_P G.1 vwCl (am_w G h) U.heap) (as.map (am_tr G)).toArray U := by
  intro U hU hW
  exact ⟨rfl, hE.go (by rw [hU]; exact hS) hW, by rw [hU]; exact hP⟩
theorem am_recv {h : HP} {H : Heap} {locs : List Loc} (hE : am_E G s) (hP : va_P G.1 vwCl (am_w G h) H) (hS : va_S (am_reg G) s.heap H locs) {rc j : Nat} {C : String} (hj : j < am_cnt rc) (h1 : (rc < 8 ∧ vwCl[rc]?.map (fun q => q.1) = some C) ∨ (rc = 16 ∧ C = "java/lang/String")) :
    ∃ cellB : Cell, H[am_loc G (rc, j)]? = some cellB ∧ cellB.vm.isStatics = false ∧ s.vm.findClass C = some cellB.cls := by
  rcases h1 with ⟨h1, h2⟩ | ⟨h1, h2⟩
  · cases hq : vwCl[rc]? with
    | none => rw [hq] at h2; cases h2
    | some q =>
      rw [hq] at h2
      have e2 : q.1 = C := Option.some.inj h2
      have hat := am_w_at G h (c := rc) (by omega) hj
      rw [am_cell_o G h h1] at hat
      rw [am_loc_o G (by omega), ← e2]
      exact va_recv hE.1 hP hq hat
  · subst h1
    rw [h2]
    exact vk_recv hE.2.2.2.1 hj hS
theorem am_cV {x : Nat × Nat × AF} (hx : p.tables.exec = Jvm.exec) (hb : c.code = cc) (hml : c.maxLocals = nL) (hown : s.vm.findClass own = some m.cls) (hts : ∀ w ∈ Ts, w.before args s = true) (hsub : ∀ w ∈ am_tb, w ∈ Ts) (hE : am_E G s) (hfr : fr ≤ R.frames) (hlo : lo ≤ R.locals) (hcs : cells ≤ R.cells ∧ slots ≤ R.slots)
    (hv : am_cvOK l G own fr lo x) : am_C p l e R s m args below meth c cells slots G nL cc (.invokevirtual x.1) x.2.1 x.2.2 := by
  obtain ⟨y, c2, mL, ret, f2, l2, rc, C, hM, ⟨w1, w2, w3, w4, w5⟩, ⟨d1, d2, d3, d4⟩, h1, hf2, hl2⟩ := hv
  intro as h h' r happ hlen hwa
  obtain ⟨m1, m2, m3⟩ := hM as h h' r happ hwa
  obtain ⟨j, as', e1⟩ := m1 rc rfl
  subst e1
  refine ⟨m2, fun pc rest H locs ls hd hsz hr8 hP hS => ?_⟩
  have hj : j < am_cnt rc := hwa _ List.mem_cons_self
  have hn : (parseMethodDescriptor y.desc).map (fun d => d.parameters.length) = some as'.length := by
    cases hq : parseMethodDescriptor y.desc with
    | none => rw [hq] at d4; cases d4
    | some q =>
      rw [hq] at d4
      have h5 : q.parameters.length + 1 = x.2.1 := Option.some.inj d4
      rw [← hlen] at h5
      show some q.parameters.length = _
      rw [Nat.succ.inj h5]
  have hst : (F0 m pc ls (((Sum.inr (Sum.inr (Sum.inl (rc, j))) :: as' : List AV).map (am_tr G)).reverse ++ rest.map (am_tr G))).stack = (as'.map (am_tr G)).reverse ++ .ref (am_loc G (rc, j)) :: rest.map (am_tr G) := by
    show ((am_tr G (.inr (.inr (.inl (rc, j)))) :: as'.map (am_tr G)).reverse ++ rest.map (am_tr G)) = _
    rw [List.reverse_cons, List.append_assoc]
    rfl
  have hin : ∀ w ∈ wsV own x.1 C y (am_ws y c2 mL ret), w ∈ am_tb := by
    intro w hw
    rcases List.mem_append.mp hw with hw | hw
    · rcases List.mem_cons.mp hw with rfl | hw
      · exact w1
      rcases List.mem_cons.mp hw with rfl | hw
      · exact w2
      rcases List.mem_cons.mp hw with rfl | hw
      · exact w3
      rcases List.mem_cons.mp hw with rfl | hw
      · exact w4
      cases hw
    · rcases List.mem_cons.mp hw with rfl | hw
      · exact w5
      · exact hw
  exact va_runV (As := as'.map (am_tr G)) (rest := rest.map (am_tr G)) ⟨hx, hb, hml, hown, hts⟩ m3 (cwV (as'.length) hts (am_good hsub hin) rfl rfl rfl ⟨d1, d2, d3, hn⟩ ⟨Nat.le_trans hf2 hfr, Nat.le_trans hl2 hlo⟩)
    ⟨am_blind, am_recv hE hP hS hj h1, am_pre (as := Sum.inr (Sum.inr (Sum.inl (rc, j))) :: as') hE hP hS⟩ rfl (by simp) hsz hst (lv_room (by rw [am_sz_eq hE.2.2.2.2.2.2.2.1]; exact hr8)) hd ⟨hcs.1, hcs.2⟩
theorem am_cS {x : Nat × Nat × AF} (hx : p.tables.exec = Jvm.exec) (hb : c.code = cc) (hml : c.maxLocals = nL) (hown : s.vm.findClass own = some m.cls) (hts : ∀ w ∈ Ts, w.before args s = true) (hsub : ∀ w ∈ am_tb, w ∈ Ts) (hE : am_E G s) (hfr : fr ≤ R.frames) (hlo : lo ≤ R.locals) (hcs : cells ≤ R.cells ∧ slots ≤ R.slots)
    (hv : am_csOK l G own fr lo x) : am_C p l e R s m args below meth c cells slots G nL cc (.invokestatic x.1) x.2.1 x.2.2 := by
  rcases hv with ⟨y, c2, mL, ret, f2, l2, hM, ⟨w1, w2, w4, w5⟩, ⟨d2, d3, d4⟩, hf2, hl2⟩ | ⟨hF, ⟨w1, w2, w4, w5⟩, hf2, hl2⟩ | ⟨hF, ⟨w1, w2, w4, w5⟩, hf2, hl2⟩
  rotate_left
  · intro as h h' r happ hlen hwa
    rw [hF] at happ
    obtain ⟨q, e1, e2⟩ := Option.map_eq_some_iff.mp (show (fl_J9_max_7cf53 as h).map (fun q => ((some (.inl q.1) : Option AV), q.2)) = some (r, h') from happ)
    unfold fl_J9_max_7cf53 at e1
    split at e1
    · rename_i a1 a2
      cases e1
      cases e2
      refine ⟨fun v hv => by cases hv; exact trivial, fun pc rest H locs ls hd hsz hr8 hP hS => ?_⟩
      intro T hT X
      obtain ⟨vm', X', st⟩ := va_mathMaxV X hx hown (hts _ (hsub _ w1)) (hts _ (hsub _ w2)) (hts _ (hsub _ w4)) (hts _ (hsub _ w5)) (g := F0 m pc ls (.int a2 :: .int a1 :: rest.map (am_tr G))) rfl (hsz.trans hml.symm) (a := a1) (b := a2) (rest := rest.map (am_tr G)) rfl (by rw [hb]; exact hd) (Nat.le_trans hf2 hfr) (by rw [am_sz_eq hE.2.2.2.2.2.2.2.1]; show 2 * 0 + _ + 13 ≤ _; omega) hcs.1 hcs.2
      exact ⟨some (.int (if a1 < a2 then a2 else a1)), T, T.setVm vm', T.setVm vm', [], hT, by rw [List.append_nil]; exact X', (fun q hq => by cases hq), rfl, rfl, ⟨rfl, by show va_P _ _ _ T.heap; rw [hT]; exact hP, Nat.le_refl _, fun _ _ _ => rfl⟩, st⟩
    · cases e1
  · intro as h h' r happ hlen hwa
    rw [hF] at happ
    obtain ⟨q, e1, e2⟩ := Option.map_eq_some_iff.mp (show (fl_J9_min_7cf53 as h).map (fun q => ((some (.inl q.1) : Option AV), q.2)) = some (r, h') from happ)
    unfold fl_J9_min_7cf53 at e1
    split at e1
    · rename_i a1 a2
      cases e1
      cases e2
      refine ⟨fun v hv => by cases hv; exact trivial, fun pc rest H locs ls hd hsz hr8 hP hS => ?_⟩
      intro T hT X
      obtain ⟨vm', X', st⟩ := X.mathMinV hx hown (hts _ (hsub _ w1)) (hts _ (hsub _ w2)) (hts _ (hsub _ w4)) (hts _ (hsub _ w5)) (g := F0 m pc ls (.int a2 :: .int a1 :: rest.map (am_tr G))) rfl (hsz.trans hml.symm) (a := a1) (b := a2) (rest := rest.map (am_tr G)) rfl (by rw [hb]; exact hd) (Nat.le_trans hf2 hfr) (by rw [am_sz_eq hE.2.2.2.2.2.2.2.1]; show 2 * 0 + _ + 13 ≤ _; omega) hcs.1 hcs.2
      exact ⟨some (.int (if a2 < a1 then a2 else a1)), T, T.setVm vm', T.setVm vm', [], hT, by rw [List.append_nil]; exact X', (fun q hq => by cases hq), rfl, rfl, ⟨rfl, by show va_P _ _ _ T.heap; rw [hT]; exact hP, Nat.le_refl _, fun _ _ _ => rfl⟩, st⟩
    · cases e1
  intro as h h' r happ hlen hwa
  obtain ⟨-, m2, m3⟩ := hM as h h' r happ hwa
  refine ⟨m2, fun pc rest H locs ls hd hsz hr8 hP hS => ?_⟩
  have hin : ∀ w ∈ va_wsS own x.1 y (am_ws y c2 mL ret), w ∈ am_tb := by
    intro w hw
    rcases List.mem_append.mp hw with hw | hw
    · rcases List.mem_cons.mp hw with rfl | hw
      · exact w1
      rcases List.mem_cons.mp hw with rfl | hw
      · exact w2
      rcases List.mem_cons.mp hw with rfl | hw
      · exact w4
      cases hw
    · rcases List.mem_cons.mp hw with rfl | hw
      · exact w5
      · exact hw
  exact va_runS (As := as.map (am_tr G)) (rest := rest.map (am_tr G)) ⟨hx, hb, hml, hown, hts⟩ m3 (va_cwS (as.length) hts (am_good hsub hin) rfl rfl rfl ⟨d2, d3, by rw [hlen]; exact d4⟩ ⟨Nat.le_trans hf2 hfr, Nat.le_trans hl2 hlo⟩)
    ⟨am_blind, am_pre hE hP hS⟩ rfl (by simp) hsz rfl (lv_room (by rw [am_sz_eq hE.2.2.2.2.2.2.2.1]; exact hr8)) hd ⟨hcs.1, hcs.2⟩
end AMC
theorem am_l0_nth {G : AG} (hs : G.2.2.2.2.2.2.category = 1) : ∀ (as : List AV) (k i : Nat) (v : AV), am_nth (am_l0 as) i = some v → v ≠ am_un → (k + i, am_tr G v) ∈ lv_args k (as.map (am_tr G))
  | [], _, _, _, h, _ => by cases h
  | w :: r, k, i, v, h, hv => by
    unfold am_l0 at h
    have hc := am_cat hs w
    cases e : am_isL w with
    | true =>
      rw [e] at h hc
      match i, h with
      | 0, h => cases h; exact List.mem_cons_self
      | 1, h => exact absurd (Option.some.inj h).symm hv
      | i + 2, h =>
        have ih := am_l0_nth hs r (k + 2) i v h hv
        refine List.mem_cons_of_mem _ ?_
        rw [if_pos hc, show k + (i + 2) = k + 2 + i by omega]
        exact ih
    | false =>
      rw [e] at h hc
      match i, h with
      | 0, h => cases h; exact List.mem_cons_self
      | i + 1, h =>
        have ih := am_l0_nth hs r (k + 1) i v h hv
        refine List.mem_cons_of_mem _ ?_
        rw [if_neg (by rw [hc]; decide), show k + (i + 1) = k + 1 + i by omega]
        exact ih
theorem am_l0_len {G : AG} (hs : G.2.2.2.2.2.2.category = 1) : ∀ (as : List AV), (lg_sl (as.map (am_tr G))).length = (am_l0 as).length
  | [] => rfl
  | w :: r => by
    have ih := am_l0_len hs r
    have hc := am_cat hs w
    unfold am_l0
    unfold lg_sl at ih ⊢
    rw [List.map_cons, List.flatMap_cons, List.length_append, ih]
    cases e : am_isL w with
    | true =>
      rw [e] at hc
      rw [if_pos hc]
      simp
      omega
    | false =>
      rw [e] at hc
      rw [if_neg (by rw [hc]; decide)]
      simp
      omega
theorem am_nth_app : ∀ (a b : List AV) (i : Nat) (v : AV), am_nth (a ++ b) i = some v → am_nth a i = some v ∨ v ∈ b
  | [], b, i, v, h => Or.inr (am_nth_mem b i v h)
  | w :: a, b, 0, v, h => Or.inl h
  | w :: a, b, i + 1, v, h => am_nth_app a b i v h
theorem am_LR0 {G : AG} (hs : G.2.2.2.2.2.2.category = 1) (as : List AV) {n : Nat} (hn : (am_l0 as).length ≤ n) : am_LR G n ((lg_sl (as.map (am_tr G)) ++ List.replicate (n - (lg_sl (as.map (am_tr G))).length) Slot.unset).toArray) (am_L0 n as) := by
  have hl := lv_entry (as.map (am_tr G)) (n := n) (by rw [am_l0_len hs]; exact hn)
  refine ⟨by simp [am_L0]; omega, hl.1, hl.2.1, fun i v hi hv => ?_⟩
  rcases am_nth_app _ _ _ _ hi with q | q
  · have := am_l0_nth hs as 0 i v q hv
    rw [Nat.zero_add] at this
    exact hl.2.2 _ this
  · exact absurd (List.eq_of_mem_replicate q) hv
theorem am_L0_wf : ∀ (as : List AV), (∀ v ∈ as, am_wv v) → ∀ v ∈ am_l0 as, am_wv v
  | [], _, v, h => by cases h
  | w :: r, hw, v, h => by
    have h2 := List.forall_mem_cons.mp hw
    unfold am_l0 at h
    cases e : am_isL w with
    | true =>
      rw [e] at h
      rcases List.mem_cons.mp h with rfl | h
      · exact h2.1
      rcases List.mem_cons.mp h with rfl | h
      · exact trivial
      exact am_L0_wf r h2.2 v h
    | false =>
      rw [e] at h
      rcases List.mem_cons.mp h with rfl | h
      · exact h2.1
      exact am_L0_wf r h2.2 v h
/-- what a return means for the type that comes back -/
def am_rk {ρ : Type} (ret : Option FieldType) (Rr : AR ρ) (toR : ρ → Option AV × HP) : Prop :=
  (∀ v h r, Rr.1 v h = some r → ∃ (ty : FieldType) (w : Int32), ret = some ty ∧ narrow ty (.int v) = .int w ∧ toR r = (some (.inl w), h)) ∧
  (∀ h r, Rr.2.1 h = some r → ret = none ∧ toR r = (none, h)) ∧
  (∀ v h r, Rr.2.2.1 v h = some r → ret = some .long ∧ toR r = (some (.inr (.inl v)), h)) ∧
  (∀ v h r, Rr.2.2.2 v h = some r → (∃ nm, ret = some (.object nm)) ∧ toR r = (some (.inr (.inr (.inl v))), h))
set_option maxHeartbeats 1000000 in
theorem am_M_of {ρ : Type} {l : Launch} {G : AG} {y : MethodName} {cc : ByteArray} {mL : Nat} {ret : Option FieldType} {fr lo : Nat} {rc : Option Nat} {F : AF} {f : List AV → HP → Option ρ} {toR : ρ → Option AV × HP} {P : AP} {Rr : AR ρ} {own : String}
    (hy : plainName y.cls = true) (hcls : y.cls = own) (happ : ∀ as h, am_app F as h = (f as h).map toR) (hsh : ∀ as h x, f as h = some x → (∀ k, rc = some k → ∃ (j : Nat) (as' : List AV), as = .inr (.inr (.inl (k, j))) :: as') ∧ (am_l0 as).length ≤ mL)
    (hwr : ∀ as h x, f as h = some x → ∀ v, (toR x).1 = some v → am_wv v) (hrk : am_rk ret Rr toR)
    (hF : ∀ x ∈ P.1, am_fok own am_tb x) (hK : ∀ x ∈ P.2.1, am_kok own am_tb x) (hS : ∀ x ∈ P.2.2.1, am_sok own am_tb x) (hV : ∀ x ∈ P.2.2.2.1, am_cvOK l G own fr lo x) (hC : ∀ x ∈ P.2.2.2.2.1, am_csOK l G own fr lo x) (hA : ∀ x ∈ P.2.2.2.2.2, am_aok own am_tb (am_Rm fr lo) x)
    (hB : am_B l G mL cc own am_tb P Rr f) : am_M l G y cc mL ret fr lo rc F := by
  intro as h h' r hr hwa
  rw [happ] at hr
  obtain ⟨x, hx1, hx2⟩ := Option.map_eq_some_iff.mp hr
  obtain ⟨s1, s2⟩ := hsh as h x hx1
  refine ⟨s1, fun v hv => hwr as h x hx1 v (by rw [hx2]; exact hv), ?_⟩
  refine Met.ofW (cc := cc) (maxL := mL) (ret := ret) hy rfl ?_
  intro p e s m args below meth c s₁ B hml hv
  obtain ⟨rfl, hE, hP⟩ := hv
  have hx := B.exec
  have hb := B.bytes
  have hrt := B.returns
  have hts0 := atoms_spec (ws := am_ws y cc mL ret) B.pre
  have hts : ∀ w ∈ am_tb, w.before (as.map (am_tr G)).toArray s = true := fun w hw => hts0 w (List.mem_cons_of_mem _ hw)
  have hown : s.vm.findClass own = some m.cls := by rw [← hcls]; exact findClass_of_methodNamed B.named
  have hlocks := B.notSynchronized
  have ecat := hE.2.2.2.2.2.2.2.1
  have hS0 : va_S (am_reg G) s.heap s.heap [] := va_S.rf
  have hq : ∀ (r' : Option AV) (h2 : HP) (H : Heap) (locs : List Loc), (r', h2) = (r, h') → va_P G.1 vwCl (am_w G h2) H → va_S (am_reg G) s.heap H locs → ∀ t : State, t.heap = H → s.WarmedH t.vm → (fun (_ : Array Value) (st : State) (oc : Outcome) (t : State) => oc = .returned (r.map (am_tr G)) ∧ va_P G.1 vwCl (am_w G h') t.heap ∧ va_F (am_reg G) st t) (as.map (am_tr G)).toArray s (.returned (r'.map (am_tr G))) t := by
    intro r' h2 H locs e9 hP9 hS9 t ht _
    cases e9
    exact ⟨rfl, by rw [ht]; exact hP9, hS9.F ht⟩
  have CX : am_X p l e (headSpec (am_ws y cc mL ret) (am_Rm fr lo)).room s m (as.map (am_tr G)).toArray below meth c 0 0 G mL cc own am_tb P Rr (fun x => fun t => toR x = (r, h') → MQ below (fun _ st oc t => oc = .returned (r.map (am_tr G)) ∧ va_P G.1 vwCl (am_w G h') t.heap ∧ va_F (am_reg G) st t) (as.map (am_tr G)).toArray s 0 0 (am_reg G) t) := by
    refine ⟨hx, hb, hml, hown, hts, hE, hF, hK, hS, fun ix n F9 h9 => ?_, fun ix n F9 h9 => ?_, hA, ?_, ?_, ?_, ?_⟩
    · exact am_cV (x := (ix, n, F9)) hx hb hml hown hts (fun _ q => q) hE (Nat.le_refl fr) (Nat.le_refl lo) ⟨Nat.le_refl 0, Nat.le_refl 0⟩ (hV _ (am_get_mem _ _ _ h9))
    · exact am_cS (x := (ix, n, F9)) hx hb hml hown hts (fun _ q => q) hE (Nat.le_refl fr) (Nat.le_refl lo) ⟨Nat.le_refl 0, Nat.le_refl 0⟩ (hC _ (am_get_mem _ _ _ h9))
    · intro v h2 x2 pc ls H locs hret hwv hd hP9 hS9
      rcases v with v | v | v | v
      · obtain ⟨ty, w, e1, e2, e3⟩ := hrk.1 v h2 x2 hret
        intro T hT X9
        by_cases e4 : toR x2 = (r, h')
        · rw [e3] at e4
          obtain ⟨t, a1, b1⟩ := am_nret (Qc := fun _ st oc t => oc = .returned (r.map (am_tr G)) ∧ va_P G.1 vwCl (am_w G h') t.heap ∧ va_F (am_reg G) st t) (free := am_reg G) hx hb (hrt.trans e1) e2 (hq _ h2 H locs e4 hP9 hS9) hS9.2.2 hd hlocks T hT X9
          exact ⟨t, a1, fun _ => b1⟩
        · obtain ⟨t, a1, b1⟩ := am_nret (Qc := fun _ _ _ _ => True) (free := am_reg G) hx hb (hrt.trans e1) e2 (fun _ _ _ => trivial) hS9.2.2 hd hlocks T hT X9
          exact ⟨t, a1, fun q => absurd q e4⟩
      · cases hret
      · cases hret
      · cases hret
    · intro v h2 x2 pc ls H locs hret hwv hd hP9 hS9
      rcases v with v | v | v | v
      · cases hret
      · cases hret
      · cases hret
      · obtain ⟨e1, e3⟩ := hrk.2.1 h2 x2 hret
        intro T hT X9
        by_cases e4 : toR x2 = (r, h')
        · rw [e3] at e4
          obtain ⟨t, a1, b1⟩ := W.vret (Qc := fun _ st oc t => oc = .returned (r.map (am_tr G)) ∧ va_P G.1 vwCl (am_w G h') t.heap ∧ va_F (am_reg G) st t) (free := am_reg G) hx hb (hrt.trans e1) (hq _ h2 H locs e4 hP9 hS9) hS9.2.2 hd hlocks T hT X9
          exact ⟨t, a1, fun _ => b1⟩
        · obtain ⟨t, a1, b1⟩ := W.vret (Qc := fun _ _ _ _ => True) (free := am_reg G) hx hb (hrt.trans e1) (fun _ _ _ => trivial) hS9.2.2 hd hlocks T hT X9
          exact ⟨t, a1, fun q => absurd q e4⟩
    · intro v h2 x2 pc ls H locs hret hwv hd hP9 hS9
      rcases v with v | v | v | v
      · cases hret
      · obtain ⟨e1, e3⟩ := hrk.2.2.1 v h2 x2 hret
        intro T hT X9
        by_cases e4 : toR x2 = (r, h')
        · rw [e3] at e4
          obtain ⟨t, a1, b1⟩ := W.lret (Qc := fun _ st oc t => oc = .returned (r.map (am_tr G)) ∧ va_P G.1 vwCl (am_w G h') t.heap ∧ va_F (am_reg G) st t) (free := am_reg G) hx hb (hrt.trans e1) (hq _ h2 H locs e4 hP9 hS9) hS9.2.2 hd hlocks T hT X9
          exact ⟨t, a1, fun _ => b1⟩
        · obtain ⟨t, a1, b1⟩ := W.lret (Qc := fun _ _ _ _ => True) (free := am_reg G) hx hb (hrt.trans e1) (fun _ _ _ => trivial) hS9.2.2 hd hlocks T hT X9
          exact ⟨t, a1, fun q => absurd q e4⟩
      · cases hret
      · cases hret
    · intro v h2 x2 pc ls H locs hret hwv hd hP9 hS9
      rcases v with v | v | v | v
      · cases hret
      · cases hret
      · obtain ⟨⟨nm, e1⟩, e3⟩ := hrk.2.2.2 v h2 x2 hret
        intro T hT X9
        by_cases e4 : toR x2 = (r, h')
        · rw [e3] at e4
          obtain ⟨t, a1, b1⟩ := W.aret (Qc := fun _ st oc t => oc = .returned (r.map (am_tr G)) ∧ va_P G.1 vwCl (am_w G h') t.heap ∧ va_F (am_reg G) st t) (free := am_reg G) hx hb (hrt.trans e1) (Or.inl ⟨nm, rfl⟩) (Or.inr ⟨_, rfl⟩) (hq _ h2 H locs e4 hP9 hS9) hS9.2.2 hd hlocks T hT X9
          exact ⟨t, a1, fun _ => b1⟩
        · obtain ⟨t, a1, b1⟩ := W.aret (Qc := fun _ _ _ _ => True) (free := am_reg G) hx hb (hrt.trans e1) (Or.inl ⟨nm, rfl⟩) (Or.inr ⟨_, rfl⟩) (fun _ _ _ => trivial) hS9.2.2 hd hlocks T hT X9
          exact ⟨t, a1, fun q => absurd q e4⟩
      · cases hret
  have hgo := hB p e _ s m _ below meth c 0 0 _ CX as h x hx1
  rw [lg_entry_eq]
  have hw0 : ∀ v ∈ am_L0 mL as, am_wv v := fun v hv => by
    rcases List.mem_append.mp hv with q | q
    · exact am_L0_wf as hwa v q
    · rw [List.eq_of_mem_replicate q]; exact trivial
  intro T hT X9
  obtain ⟨t, a1, b1⟩ := hgo s.heap [] _ hP hS0 (am_LR0 ecat as s2) hw0 (fun _ q => by cases q) T hT X9
  exact ⟨t, a1, b1 hx2⟩
end
section
/-! THE WORDS OF THE TABLES THAT THE METHODS NEED; the pools of the classes -/
noncomputable def am_fu : Nat := Classical.choose (⟨1000, rfl⟩ : ∃ n : Nat, n = 1000)
theorem am_fu_eq : am_fu = 1000 := Classical.choose_spec (⟨1000, rfl⟩ : ∃ n : Nat, n = 1000)
theorem am_K0 {ρ : Type} {Wp : Nat → List AV → List AV → HP → Prop} {r : ρ} : ∀ (pc : Nat) (k : List AV → List AV → HP → Option ρ), am_get ([] : List (Nat × (List AV → List AV → HP → Option ρ))) pc = some k → ∀ L st h, k L st h = some r → Wp pc L st h := fun _ _ h => by cases h
theorem am_K1 {ρ : Type} {Wp : Nat → List AV → List AV → HP → Prop} {r : ρ} {p1 : Nat} {k1 : List AV → List AV → HP → Option ρ} {K : List (Nat × (List AV → List AV → HP → Option ρ))} (h1 : ∀ L st h, k1 L st h = some r → Wp p1 L st h)
    (h2 : ∀ (pc : Nat) (k : List AV → List AV → HP → Option ρ), am_get K pc = some k → ∀ L st h, k L st h = some r → Wp pc L st h) : ∀ (pc : Nat) (k : List AV → List AV → HP → Option ρ), am_get ((p1, k1) :: K) pc = some k → ∀ L st h, k L st h = some r → Wp pc L st h := by
  intro pc k hg
  unfold am_get at hg
  cases e : Nat.beq p1 pc with
  | true =>
    rw [e] at hg
    cases hg
    rw [← Nat.eq_of_beq_eq_true e]
    exact h1
  | false =>
    rw [e] at hg
    exact h2 pc k hg
theorem am_rkI : am_rk (some .int) am_rI (fun x => (some (.inl x.1), x.2)) := ⟨fun v h r e => by cases e; exact ⟨.int, v, rfl, rfl, rfl⟩, fun h r e => (by cases e), fun v h r e => (by cases e), fun v h r e => (by cases e)⟩
theorem am_rkZ : am_rk (some .boolean) am_rZ (fun x => (some (.inl x.1), x.2)) := ⟨fun v h r e => by cases e; exact ⟨.boolean, v &&& 1, rfl, rfl, rfl⟩, fun h r e => (by cases e), fun v h r e => (by cases e), fun v h r e => (by cases e)⟩
theorem am_rkB : am_rk (some .byte) am_rB (fun x => (some (.inl x.1), x.2)) := ⟨fun v h r e => by cases e; exact ⟨.byte, v.toInt8.toInt32, rfl, rfl, rfl⟩, fun h r e => (by cases e), fun v h r e => (by cases e), fun v h r e => (by cases e)⟩
theorem am_rkC : am_rk (some .char) am_rC (fun x => (some (.inl x.1), x.2)) := ⟨fun v h r e => by cases e; exact ⟨.char, v.toUInt32.toUInt16.toUInt32.toInt32, rfl, rfl, rfl⟩, fun h r e => (by cases e), fun v h r e => (by cases e), fun v h r e => (by cases e)⟩
theorem am_rkV : am_rk none am_rV (fun x => (none, x)) := ⟨fun v h r e => (by cases e), fun h r e => (by cases e; exact ⟨rfl, rfl⟩), fun v h r e => (by cases e), fun v h r e => (by cases e)⟩
theorem am_rkJ : am_rk (some .long) am_rJ (fun x => (some (.inr (.inl x.1)), x.2)) := ⟨fun v h r e => (by cases e), fun h r e => (by cases e), fun v h r e => (by cases e; exact ⟨rfl, rfl⟩), fun v h r e => (by cases e)⟩
theorem am_rkR : am_rk (some (.object "java/lang/String")) am_rR (fun x => (some (.inr (.inr (.inl (16, x.1)))), x.2)) := ⟨fun v h r e => (by cases e), fun h r e => (by cases e), fun v h r e => (by cases e), fun v h r e => by
  obtain ⟨v1, v2⟩ := v
  change (match Nat.beq 16 v1 with
    | true => some (v2, h)
    | false => none) = some r at e
  cases e1 : Nat.beq 16 v1 with
  | false => rw [e1] at e; cases e
  | true =>
    rw [e1] at e
    cases e
    rw [← Nat.eq_of_beq_eq_true e1]
    exact ⟨⟨_, rfl⟩, rfl⟩⟩
theorem am_wrI {f : List AV → HP → Option (Int32 × HP)} : ∀ as h x, f as h = some x → ∀ v, ((fun x : Int32 × HP => ((some (.inl x.1) : Option AV), x.2)) x).1 = some v → am_wv v := fun _ _ x _ v hv => by cases hv; exact trivial
theorem am_wrV {f : List AV → HP → Option HP} : ∀ as h x, f as h = some x → ∀ v, ((fun x : HP => ((none : Option AV), x)) x).1 = some v → am_wv v := fun _ _ x _ v hv => by cases hv
theorem am_wrJ {f : List AV → HP → Option (Int64 × HP)} : ∀ as h x, f as h = some x → ∀ v, ((fun x : Int64 × HP => ((some (.inr (.inl x.1)) : Option AV), x.2)) x).1 = some v → am_wv v := fun _ _ x _ v hv => by cases hv; exact trivial

/-! words -/
theorem tb_0 : ∀ w ∈ k2_sels lw_privs, w ∈ lw_tbl := fun w hw => List.mem_append_left _ hw
theorem tb_1 : ∀ w ∈ tables_1_1, w ∈ lw_tbl := fun w hw => List.mem_append_right _ (List.mem_append_left _ hw)
theorem tb_2 : ∀ w ∈ tables_1_2, w ∈ lw_tbl := fun w hw => List.mem_append_right _ (List.mem_append_right _ (List.mem_append_left _ hw))
theorem tb_3 : ∀ w ∈ tables_1_3, w ∈ lw_tbl := fun w hw => List.mem_append_right _ (List.mem_append_right _ (List.mem_append_right _ (List.mem_append_left _ hw)))
theorem tb_4 : ∀ w ∈ tables_1_4, w ∈ lw_tbl := fun w hw => List.mem_append_right _ (List.mem_append_right _ (List.mem_append_right _ (List.mem_append_right _ (List.mem_append_left _ hw))))
theorem tb_5 : ∀ w ∈ tables_1_5, w ∈ lw_tbl := fun w hw => List.mem_append_right _ (List.mem_append_right _ (List.mem_append_right _ (List.mem_append_right _ (List.mem_append_right _ hw))))
def WD_0 : List Cond := [Cond.selects RX6 yX6_tell yX6_tell, Cond.selects RX0 yX0_isOpposite yX0_isOpposite, Cond.selects RX5 yX5_step yX5_step, Cond.selects RX5 yX5_numberHere yX5_numberHere, Cond.selects RX5 yX5_takeItem yX5_takeItem, Cond.selects RX5 yX5_namedKind yX5_namedKind, Cond.selects RX5 yX5_isWord yX5_isWord, Cond.selects RX5 yX5_takeHandle yX5_takeHandle, Cond.selects RX5 yX5_takeWord yX5_takeWord, Cond.selects RX5 yX5_takeNumber yX5_takeNumber, Cond.selects RX5 yX5_takeMember yX5_takeMember, Cond.selects RX5 yX5_takeLoan yX5_takeLoan, Cond.selects RX7 yX7_finds yX7_finds, Cond.selects RX7 yX7_addHandle yX7_addHandle, Cond.selects RX7 yX7_puts yX7_puts, Cond.selects RX7 yX7_isOne yX7_isOne, Cond.selects RX7 yX7_isLate yX7_isLate, Cond.selects RX7 yX7_its yX7_its, Cond.selects RX7 yX7_endOf yX7_endOf, Cond.selects RX7 yX7_moved yX7_moved, Cond.selects RX7 yX7_wears yX7_wears, Cond.selects RX7 yX7_becomes yX7_becomes, Cond.selects RX7 yX7_opens yX7_opens, Cond.selects RX7 yX7_leadsTo yX7_leadsTo, Cond.selects RX7 yX7_arePair yX7_arePair, Cond.selects RX7 yX7_addMember yX7_addMember, Cond.selects RX7 yX7_isMember yX7_isMember, Cond.selects RX7 yX7_whose yX7_whose, Cond.selects RX7 yX7_holds yX7_holds, Cond.selects RX7 yX7_openTo yX7_openTo, Cond.selects RX7 yX7_hasPair yX7_hasPair, Cond.selects RX7 yX7_lends yX7_lends, Cond.selects RX7 yX7_wearsBy yX7_wearsBy, Cond.selects RX7 yX7_passes yX7_passes, Cond.selects RX7 yX7_oneDay yX7_oneDay, Cond.selects RX7 yX7_finesAll yX7_finesAll, Cond.selects RX7 yX7_lentSet yX7_lentSet, Cond.selects RX7 yX7_lateSet yX7_lateSet, Cond.selects RX7 yX7_wearAll yX7_wearAll, Cond.selects RX7 yX7_moveAll yX7_moveAll]
theorem wg_0 : ∀ w ∈ WD_0, goodWord w = true := by decide +kernel
set_option maxRecDepth 10000 in
theorem wm_0 : ∀ w ∈ WD_0, w ∈ lw_tbl := (List.forall_mem_cons.mpr ⟨tb_0 _ (List.mem_of_getElem? (i := 0) rfl), (List.forall_mem_cons.mpr ⟨tb_0 _ (List.mem_of_getElem? (i := 1) rfl), (List.forall_mem_cons.mpr ⟨tb_0 _ (List.mem_of_getElem? (i := 2) rfl), (List.forall_mem_cons.mpr ⟨tb_0 _ (List.mem_of_getElem? (i := 3) rfl), (List.forall_mem_cons.mpr ⟨tb_0 _ (List.mem_of_getElem? (i := 4) rfl), (List.forall_mem_cons.mpr ⟨tb_0 _ (List.mem_of_getElem? (i := 5) rfl), (List.forall_mem_cons.mpr ⟨tb_0 _ (List.mem_of_getElem? (i := 6) rfl), (List.forall_mem_cons.mpr ⟨tb_0 _ (List.mem_of_getElem? (i := 7) rfl), (List.forall_mem_cons.mpr ⟨tb_0 _ (List.mem_of_getElem? (i := 8) rfl), (List.forall_mem_cons.mpr ⟨tb_0 _ (List.mem_of_getElem? (i := 9) rfl), (List.forall_mem_cons.mpr ⟨tb_0 _ (List.mem_of_getElem? (i := 10) rfl), (List.forall_mem_cons.mpr ⟨tb_0 _ (List.mem_of_getElem? (i := 11) rfl), (List.forall_mem_cons.mpr ⟨tb_0 _ (List.mem_of_getElem? (i := 12) rfl), (List.forall_mem_cons.mpr ⟨tb_0 _ (List.mem_of_getElem? (i := 13) rfl), (List.forall_mem_cons.mpr ⟨tb_0 _ (List.mem_of_getElem? (i := 14) rfl), (List.forall_mem_cons.mpr ⟨tb_0 _ (List.mem_of_getElem? (i := 15) rfl), (List.forall_mem_cons.mpr ⟨tb_0 _ (List.mem_of_getElem? (i := 16) rfl), (List.forall_mem_cons.mpr ⟨tb_0 _ (List.mem_of_getElem? (i := 17) rfl), (List.forall_mem_cons.mpr ⟨tb_0 _ (List.mem_of_getElem? (i := 18) rfl), (List.forall_mem_cons.mpr ⟨tb_0 _ (List.mem_of_getElem? (i := 19) rfl), (List.forall_mem_cons.mpr ⟨tb_0 _ (List.mem_of_getElem? (i := 20) rfl), (List.forall_mem_cons.mpr ⟨tb_0 _ (List.mem_of_getElem? (i := 21) rfl), (List.forall_mem_cons.mpr ⟨tb_0 _ (List.mem_of_getElem? (i := 22) rfl), (List.forall_mem_cons.mpr ⟨tb_0 _ (List.mem_of_getElem? (i := 23) rfl), (List.forall_mem_cons.mpr ⟨tb_0 _ (List.mem_of_getElem? (i := 24) rfl), (List.forall_mem_cons.mpr ⟨tb_0 _ (List.mem_of_getElem? (i := 25) rfl), (List.forall_mem_cons.mpr ⟨tb_0 _ (List.mem_of_getElem? (i := 26) rfl), (List.forall_mem_cons.mpr ⟨tb_0 _ (List.mem_of_getElem? (i := 27) rfl), (List.forall_mem_cons.mpr ⟨tb_0 _ (List.mem_of_getElem? (i := 28) rfl), (List.forall_mem_cons.mpr ⟨tb_0 _ (List.mem_of_getElem? (i := 29) rfl), (List.forall_mem_cons.mpr ⟨tb_0 _ (List.mem_of_getElem? (i := 30) rfl), (List.forall_mem_cons.mpr ⟨tb_0 _ (List.mem_of_getElem? (i := 31) rfl), (List.forall_mem_cons.mpr ⟨tb_0 _ (List.mem_of_getElem? (i := 32) rfl), (List.forall_mem_cons.mpr ⟨tb_0 _ (List.mem_of_getElem? (i := 33) rfl), (List.forall_mem_cons.mpr ⟨tb_0 _ (List.mem_of_getElem? (i := 34) rfl), (List.forall_mem_cons.mpr ⟨tb_0 _ (List.mem_of_getElem? (i := 35) rfl), (List.forall_mem_cons.mpr ⟨tb_0 _ (List.mem_of_getElem? (i := 36) rfl), (List.forall_mem_cons.mpr ⟨tb_0 _ (List.mem_of_getElem? (i := 37) rfl), (List.forall_mem_cons.mpr ⟨tb_0 _ (List.mem_of_getElem? (i := 38) rfl), (List.forall_mem_cons.mpr ⟨tb_0 _ (List.mem_of_getElem? (i := 39) rfl), (fun _ q => by cases q)⟩)⟩)⟩)⟩)⟩)⟩)⟩)⟩)⟩)⟩)⟩)⟩)⟩)⟩)⟩)⟩)⟩)⟩)⟩)⟩)⟩)⟩)⟩)⟩)⟩)⟩)⟩)⟩)⟩)⟩)⟩)⟩)⟩)⟩)⟩)⟩)⟩)⟩)⟩)⟩)
theorem wd_0 : ∀ w ∈ WD_0, w ∈ lw_tbl ∧ goodWord w = true := fun w hw => ⟨wm_0 w hw, wg_0 w hw⟩
def WD_1 : List Cond := [Cond.selects RX7 yX7_reachOf yX7_reachOf, Cond.selects RX7 yX7_oneMore yX7_oneMore, Cond.selects RX7 yX7_far yX7_far, Cond.selects RX7 yX7_comes yX7_comes, Cond.selects RX7 yX7_mayHave yX7_mayHave, Cond.selects RX7 yX7_advance yX7_advance, Cond.selects RX7 yX7_byteAt yX7_byteAt, Cond.selects RX7 yX7_wantItem yX7_wantItem, Cond.selects RX7 yX7_kindHere yX7_kindHere, Cond.selects RX7 yX7_isWord yX7_isWord, Cond.selects RX7 yX7_wantHandle yX7_wantHandle, Cond.selects RX7 yX7_wantWord yX7_wantWord, Cond.selects RX7 yX7_wantNumber yX7_wantNumber, Cond.selects RX7 yX7_mayWant yX7_mayWant, Cond.selects RX7 yX7_wantMember yX7_wantMember, Cond.selects RX7 yX7_isPart yX7_isPart, Cond.selects RX7 yX7_badSheet yX7_badSheet, Cond.selects RX7 yX7_isLed yX7_isLed, Cond.selects RX7 yX7_pairs yX7_pairs, Cond.initialized RX6, Cond.initialized RX1, Cond.initialized RX0, Cond.initialized RX2, Cond.initialized RX4, Cond.initialized RX5, Cond.initialized RX3, Cond.initialized RX7, Cond.initialized RJ6, Cond.initialized "java/lang/Math", Cond.initialized RJ0, Cond.initialized RJ1, Cond.initialized RJ3, Cond.initialized "java/lang/System", Cond.fieldLink RX0 15 RX0 (TX0 0).2.1 (TX0 0).2.2.1, Cond.fieldLink RX6 77 RX0 (TX0 0).2.1 (TX0 0).2.2.1, Cond.fieldLink RX1 45 RX0 (TX0 0).2.1 (TX0 0).2.2.1, Cond.fieldLink RX0 18 RX0 (TX0 1).2.1 (TX0 1).2.2.1, Cond.fieldLink RX6 83 RX0 (TX0 1).2.1 (TX0 1).2.2.1, Cond.fieldLink RX1 48 RX0 (TX0 1).2.1 (TX0 1).2.2.1, Cond.fieldLink RX0 21 RX0 (TX0 2).2.1 (TX0 2).2.2.1]
theorem wg_1 : ∀ w ∈ WD_1, goodWord w = true := by decide +kernel
set_option maxRecDepth 10000 in
theorem wm_1 : ∀ w ∈ WD_1, w ∈ lw_tbl := (List.forall_mem_cons.mpr ⟨tb_0 _ (List.mem_of_getElem? (i := 40) rfl), (List.forall_mem_cons.mpr ⟨tb_0 _ (List.mem_of_getElem? (i := 41) rfl), (List.forall_mem_cons.mpr ⟨tb_0 _ (List.mem_of_getElem? (i := 42) rfl), (List.forall_mem_cons.mpr ⟨tb_0 _ (List.mem_of_getElem? (i := 43) rfl), (List.forall_mem_cons.mpr ⟨tb_0 _ (List.mem_of_getElem? (i := 44) rfl), (List.forall_mem_cons.mpr ⟨tb_0 _ (List.mem_of_getElem? (i := 45) rfl), (List.forall_mem_cons.mpr ⟨tb_0 _ (List.mem_of_getElem? (i := 46) rfl), (List.forall_mem_cons.mpr ⟨tb_0 _ (List.mem_of_getElem? (i := 47) rfl), (List.forall_mem_cons.mpr ⟨tb_0 _ (List.mem_of_getElem? (i := 48) rfl), (List.forall_mem_cons.mpr ⟨tb_0 _ (List.mem_of_getElem? (i := 49) rfl), (List.forall_mem_cons.mpr ⟨tb_0 _ (List.mem_of_getElem? (i := 50) rfl), (List.forall_mem_cons.mpr ⟨tb_0 _ (List.mem_of_getElem? (i := 51) rfl), (List.forall_mem_cons.mpr ⟨tb_0 _ (List.mem_of_getElem? (i := 52) rfl), (List.forall_mem_cons.mpr ⟨tb_0 _ (List.mem_of_getElem? (i := 53) rfl), (List.forall_mem_cons.mpr ⟨tb_0 _ (List.mem_of_getElem? (i := 54) rfl), (List.forall_mem_cons.mpr ⟨tb_0 _ (List.mem_of_getElem? (i := 55) rfl), (List.forall_mem_cons.mpr ⟨tb_0 _ (List.mem_of_getElem? (i := 56) rfl), (List.forall_mem_cons.mpr ⟨tb_0 _ (List.mem_of_getElem? (i := 57) rfl), (List.forall_mem_cons.mpr ⟨tb_0 _ (List.mem_of_getElem? (i := 58) rfl), (List.forall_mem_cons.mpr ⟨tb_1 _ (List.mem_of_getElem? (i := 1) rfl), (List.forall_mem_cons.mpr ⟨tb_1 _ (List.mem_of_getElem? (i := 2) rfl), (List.forall_mem_cons.mpr ⟨tb_1 _ (List.mem_of_getElem? (i := 3) rfl), (List.forall_mem_cons.mpr ⟨tb_1 _ (List.mem_of_getElem? (i := 4) rfl), (List.forall_mem_cons.mpr ⟨tb_1 _ (List.mem_of_getElem? (i := 5) rfl), (List.forall_mem_cons.mpr ⟨tb_1 _ (List.mem_of_getElem? (i := 6) rfl), (List.forall_mem_cons.mpr ⟨tb_1 _ (List.mem_of_getElem? (i := 7) rfl), (List.forall_mem_cons.mpr ⟨tb_1 _ (List.mem_of_getElem? (i := 8) rfl), (List.forall_mem_cons.mpr ⟨tb_1 _ (List.mem_of_getElem? (i := 9) rfl), (List.forall_mem_cons.mpr ⟨tb_1 _ (List.mem_of_getElem? (i := 10) rfl), (List.forall_mem_cons.mpr ⟨tb_1 _ (List.mem_of_getElem? (i := 11) rfl), (List.forall_mem_cons.mpr ⟨tb_1 _ (List.mem_of_getElem? (i := 12) rfl), (List.forall_mem_cons.mpr ⟨tb_1 _ (List.mem_of_getElem? (i := 13) rfl), (List.forall_mem_cons.mpr ⟨tb_1 _ (List.mem_of_getElem? (i := 15) rfl), (List.forall_mem_cons.mpr ⟨tb_1 _ (List.mem_of_getElem? (i := 37) rfl), (List.forall_mem_cons.mpr ⟨tb_1 _ (List.mem_of_getElem? (i := 38) rfl), (List.forall_mem_cons.mpr ⟨tb_1 _ (List.mem_of_getElem? (i := 39) rfl), (List.forall_mem_cons.mpr ⟨tb_1 _ (List.mem_of_getElem? (i := 40) rfl), (List.forall_mem_cons.mpr ⟨tb_1 _ (List.mem_of_getElem? (i := 41) rfl), (List.forall_mem_cons.mpr ⟨tb_1 _ (List.mem_of_getElem? (i := 42) rfl), (List.forall_mem_cons.mpr ⟨tb_1 _ (List.mem_of_getElem? (i := 43) rfl), (fun _ q => by cases q)⟩)⟩)⟩)⟩)⟩)⟩)⟩)⟩)⟩)⟩)⟩)⟩)⟩)⟩)⟩)⟩)⟩)⟩)⟩)⟩)⟩)⟩)⟩)⟩)⟩)⟩)⟩)⟩)⟩)⟩)⟩)⟩)⟩)⟩)⟩)⟩)⟩)⟩)⟩)⟩)
theorem wd_1 : ∀ w ∈ WD_1, w ∈ lw_tbl ∧ goodWord w = true := fun w hw => ⟨wm_1 w hw, wg_1 w hw⟩
def WD_2 : List Cond := [Cond.fieldLink RX6 86 RX0 (TX0 2).2.1 (TX0 2).2.2.1, Cond.fieldLink RX1 51 RX0 (TX0 2).2.1 (TX0 2).2.2.1, Cond.fieldLink RX0 24 RX0 (TX0 3).2.1 (TX0 3).2.2.1, Cond.fieldLink RX6 89 RX0 (TX0 3).2.1 (TX0 3).2.2.1, Cond.fieldLink RX1 54 RX0 (TX0 3).2.1 (TX0 3).2.2.1, Cond.fieldLink RX0 9 RX0 (TX0 4).2.1 (TX0 4).2.2.1, Cond.fieldLink RX6 92 RX0 (TX0 4).2.1 (TX0 4).2.2.1, Cond.fieldLink RX1 57 RX0 (TX0 4).2.1 (TX0 4).2.2.1, Cond.fieldLink RX0 27 RX0 (TX0 5).2.1 (TX0 5).2.2.1, Cond.fieldLink RX6 95 RX0 (TX0 5).2.1 (TX0 5).2.2.1, Cond.fieldLink RX1 60 RX0 (TX0 5).2.1 (TX0 5).2.2.1, u_lay RX0 TX0 0, u_lay RX0 TX0 1, u_lay RX0 TX0 2, u_lay RX0 TX0 3, u_lay RX0 TX0 4, u_lay RX0 TX0 5, Cond.fieldLink RX2 7 RX2 (TX2 0).2.1 (TX2 0).2.2.1, Cond.fieldLink RX1 63 RX2 (TX2 0).2.1 (TX2 0).2.2.1, Cond.fieldLink RX6 146 RX2 (TX2 0).2.1 (TX2 0).2.2.1, Cond.fieldLink RX2 13 RX2 (TX2 1).2.1 (TX2 1).2.2.1, Cond.fieldLink RX1 66 RX2 (TX2 1).2.1 (TX2 1).2.2.1, Cond.fieldLink RX6 151 RX2 (TX2 1).2.1 (TX2 1).2.2.1, u_lay RX2 TX2 0, u_lay RX2 TX2 1, Cond.fieldLink RX1 29 RX1 (TX1 0).2.1 (TX1 0).2.2.1, Cond.fieldLink RX6 107 RX1 (TX1 0).2.1 (TX1 0).2.2.1, Cond.fieldLink RX1 9 RX1 (TX1 1).2.1 (TX1 1).2.2.1, Cond.fieldLink RX6 98 RX1 (TX1 1).2.1 (TX1 1).2.2.1, Cond.fieldLink RX5 88 RX1 (TX1 1).2.1 (TX1 1).2.2.1, Cond.fieldLink RX1 17 RX1 (TX1 2).2.1 (TX1 2).2.2.1, Cond.fieldLink RX6 73 RX1 (TX1 2).2.1 (TX1 2).2.2.1, Cond.fieldLink RX1 32 RX1 (TX1 3).2.1 (TX1 3).2.2.1, Cond.fieldLink RX6 224 RX1 (TX1 3).2.1 (TX1 3).2.2.1, Cond.fieldLink RX1 24 RX1 (TX1 4).2.1 (TX1 4).2.2.1, Cond.fieldLink RX6 142 RX1 (TX1 4).2.1 (TX1 4).2.2.1, Cond.fieldLink RX1 39 RX1 (TX1 5).2.1 (TX1 5).2.2.1, Cond.fieldLink RX6 296 RX1 (TX1 5).2.1 (TX1 5).2.2.1, u_lay RX1 TX1 0, u_lay RX1 TX1 1]
theorem wg_2 : ∀ w ∈ WD_2, goodWord w = true := by decide +kernel
set_option maxRecDepth 10000 in
theorem wm_2 : ∀ w ∈ WD_2, w ∈ lw_tbl := (List.forall_mem_cons.mpr ⟨tb_1 _ (List.mem_of_getElem? (i := 44) rfl), (List.forall_mem_cons.mpr ⟨tb_1 _ (List.mem_of_getElem? (i := 45) rfl), (List.forall_mem_cons.mpr ⟨tb_1 _ (List.mem_of_getElem? (i := 46) rfl), (List.forall_mem_cons.mpr ⟨tb_1 _ (List.mem_of_getElem? (i := 47) rfl), (List.forall_mem_cons.mpr ⟨tb_1 _ (List.mem_of_getElem? (i := 48) rfl), (List.forall_mem_cons.mpr ⟨tb_1 _ (List.mem_of_getElem? (i := 49) rfl), (List.forall_mem_cons.mpr ⟨tb_1 _ (List.mem_of_getElem? (i := 50) rfl), (List.forall_mem_cons.mpr ⟨tb_1 _ (List.mem_of_getElem? (i := 51) rfl), (List.forall_mem_cons.mpr ⟨tb_1 _ (List.mem_of_getElem? (i := 52) rfl), (List.forall_mem_cons.mpr ⟨tb_1 _ (List.mem_of_getElem? (i := 53) rfl), (List.forall_mem_cons.mpr ⟨tb_1 _ (List.mem_of_getElem? (i := 54) rfl), (List.forall_mem_cons.mpr ⟨tb_1 _ (List.mem_of_getElem? (i := 55) rfl), (List.forall_mem_cons.mpr ⟨tb_1 _ (List.mem_of_getElem? (i := 57) rfl), (List.forall_mem_cons.mpr ⟨tb_1 _ (List.mem_of_getElem? (i := 59) rfl), (List.forall_mem_cons.mpr ⟨tb_1 _ (List.mem_of_getElem? (i := 61) rfl), (List.forall_mem_cons.mpr ⟨tb_1 _ (List.mem_of_getElem? (i := 63) rfl), (List.forall_mem_cons.mpr ⟨tb_1 _ (List.mem_of_getElem? (i := 65) rfl), (List.forall_mem_cons.mpr ⟨tb_1 _ (List.mem_of_getElem? (i := 75) rfl), (List.forall_mem_cons.mpr ⟨tb_1 _ (List.mem_of_getElem? (i := 76) rfl), (List.forall_mem_cons.mpr ⟨tb_1 _ (List.mem_of_getElem? (i := 77) rfl), (List.forall_mem_cons.mpr ⟨tb_1 _ (List.mem_of_getElem? (i := 78) rfl), (List.forall_mem_cons.mpr ⟨tb_1 _ (List.mem_of_getElem? (i := 79) rfl), (List.forall_mem_cons.mpr ⟨tb_1 _ (List.mem_of_getElem? (i := 80) rfl), (List.forall_mem_cons.mpr ⟨tb_1 _ (List.mem_of_getElem? (i := 81) rfl), (List.forall_mem_cons.mpr ⟨tb_1 _ (List.mem_of_getElem? (i := 83) rfl), (List.forall_mem_cons.mpr ⟨tb_1 _ (List.mem_of_getElem? (i := 86) rfl), (List.forall_mem_cons.mpr ⟨tb_1 _ (List.mem_of_getElem? (i := 87) rfl), (List.forall_mem_cons.mpr ⟨tb_1 _ (List.mem_of_getElem? (i := 88) rfl), (List.forall_mem_cons.mpr ⟨tb_1 _ (List.mem_of_getElem? (i := 89) rfl), (List.forall_mem_cons.mpr ⟨tb_1 _ (List.mem_of_getElem? (i := 90) rfl), (List.forall_mem_cons.mpr ⟨tb_1 _ (List.mem_of_getElem? (i := 91) rfl), (List.forall_mem_cons.mpr ⟨tb_1 _ (List.mem_of_getElem? (i := 92) rfl), (List.forall_mem_cons.mpr ⟨tb_1 _ (List.mem_of_getElem? (i := 93) rfl), (List.forall_mem_cons.mpr ⟨tb_1 _ (List.mem_of_getElem? (i := 94) rfl), (List.forall_mem_cons.mpr ⟨tb_1 _ (List.mem_of_getElem? (i := 95) rfl), (List.forall_mem_cons.mpr ⟨tb_1 _ (List.mem_of_getElem? (i := 96) rfl), (List.forall_mem_cons.mpr ⟨tb_1 _ (List.mem_of_getElem? (i := 97) rfl), (List.forall_mem_cons.mpr ⟨tb_1 _ (List.mem_of_getElem? (i := 98) rfl), (List.forall_mem_cons.mpr ⟨tb_1 _ (List.mem_of_getElem? (i := 99) rfl), (List.forall_mem_cons.mpr ⟨tb_1 _ (List.mem_of_getElem? (i := 101) rfl), (fun _ q => by cases q)⟩)⟩)⟩)⟩)⟩)⟩)⟩)⟩)⟩)⟩)⟩)⟩)⟩)⟩)⟩)⟩)⟩)⟩)⟩)⟩)⟩)⟩)⟩)⟩)⟩)⟩)⟩)⟩)⟩)⟩)⟩)⟩)⟩)⟩)⟩)⟩)⟩)⟩)⟩)⟩)
theorem wd_2 : ∀ w ∈ WD_2, w ∈ lw_tbl ∧ goodWord w = true := fun w hw => ⟨wm_2 w hw, wg_2 w hw⟩
def WD_3 : List Cond := [u_lay RX1 TX1 2, u_lay RX1 TX1 3, u_lay RX1 TX1 4, u_lay RX1 TX1 5, Cond.fieldLink RX4 9 RX4 (TX4 0).2.1 (TX4 0).2.2.1, Cond.fieldLink RX5 115 RX4 (TX4 0).2.1 (TX4 0).2.2.1, Cond.fieldLink RX4 15 RX4 (TX4 1).2.1 (TX4 1).2.2.1, Cond.fieldLink RX5 125 RX4 (TX4 1).2.1 (TX4 1).2.2.1, Cond.fieldLink RX6 241 RX4 (TX4 1).2.1 (TX4 1).2.2.1, u_lay RX4 TX4 0, u_lay RX4 TX4 1, Cond.fieldLink RX5 9 RX5 (TX5 0).2.1 (TX5 0).2.2.1, Cond.fieldLink RX5 15 RX5 (TX5 1).2.1 (TX5 1).2.2.1, Cond.fieldLink RX5 30 RX5 (TX5 2).2.1 (TX5 2).2.2.1, Cond.fieldLink RX5 33 RX5 (TX5 3).2.1 (TX5 3).2.2.1, Cond.fieldLink RX5 19 RX5 (TX5 4).2.1 (TX5 4).2.2.1, Cond.fieldLink RX5 91 RX5 (TX5 5).2.1 (TX5 5).2.2.1, u_lay RX5 TX5 0, u_lay RX5 TX5 1, u_lay RX5 TX5 2, u_lay RX5 TX5 3, u_lay RX5 TX5 4, u_lay RX5 TX5 5, Cond.fieldLink RX3 15 RX3 (TX3 0).2.1 (TX3 0).2.2.1, Cond.fieldLink RX6 273 RX3 (TX3 0).2.1 (TX3 0).2.2.1, Cond.fieldLink RX3 19 RX3 (TX3 1).2.1 (TX3 1).2.2.1, Cond.fieldLink RX6 258 RX3 (TX3 1).2.1 (TX3 1).2.2.1, Cond.fieldLink RX3 9 RX3 (TX3 2).2.1 (TX3 2).2.2.1, Cond.fieldLink RX6 265 RX3 (TX3 2).2.1 (TX3 2).2.2.1, u_lay RX3 TX3 0, u_lay RX3 TX3 1, u_lay RX3 TX3 2, Cond.fieldLink RX6 10 RX6 (TX6 0).2.1 (TX6 0).2.2.1, Cond.fieldLink RX6 16 RX6 (TX6 1).2.1 (TX6 1).2.2.1, Cond.fieldLink RX6 19 RX6 (TX6 2).2.1 (TX6 2).2.2.1, Cond.fieldLink RX6 292 RX6 (TX6 3).2.1 (TX6 3).2.2.1, Cond.fieldLink RX6 25 RX6 (TX6 4).2.1 (TX6 4).2.2.1, Cond.fieldLink RX6 34 RX6 (TX6 5).2.1 (TX6 5).2.2.1, Cond.fieldLink RX6 40 RX6 (TX6 6).2.1 (TX6 6).2.2.1, Cond.fieldLink RX6 45 RX6 (TX6 7).2.1 (TX6 7).2.2.1]
theorem wg_3 : ∀ w ∈ WD_3, goodWord w = true := by decide +kernel
set_option maxRecDepth 10000 in
theorem wm_3 : ∀ w ∈ WD_3, w ∈ lw_tbl := (List.forall_mem_cons.mpr ⟨tb_1 _ (List.mem_of_getElem? (i := 103) rfl), (List.forall_mem_cons.mpr ⟨tb_1 _ (List.mem_of_getElem? (i := 105) rfl), (List.forall_mem_cons.mpr ⟨tb_1 _ (List.mem_of_getElem? (i := 107) rfl), (List.forall_mem_cons.mpr ⟨tb_1 _ (List.mem_of_getElem? (i := 109) rfl), (List.forall_mem_cons.mpr ⟨tb_1 _ (List.mem_of_getElem? (i := 118) rfl), (List.forall_mem_cons.mpr ⟨tb_1 _ (List.mem_of_getElem? (i := 119) rfl), (List.forall_mem_cons.mpr ⟨tb_1 _ (List.mem_of_getElem? (i := 120) rfl), (List.forall_mem_cons.mpr ⟨tb_1 _ (List.mem_of_getElem? (i := 121) rfl), (List.forall_mem_cons.mpr ⟨tb_1 _ (List.mem_of_getElem? (i := 122) rfl), (List.forall_mem_cons.mpr ⟨tb_1 _ (List.mem_of_getElem? (i := 123) rfl), (List.forall_mem_cons.mpr ⟨tb_1 _ (List.mem_of_getElem? (i := 125) rfl), (List.forall_mem_cons.mpr ⟨tb_1 _ (List.mem_of_getElem? (i := 135) rfl), (List.forall_mem_cons.mpr ⟨tb_1 _ (List.mem_of_getElem? (i := 136) rfl), (List.forall_mem_cons.mpr ⟨tb_1 _ (List.mem_of_getElem? (i := 137) rfl), (List.forall_mem_cons.mpr ⟨tb_1 _ (List.mem_of_getElem? (i := 138) rfl), (List.forall_mem_cons.mpr ⟨tb_1 _ (List.mem_of_getElem? (i := 139) rfl), (List.forall_mem_cons.mpr ⟨tb_1 _ (List.mem_of_getElem? (i := 140) rfl), (List.forall_mem_cons.mpr ⟨tb_1 _ (List.mem_of_getElem? (i := 141) rfl), (List.forall_mem_cons.mpr ⟨tb_1 _ (List.mem_of_getElem? (i := 143) rfl), (List.forall_mem_cons.mpr ⟨tb_1 _ (List.mem_of_getElem? (i := 145) rfl), (List.forall_mem_cons.mpr ⟨tb_1 _ (List.mem_of_getElem? (i := 147) rfl), (List.forall_mem_cons.mpr ⟨tb_1 _ (List.mem_of_getElem? (i := 149) rfl), (List.forall_mem_cons.mpr ⟨tb_1 _ (List.mem_of_getElem? (i := 151) rfl), (List.forall_mem_cons.mpr ⟨tb_1 _ (List.mem_of_getElem? (i := 161) rfl), (List.forall_mem_cons.mpr ⟨tb_1 _ (List.mem_of_getElem? (i := 162) rfl), (List.forall_mem_cons.mpr ⟨tb_1 _ (List.mem_of_getElem? (i := 163) rfl), (List.forall_mem_cons.mpr ⟨tb_1 _ (List.mem_of_getElem? (i := 164) rfl), (List.forall_mem_cons.mpr ⟨tb_1 _ (List.mem_of_getElem? (i := 165) rfl), (List.forall_mem_cons.mpr ⟨tb_1 _ (List.mem_of_getElem? (i := 166) rfl), (List.forall_mem_cons.mpr ⟨tb_1 _ (List.mem_of_getElem? (i := 167) rfl), (List.forall_mem_cons.mpr ⟨tb_1 _ (List.mem_of_getElem? (i := 169) rfl), (List.forall_mem_cons.mpr ⟨tb_1 _ (List.mem_of_getElem? (i := 171) rfl), (List.forall_mem_cons.mpr ⟨tb_1 _ (List.mem_of_getElem? (i := 175) rfl), (List.forall_mem_cons.mpr ⟨tb_1 _ (List.mem_of_getElem? (i := 176) rfl), (List.forall_mem_cons.mpr ⟨tb_1 _ (List.mem_of_getElem? (i := 177) rfl), (List.forall_mem_cons.mpr ⟨tb_1 _ (List.mem_of_getElem? (i := 178) rfl), (List.forall_mem_cons.mpr ⟨tb_1 _ (List.mem_of_getElem? (i := 179) rfl), (List.forall_mem_cons.mpr ⟨tb_1 _ (List.mem_of_getElem? (i := 180) rfl), (List.forall_mem_cons.mpr ⟨tb_1 _ (List.mem_of_getElem? (i := 181) rfl), (List.forall_mem_cons.mpr ⟨tb_1 _ (List.mem_of_getElem? (i := 182) rfl), (fun _ q => by cases q)⟩)⟩)⟩)⟩)⟩)⟩)⟩)⟩)⟩)⟩)⟩)⟩)⟩)⟩)⟩)⟩)⟩)⟩)⟩)⟩)⟩)⟩)⟩)⟩)⟩)⟩)⟩)⟩)⟩)⟩)⟩)⟩)⟩)⟩)⟩)⟩)⟩)⟩)⟩)⟩)
theorem wd_3 : ∀ w ∈ WD_3, w ∈ lw_tbl ∧ goodWord w = true := fun w hw => ⟨wm_3 w hw, wg_3 w hw⟩
def WD_4 : List Cond := [u_lay RX6 TX6 0, u_lay RX6 TX6 1, u_lay RX6 TX6 2, u_lay RX6 TX6 3, u_lay RX6 TX6 4, u_lay RX6 TX6 5, u_lay RX6 TX6 6, u_lay RX6 TX6 7, Cond.methodLink RL 13 yX6_handle, Cond.instanceMethod yX6_handle, Cond.selects RX6 yX6_handle yX6_handle, Cond.code yX6_handle cX6_handle 4 (some .int), Cond.methodLink RX6 49 yX6_isKind, Cond.static yX6_isKind, Cond.code yX6_isKind cX6_isKind 1 (some .boolean), Cond.methodLink RX6 53 yX6_isRoom, Cond.static yX6_isRoom, Cond.code yX6_isRoom cX6_isRoom 1 (some .boolean), Cond.constant RX6 56 (-1000000001), Cond.methodLink RX6 57 yX6_tell, Cond.instanceMethod yX6_tell, Cond.code yX6_tell cX6_tell 3 (some .int), Cond.methodLink RX6 61 yX1_hasPlaceForHandle, Cond.instanceMethod yX1_hasPlaceForHandle, Cond.selects RX1 yX1_hasPlaceForHandle yX1_hasPlaceForHandle, Cond.code yX1_hasPlaceForHandle cX1_hasPlaceForHandle 1 (some .boolean), Cond.constant RX6 65 (-1000000002), Cond.methodLink RX6 66 yX1_addHandle, Cond.instanceMethod yX1_addHandle, Cond.selects RX1 yX1_addHandle yX1_addHandle, Cond.code yX1_addHandle cX1_addHandle 6 (some .int), Cond.methodLink RL 18 yX6_of, Cond.instanceMethod yX6_of, Cond.selects RX6 yX6_of yX6_of, Cond.code yX6_of cX6_of 4 (some .int), Cond.methodLink RX6 70 yX1_hasHandle, Cond.instanceMethod yX1_hasHandle, Cond.selects RX1 yX1_hasHandle yX1_hasHandle, Cond.code yX1_hasHandle cX1_hasHandle 2 (some .boolean), Cond.methodLink RX6 101 yX0_isLate]
theorem wg_4 : ∀ w ∈ WD_4, goodWord w = true := by decide +kernel
set_option maxRecDepth 10000 in
theorem wm_4 : ∀ w ∈ WD_4, w ∈ lw_tbl := (List.forall_mem_cons.mpr ⟨tb_1 _ (List.mem_of_getElem? (i := 183) rfl), (List.forall_mem_cons.mpr ⟨tb_1 _ (List.mem_of_getElem? (i := 185) rfl), (List.forall_mem_cons.mpr ⟨tb_1 _ (List.mem_of_getElem? (i := 187) rfl), (List.forall_mem_cons.mpr ⟨tb_1 _ (List.mem_of_getElem? (i := 189) rfl), (List.forall_mem_cons.mpr ⟨tb_1 _ (List.mem_of_getElem? (i := 191) rfl), (List.forall_mem_cons.mpr ⟨tb_1 _ (List.mem_of_getElem? (i := 193) rfl), (List.forall_mem_cons.mpr ⟨tb_1 _ (List.mem_of_getElem? (i := 195) rfl), (List.forall_mem_cons.mpr ⟨tb_1 _ (List.mem_of_getElem? (i := 197) rfl), (List.forall_mem_cons.mpr ⟨tb_1 _ (List.mem_of_getElem? (i := 200) rfl), (List.forall_mem_cons.mpr ⟨tb_1 _ (List.mem_of_getElem? (i := 201) rfl), (List.forall_mem_cons.mpr ⟨tb_1 _ (List.mem_of_getElem? (i := 202) rfl), (List.forall_mem_cons.mpr ⟨tb_1 _ (List.mem_of_getElem? (i := 203) rfl), (List.forall_mem_cons.mpr ⟨tb_1 _ (List.mem_of_getElem? (i := 204) rfl), (List.forall_mem_cons.mpr ⟨tb_1 _ (List.mem_of_getElem? (i := 205) rfl), (List.forall_mem_cons.mpr ⟨tb_1 _ (List.mem_of_getElem? (i := 206) rfl), (List.forall_mem_cons.mpr ⟨tb_1 _ (List.mem_of_getElem? (i := 207) rfl), (List.forall_mem_cons.mpr ⟨tb_1 _ (List.mem_of_getElem? (i := 208) rfl), (List.forall_mem_cons.mpr ⟨tb_1 _ (List.mem_of_getElem? (i := 209) rfl), (List.forall_mem_cons.mpr ⟨tb_1 _ (List.mem_of_getElem? (i := 210) rfl), (List.forall_mem_cons.mpr ⟨tb_1 _ (List.mem_of_getElem? (i := 211) rfl), (List.forall_mem_cons.mpr ⟨tb_1 _ (List.mem_of_getElem? (i := 213) rfl), (List.forall_mem_cons.mpr ⟨tb_1 _ (List.mem_of_getElem? (i := 214) rfl), (List.forall_mem_cons.mpr ⟨tb_1 _ (List.mem_of_getElem? (i := 215) rfl), (List.forall_mem_cons.mpr ⟨tb_1 _ (List.mem_of_getElem? (i := 216) rfl), (List.forall_mem_cons.mpr ⟨tb_1 _ (List.mem_of_getElem? (i := 217) rfl), (List.forall_mem_cons.mpr ⟨tb_1 _ (List.mem_of_getElem? (i := 218) rfl), (List.forall_mem_cons.mpr ⟨tb_1 _ (List.mem_of_getElem? (i := 219) rfl), (List.forall_mem_cons.mpr ⟨tb_1 _ (List.mem_of_getElem? (i := 220) rfl), (List.forall_mem_cons.mpr ⟨tb_1 _ (List.mem_of_getElem? (i := 221) rfl), (List.forall_mem_cons.mpr ⟨tb_1 _ (List.mem_of_getElem? (i := 222) rfl), (List.forall_mem_cons.mpr ⟨tb_1 _ (List.mem_of_getElem? (i := 223) rfl), (List.forall_mem_cons.mpr ⟨tb_1 _ (List.mem_of_getElem? (i := 224) rfl), (List.forall_mem_cons.mpr ⟨tb_1 _ (List.mem_of_getElem? (i := 225) rfl), (List.forall_mem_cons.mpr ⟨tb_1 _ (List.mem_of_getElem? (i := 226) rfl), (List.forall_mem_cons.mpr ⟨tb_1 _ (List.mem_of_getElem? (i := 227) rfl), (List.forall_mem_cons.mpr ⟨tb_1 _ (List.mem_of_getElem? (i := 228) rfl), (List.forall_mem_cons.mpr ⟨tb_1 _ (List.mem_of_getElem? (i := 229) rfl), (List.forall_mem_cons.mpr ⟨tb_1 _ (List.mem_of_getElem? (i := 230) rfl), (List.forall_mem_cons.mpr ⟨tb_1 _ (List.mem_of_getElem? (i := 231) rfl), (List.forall_mem_cons.mpr ⟨tb_1 _ (List.mem_of_getElem? (i := 232) rfl), (fun _ q => by cases q)⟩)⟩)⟩)⟩)⟩)⟩)⟩)⟩)⟩)⟩)⟩)⟩)⟩)⟩)⟩)⟩)⟩)⟩)⟩)⟩)⟩)⟩)⟩)⟩)⟩)⟩)⟩)⟩)⟩)⟩)⟩)⟩)⟩)⟩)⟩)⟩)⟩)⟩)⟩)⟩)
theorem wd_4 : ∀ w ∈ WD_4, w ∈ lw_tbl ∧ goodWord w = true := fun w hw => ⟨wm_4 w hw, wg_4 w hw⟩
def WD_5 : List Cond := [Cond.instanceMethod yX0_isLate, Cond.selects RX0 yX0_isLate yX0_isLate, Cond.code yX0_isLate cX0_isLate 2 (some .boolean), Cond.methodLink RX6 104 yX0_end, Cond.instanceMethod yX0_end, Cond.selects RX0 yX0_end yX0_end, Cond.code yX0_end cX0_end 3 (some .int), Cond.methodLink RX0 30 yX0_isLate, Cond.methodLink RX6 110 yX0_wears, Cond.instanceMethod yX0_wears, Cond.selects RX0 yX0_wears yX0_wears, Cond.code yX0_wears cX0_wears 2 (some .int), Cond.methodLink RL 23 yX6_set, Cond.instanceMethod yX6_set, Cond.selects RX6 yX6_set yX6_set, Cond.code yX6_set cX6_set 6 (some .int), Cond.methodLink RX6 113 yX6_isUpTo, Cond.static yX6_isUpTo, Cond.code yX6_isUpTo cX6_isUpTo 2 (some .boolean), Cond.methodLink RL 27 yX6_turn, Cond.instanceMethod yX6_turn, Cond.selects RX6 yX6_turn yX6_turn, Cond.code yX6_turn cX6_turn 5 (some .int), Cond.methodLink RL 31 yX6_as, Cond.instanceMethod yX6_as, Cond.selects RX6 yX6_as yX6_as, Cond.code yX6_as cX6_as 4 (some .int), Cond.methodLink RX6 117 yX0_isOfKind, Cond.instanceMethod yX0_isOfKind, Cond.selects RX0 yX0_isOfKind yX0_isOfKind, Cond.code yX0_isOfKind cX0_isOfKind 2 (some .boolean), Cond.constant RX6 120 (-1000000003), Cond.methodLink RL 35 yX6_leads, Cond.instanceMethod yX6_leads, Cond.selects RX6 yX6_leads yX6_leads, Cond.code yX6_leads cX6_leads 3 (some .int), Cond.methodLink RX6 121 yX1_opensIn, Cond.instanceMethod yX1_opensIn, Cond.selects RX1 yX1_opensIn yX1_opensIn, Cond.code yX1_opensIn cX1_opensIn 3 (some .boolean)]
theorem wg_5 : ∀ w ∈ WD_5, goodWord w = true := by decide +kernel
set_option maxRecDepth 10000 in
theorem wm_5 : ∀ w ∈ WD_5, w ∈ lw_tbl := (List.forall_mem_cons.mpr ⟨tb_1 _ (List.mem_of_getElem? (i := 233) rfl), (List.forall_mem_cons.mpr ⟨tb_1 _ (List.mem_of_getElem? (i := 234) rfl), (List.forall_mem_cons.mpr ⟨tb_1 _ (List.mem_of_getElem? (i := 235) rfl), (List.forall_mem_cons.mpr ⟨tb_1 _ (List.mem_of_getElem? (i := 236) rfl), (List.forall_mem_cons.mpr ⟨tb_1 _ (List.mem_of_getElem? (i := 237) rfl), (List.forall_mem_cons.mpr ⟨tb_1 _ (List.mem_of_getElem? (i := 238) rfl), (List.forall_mem_cons.mpr ⟨tb_1 _ (List.mem_of_getElem? (i := 239) rfl), (List.forall_mem_cons.mpr ⟨tb_2 _ (List.mem_of_getElem? (i := 0) rfl), (List.forall_mem_cons.mpr ⟨tb_2 _ (List.mem_of_getElem? (i := 1) rfl), (List.forall_mem_cons.mpr ⟨tb_2 _ (List.mem_of_getElem? (i := 2) rfl), (List.forall_mem_cons.mpr ⟨tb_2 _ (List.mem_of_getElem? (i := 3) rfl), (List.forall_mem_cons.mpr ⟨tb_2 _ (List.mem_of_getElem? (i := 4) rfl), (List.forall_mem_cons.mpr ⟨tb_2 _ (List.mem_of_getElem? (i := 5) rfl), (List.forall_mem_cons.mpr ⟨tb_2 _ (List.mem_of_getElem? (i := 6) rfl), (List.forall_mem_cons.mpr ⟨tb_2 _ (List.mem_of_getElem? (i := 7) rfl), (List.forall_mem_cons.mpr ⟨tb_2 _ (List.mem_of_getElem? (i := 8) rfl), (List.forall_mem_cons.mpr ⟨tb_2 _ (List.mem_of_getElem? (i := 9) rfl), (List.forall_mem_cons.mpr ⟨tb_2 _ (List.mem_of_getElem? (i := 10) rfl), (List.forall_mem_cons.mpr ⟨tb_2 _ (List.mem_of_getElem? (i := 11) rfl), (List.forall_mem_cons.mpr ⟨tb_2 _ (List.mem_of_getElem? (i := 12) rfl), (List.forall_mem_cons.mpr ⟨tb_2 _ (List.mem_of_getElem? (i := 13) rfl), (List.forall_mem_cons.mpr ⟨tb_2 _ (List.mem_of_getElem? (i := 14) rfl), (List.forall_mem_cons.mpr ⟨tb_2 _ (List.mem_of_getElem? (i := 15) rfl), (List.forall_mem_cons.mpr ⟨tb_2 _ (List.mem_of_getElem? (i := 16) rfl), (List.forall_mem_cons.mpr ⟨tb_2 _ (List.mem_of_getElem? (i := 17) rfl), (List.forall_mem_cons.mpr ⟨tb_2 _ (List.mem_of_getElem? (i := 18) rfl), (List.forall_mem_cons.mpr ⟨tb_2 _ (List.mem_of_getElem? (i := 19) rfl), (List.forall_mem_cons.mpr ⟨tb_2 _ (List.mem_of_getElem? (i := 20) rfl), (List.forall_mem_cons.mpr ⟨tb_2 _ (List.mem_of_getElem? (i := 21) rfl), (List.forall_mem_cons.mpr ⟨tb_2 _ (List.mem_of_getElem? (i := 22) rfl), (List.forall_mem_cons.mpr ⟨tb_2 _ (List.mem_of_getElem? (i := 23) rfl), (List.forall_mem_cons.mpr ⟨tb_2 _ (List.mem_of_getElem? (i := 24) rfl), (List.forall_mem_cons.mpr ⟨tb_2 _ (List.mem_of_getElem? (i := 25) rfl), (List.forall_mem_cons.mpr ⟨tb_2 _ (List.mem_of_getElem? (i := 26) rfl), (List.forall_mem_cons.mpr ⟨tb_2 _ (List.mem_of_getElem? (i := 27) rfl), (List.forall_mem_cons.mpr ⟨tb_2 _ (List.mem_of_getElem? (i := 28) rfl), (List.forall_mem_cons.mpr ⟨tb_2 _ (List.mem_of_getElem? (i := 29) rfl), (List.forall_mem_cons.mpr ⟨tb_2 _ (List.mem_of_getElem? (i := 30) rfl), (List.forall_mem_cons.mpr ⟨tb_2 _ (List.mem_of_getElem? (i := 31) rfl), (List.forall_mem_cons.mpr ⟨tb_2 _ (List.mem_of_getElem? (i := 32) rfl), (fun _ q => by cases q)⟩)⟩)⟩)⟩)⟩)⟩)⟩)⟩)⟩)⟩)⟩)⟩)⟩)⟩)⟩)⟩)⟩)⟩)⟩)⟩)⟩)⟩)⟩)⟩)⟩)⟩)⟩)⟩)⟩)⟩)⟩)⟩)⟩)⟩)⟩)⟩)⟩)⟩)⟩)⟩)
theorem wd_5 : ∀ w ∈ WD_5, w ∈ lw_tbl ∧ goodWord w = true := fun w hw => ⟨wm_5 w hw, wg_5 w hw⟩
def WD_6 : List Cond := [Cond.methodLink RX1 69 yX0_opensIn, Cond.instanceMethod yX0_opensIn, Cond.selects RX0 yX0_opensIn yX0_opensIn, Cond.code yX0_opensIn cX0_opensIn 9 (some .boolean), Cond.methodLink RX0 34 yX0_end, Cond.methodLink RX0 38 yX0_isOpposite, Cond.instanceMethod yX0_isOpposite, Cond.code yX0_isOpposite cX0_isOpposite 2 (some .boolean), Cond.constant RX6 124 (-1000000004), Cond.methodLink RX6 125 yX1_ledTo, Cond.instanceMethod yX1_ledTo, Cond.selects RX1 yX1_ledTo yX1_ledTo, Cond.code yX1_ledTo cX1_ledTo 3 (some .int), Cond.methodLink RX1 73 yX0_ledTo, Cond.instanceMethod yX0_ledTo, Cond.selects RX0 yX0_ledTo yX0_ledTo, Cond.code yX0_ledTo cX0_ledTo 4 (some .int), Cond.methodLink RL 39 yX6_pair, Cond.instanceMethod yX6_pair, Cond.selects RX6 yX6_pair yX6_pair, Cond.code yX6_pair cX6_pair 3 (some .int), Cond.methodLink RX6 129 yX0_isPairOf, Cond.instanceMethod yX0_isPairOf, Cond.selects RX0 yX0_isPairOf yX0_isPairOf, Cond.code yX0_isPairOf cX0_isPairOf 2 (some .boolean), Cond.methodLink RL 43 yX6_member, Cond.instanceMethod yX6_member, Cond.selects RX6 yX6_member yX6_member, Cond.code yX6_member cX6_member 2 (some .int), Cond.methodLink RX6 133 yX1_hasPlaceForMember, Cond.instanceMethod yX1_hasPlaceForMember, Cond.selects RX1 yX1_hasPlaceForMember yX1_hasPlaceForMember, Cond.code yX1_hasPlaceForMember cX1_hasPlaceForMember 1 (some .boolean), Cond.methodLink RX6 136 yX1_addMember, Cond.instanceMethod yX1_addMember, Cond.selects RX1 yX1_addMember yX1_addMember, Cond.code yX1_addMember cX1_addMember 2 (some .int), Cond.methodLink RL 48 yX6_about, Cond.instanceMethod yX6_about, Cond.selects RX6 yX6_about yX6_about]
theorem wg_6 : ∀ w ∈ WD_6, goodWord w = true := by decide +kernel
set_option maxRecDepth 10000 in
theorem wm_6 : ∀ w ∈ WD_6, w ∈ lw_tbl := (List.forall_mem_cons.mpr ⟨tb_2 _ (List.mem_of_getElem? (i := 33) rfl), (List.forall_mem_cons.mpr ⟨tb_2 _ (List.mem_of_getElem? (i := 34) rfl), (List.forall_mem_cons.mpr ⟨tb_2 _ (List.mem_of_getElem? (i := 35) rfl), (List.forall_mem_cons.mpr ⟨tb_2 _ (List.mem_of_getElem? (i := 36) rfl), (List.forall_mem_cons.mpr ⟨tb_2 _ (List.mem_of_getElem? (i := 37) rfl), (List.forall_mem_cons.mpr ⟨tb_2 _ (List.mem_of_getElem? (i := 38) rfl), (List.forall_mem_cons.mpr ⟨tb_2 _ (List.mem_of_getElem? (i := 40) rfl), (List.forall_mem_cons.mpr ⟨tb_2 _ (List.mem_of_getElem? (i := 41) rfl), (List.forall_mem_cons.mpr ⟨tb_2 _ (List.mem_of_getElem? (i := 42) rfl), (List.forall_mem_cons.mpr ⟨tb_2 _ (List.mem_of_getElem? (i := 43) rfl), (List.forall_mem_cons.mpr ⟨tb_2 _ (List.mem_of_getElem? (i := 44) rfl), (List.forall_mem_cons.mpr ⟨tb_2 _ (List.mem_of_getElem? (i := 45) rfl), (List.forall_mem_cons.mpr ⟨tb_2 _ (List.mem_of_getElem? (i := 46) rfl), (List.forall_mem_cons.mpr ⟨tb_2 _ (List.mem_of_getElem? (i := 47) rfl), (List.forall_mem_cons.mpr ⟨tb_2 _ (List.mem_of_getElem? (i := 48) rfl), (List.forall_mem_cons.mpr ⟨tb_2 _ (List.mem_of_getElem? (i := 49) rfl), (List.forall_mem_cons.mpr ⟨tb_2 _ (List.mem_of_getElem? (i := 50) rfl), (List.forall_mem_cons.mpr ⟨tb_2 _ (List.mem_of_getElem? (i := 51) rfl), (List.forall_mem_cons.mpr ⟨tb_2 _ (List.mem_of_getElem? (i := 52) rfl), (List.forall_mem_cons.mpr ⟨tb_2 _ (List.mem_of_getElem? (i := 53) rfl), (List.forall_mem_cons.mpr ⟨tb_2 _ (List.mem_of_getElem? (i := 54) rfl), (List.forall_mem_cons.mpr ⟨tb_2 _ (List.mem_of_getElem? (i := 55) rfl), (List.forall_mem_cons.mpr ⟨tb_2 _ (List.mem_of_getElem? (i := 56) rfl), (List.forall_mem_cons.mpr ⟨tb_2 _ (List.mem_of_getElem? (i := 57) rfl), (List.forall_mem_cons.mpr ⟨tb_2 _ (List.mem_of_getElem? (i := 58) rfl), (List.forall_mem_cons.mpr ⟨tb_2 _ (List.mem_of_getElem? (i := 59) rfl), (List.forall_mem_cons.mpr ⟨tb_2 _ (List.mem_of_getElem? (i := 60) rfl), (List.forall_mem_cons.mpr ⟨tb_2 _ (List.mem_of_getElem? (i := 61) rfl), (List.forall_mem_cons.mpr ⟨tb_2 _ (List.mem_of_getElem? (i := 62) rfl), (List.forall_mem_cons.mpr ⟨tb_2 _ (List.mem_of_getElem? (i := 63) rfl), (List.forall_mem_cons.mpr ⟨tb_2 _ (List.mem_of_getElem? (i := 64) rfl), (List.forall_mem_cons.mpr ⟨tb_2 _ (List.mem_of_getElem? (i := 65) rfl), (List.forall_mem_cons.mpr ⟨tb_2 _ (List.mem_of_getElem? (i := 66) rfl), (List.forall_mem_cons.mpr ⟨tb_2 _ (List.mem_of_getElem? (i := 67) rfl), (List.forall_mem_cons.mpr ⟨tb_2 _ (List.mem_of_getElem? (i := 68) rfl), (List.forall_mem_cons.mpr ⟨tb_2 _ (List.mem_of_getElem? (i := 69) rfl), (List.forall_mem_cons.mpr ⟨tb_2 _ (List.mem_of_getElem? (i := 70) rfl), (List.forall_mem_cons.mpr ⟨tb_2 _ (List.mem_of_getElem? (i := 71) rfl), (List.forall_mem_cons.mpr ⟨tb_2 _ (List.mem_of_getElem? (i := 72) rfl), (List.forall_mem_cons.mpr ⟨tb_2 _ (List.mem_of_getElem? (i := 73) rfl), (fun _ q => by cases q)⟩)⟩)⟩)⟩)⟩)⟩)⟩)⟩)⟩)⟩)⟩)⟩)⟩)⟩)⟩)⟩)⟩)⟩)⟩)⟩)⟩)⟩)⟩)⟩)⟩)⟩)⟩)⟩)⟩)⟩)⟩)⟩)⟩)⟩)⟩)⟩)⟩)⟩)⟩)⟩)
theorem wd_6 : ∀ w ∈ WD_6, w ∈ lw_tbl ∧ goodWord w = true := fun w hw => ⟨wm_6 w hw, wg_6 w hw⟩
def WD_7 : List Cond := [Cond.code yX6_about cX6_about 3 (some .int), Cond.methodLink RX6 139 yX1_hasMember, Cond.instanceMethod yX1_hasMember, Cond.selects RX1 yX1_hasMember yX1_hasMember, Cond.code yX1_hasMember cX1_hasMember 2 (some .boolean), Cond.methodLink RX6 154 yX1_heldBy, Cond.instanceMethod yX1_heldBy, Cond.selects RX1 yX1_heldBy yX1_heldBy, Cond.code yX1_heldBy cX1_heldBy 4 (some .int), Cond.methodLink RX1 77 yX1_holds, Cond.instanceMethod yX1_holds, Cond.selects RX1 yX1_holds yX1_holds, Cond.code yX1_holds cX1_holds 3 (some .boolean), Cond.methodLink RX6 157 yX1_openTo, Cond.instanceMethod yX1_openTo, Cond.selects RX1 yX1_openTo yX1_openTo, Cond.code yX1_openTo cX1_openTo 4 (some .int), Cond.methodLink RX1 90 yX1_opensIn, Cond.methodLink RL 52 yX6_place, Cond.instanceMethod yX6_place, Cond.selects RX6 yX6_place yX6_place, Cond.code yX6_place cX6_place 6 (some .int), Cond.methodLink RL 56 yX6_loan, Cond.instanceMethod yX6_loan, Cond.selects RX6 yX6_loan yX6_loan, Cond.code yX6_loan cX6_loan 3 (some .int), Cond.methodLink RL 60 yX6_lend, Cond.instanceMethod yX6_lend, Cond.selects RX6 yX6_lend yX6_lend, Cond.code yX6_lend cX6_lend 3 (some .int), Cond.methodLink RX6 160 yX0_isLent, Cond.instanceMethod yX0_isLent, Cond.selects RX0 yX0_isLent yX0_isLent, Cond.code yX0_isLent cX0_isLent 1 (some .boolean), Cond.constant RX6 163 (-1000000005), Cond.methodLink RX6 164 yX1_hasHandsFull, Cond.instanceMethod yX1_hasHandsFull, Cond.selects RX1 yX1_hasHandsFull yX1_hasHandsFull, Cond.code yX1_hasHandsFull cX1_hasHandsFull 2 (some .boolean), Cond.methodLink RX1 104 yX1_heldCount]
theorem wg_7 : ∀ w ∈ WD_7, goodWord w = true := by decide +kernel
set_option maxRecDepth 10000 in
theorem wm_7 : ∀ w ∈ WD_7, w ∈ lw_tbl := (List.forall_mem_cons.mpr ⟨tb_2 _ (List.mem_of_getElem? (i := 74) rfl), (List.forall_mem_cons.mpr ⟨tb_2 _ (List.mem_of_getElem? (i := 75) rfl), (List.forall_mem_cons.mpr ⟨tb_2 _ (List.mem_of_getElem? (i := 76) rfl), (List.forall_mem_cons.mpr ⟨tb_2 _ (List.mem_of_getElem? (i := 77) rfl), (List.forall_mem_cons.mpr ⟨tb_2 _ (List.mem_of_getElem? (i := 78) rfl), (List.forall_mem_cons.mpr ⟨tb_2 _ (List.mem_of_getElem? (i := 79) rfl), (List.forall_mem_cons.mpr ⟨tb_2 _ (List.mem_of_getElem? (i := 80) rfl), (List.forall_mem_cons.mpr ⟨tb_2 _ (List.mem_of_getElem? (i := 81) rfl), (List.forall_mem_cons.mpr ⟨tb_2 _ (List.mem_of_getElem? (i := 82) rfl), (List.forall_mem_cons.mpr ⟨tb_2 _ (List.mem_of_getElem? (i := 83) rfl), (List.forall_mem_cons.mpr ⟨tb_2 _ (List.mem_of_getElem? (i := 84) rfl), (List.forall_mem_cons.mpr ⟨tb_2 _ (List.mem_of_getElem? (i := 85) rfl), (List.forall_mem_cons.mpr ⟨tb_2 _ (List.mem_of_getElem? (i := 86) rfl), (List.forall_mem_cons.mpr ⟨tb_2 _ (List.mem_of_getElem? (i := 87) rfl), (List.forall_mem_cons.mpr ⟨tb_2 _ (List.mem_of_getElem? (i := 88) rfl), (List.forall_mem_cons.mpr ⟨tb_2 _ (List.mem_of_getElem? (i := 89) rfl), (List.forall_mem_cons.mpr ⟨tb_2 _ (List.mem_of_getElem? (i := 90) rfl), (List.forall_mem_cons.mpr ⟨tb_2 _ (List.mem_of_getElem? (i := 91) rfl), (List.forall_mem_cons.mpr ⟨tb_2 _ (List.mem_of_getElem? (i := 92) rfl), (List.forall_mem_cons.mpr ⟨tb_2 _ (List.mem_of_getElem? (i := 93) rfl), (List.forall_mem_cons.mpr ⟨tb_2 _ (List.mem_of_getElem? (i := 94) rfl), (List.forall_mem_cons.mpr ⟨tb_2 _ (List.mem_of_getElem? (i := 95) rfl), (List.forall_mem_cons.mpr ⟨tb_2 _ (List.mem_of_getElem? (i := 96) rfl), (List.forall_mem_cons.mpr ⟨tb_2 _ (List.mem_of_getElem? (i := 97) rfl), (List.forall_mem_cons.mpr ⟨tb_2 _ (List.mem_of_getElem? (i := 98) rfl), (List.forall_mem_cons.mpr ⟨tb_2 _ (List.mem_of_getElem? (i := 99) rfl), (List.forall_mem_cons.mpr ⟨tb_2 _ (List.mem_of_getElem? (i := 100) rfl), (List.forall_mem_cons.mpr ⟨tb_2 _ (List.mem_of_getElem? (i := 101) rfl), (List.forall_mem_cons.mpr ⟨tb_2 _ (List.mem_of_getElem? (i := 102) rfl), (List.forall_mem_cons.mpr ⟨tb_2 _ (List.mem_of_getElem? (i := 103) rfl), (List.forall_mem_cons.mpr ⟨tb_2 _ (List.mem_of_getElem? (i := 104) rfl), (List.forall_mem_cons.mpr ⟨tb_2 _ (List.mem_of_getElem? (i := 105) rfl), (List.forall_mem_cons.mpr ⟨tb_2 _ (List.mem_of_getElem? (i := 106) rfl), (List.forall_mem_cons.mpr ⟨tb_2 _ (List.mem_of_getElem? (i := 107) rfl), (List.forall_mem_cons.mpr ⟨tb_2 _ (List.mem_of_getElem? (i := 108) rfl), (List.forall_mem_cons.mpr ⟨tb_2 _ (List.mem_of_getElem? (i := 109) rfl), (List.forall_mem_cons.mpr ⟨tb_2 _ (List.mem_of_getElem? (i := 110) rfl), (List.forall_mem_cons.mpr ⟨tb_2 _ (List.mem_of_getElem? (i := 111) rfl), (List.forall_mem_cons.mpr ⟨tb_2 _ (List.mem_of_getElem? (i := 112) rfl), (List.forall_mem_cons.mpr ⟨tb_2 _ (List.mem_of_getElem? (i := 113) rfl), (fun _ q => by cases q)⟩)⟩)⟩)⟩)⟩)⟩)⟩)⟩)⟩)⟩)⟩)⟩)⟩)⟩)⟩)⟩)⟩)⟩)⟩)⟩)⟩)⟩)⟩)⟩)⟩)⟩)⟩)⟩)⟩)⟩)⟩)⟩)⟩)⟩)⟩)⟩)⟩)⟩)⟩)⟩)
theorem wd_7 : ∀ w ∈ WD_7, w ∈ lw_tbl ∧ goodWord w = true := fun w hw => ⟨wm_7 w hw, wg_7 w hw⟩
def WD_8 : List Cond := [Cond.instanceMethod yX1_heldCount, Cond.selects RX1 yX1_heldCount yX1_heldCount, Cond.code yX1_heldCount cX1_heldCount 2 (some .int), Cond.methodLink RX1 81 yX1_heldBy, Cond.methodLink RX1 85 yJ6_bitCount_0f7a4, Cond.static yJ6_bitCount_0f7a4, Cond.code yJ6_bitCount_0f7a4 cJ6_bitCount_0f7a4 1 (some .int), Cond.constant RJ6 265 1431655765, Cond.constant RJ6 266 858993459, Cond.constant RJ6 267 252645135, Cond.methodLink RX6 167 yX1_holdsPairOf, Cond.instanceMethod yX1_holdsPairOf, Cond.selects RX1 yX1_holdsPairOf yX1_holdsPairOf, Cond.code yX1_holdsPairOf cX1_holdsPairOf 4 (some .boolean), Cond.methodLink RX1 100 yX0_isPairOf, Cond.methodLink RX6 170 yX1_heldCount, Cond.methodLink RL 64 yX6_back, Cond.instanceMethod yX6_back, Cond.selects RX6 yX6_back yX6_back, Cond.code yX6_back cX6_back 4 (some .int), Cond.methodLink RL 68 yX6_use, Cond.instanceMethod yX6_use, Cond.selects RX6 yX6_use yX6_use, Cond.code yX6_use cX6_use 4 (some .int), Cond.methodLink RX6 173 yX1_holds, Cond.methodLink RX6 176 yX0_wearOnce, Cond.instanceMethod yX0_wearOnce, Cond.selects RX0 yX0_wearOnce yX0_wearOnce, Cond.code yX0_wearOnce cX0_wearOnce 2 none, Cond.methodLink RX0 41 yX0_wears, Cond.methodLink RX0 44 Lib.Math.min.name, Cond.static Lib.Math.min.name, Cond.code Lib.Math.min.name Lib.Math.min.code 2 (some .int), Cond.methodLink RL 72 yX6_days, Cond.instanceMethod yX6_days, Cond.selects RX6 yX6_days yX6_days, Cond.code yX6_days cX6_days 2 (some .int), Cond.methodLink RX6 180 yX1_goOn, Cond.instanceMethod yX1_goOn, Cond.selects RX1 yX1_goOn yX1_goOn]
theorem wg_8 : ∀ w ∈ WD_8, goodWord w = true := by decide +kernel
set_option maxRecDepth 10000 in
theorem wm_8 : ∀ w ∈ WD_8, w ∈ lw_tbl := (List.forall_mem_cons.mpr ⟨tb_2 _ (List.mem_of_getElem? (i := 114) rfl), (List.forall_mem_cons.mpr ⟨tb_2 _ (List.mem_of_getElem? (i := 115) rfl), (List.forall_mem_cons.mpr ⟨tb_2 _ (List.mem_of_getElem? (i := 116) rfl), (List.forall_mem_cons.mpr ⟨tb_2 _ (List.mem_of_getElem? (i := 117) rfl), (List.forall_mem_cons.mpr ⟨tb_2 _ (List.mem_of_getElem? (i := 118) rfl), (List.forall_mem_cons.mpr ⟨tb_2 _ (List.mem_of_getElem? (i := 119) rfl), (List.forall_mem_cons.mpr ⟨tb_2 _ (List.mem_of_getElem? (i := 120) rfl), (List.forall_mem_cons.mpr ⟨tb_2 _ (List.mem_of_getElem? (i := 121) rfl), (List.forall_mem_cons.mpr ⟨tb_2 _ (List.mem_of_getElem? (i := 122) rfl), (List.forall_mem_cons.mpr ⟨tb_2 _ (List.mem_of_getElem? (i := 123) rfl), (List.forall_mem_cons.mpr ⟨tb_2 _ (List.mem_of_getElem? (i := 124) rfl), (List.forall_mem_cons.mpr ⟨tb_2 _ (List.mem_of_getElem? (i := 125) rfl), (List.forall_mem_cons.mpr ⟨tb_2 _ (List.mem_of_getElem? (i := 126) rfl), (List.forall_mem_cons.mpr ⟨tb_2 _ (List.mem_of_getElem? (i := 127) rfl), (List.forall_mem_cons.mpr ⟨tb_2 _ (List.mem_of_getElem? (i := 128) rfl), (List.forall_mem_cons.mpr ⟨tb_2 _ (List.mem_of_getElem? (i := 129) rfl), (List.forall_mem_cons.mpr ⟨tb_2 _ (List.mem_of_getElem? (i := 130) rfl), (List.forall_mem_cons.mpr ⟨tb_2 _ (List.mem_of_getElem? (i := 131) rfl), (List.forall_mem_cons.mpr ⟨tb_2 _ (List.mem_of_getElem? (i := 132) rfl), (List.forall_mem_cons.mpr ⟨tb_2 _ (List.mem_of_getElem? (i := 133) rfl), (List.forall_mem_cons.mpr ⟨tb_2 _ (List.mem_of_getElem? (i := 134) rfl), (List.forall_mem_cons.mpr ⟨tb_2 _ (List.mem_of_getElem? (i := 135) rfl), (List.forall_mem_cons.mpr ⟨tb_2 _ (List.mem_of_getElem? (i := 136) rfl), (List.forall_mem_cons.mpr ⟨tb_2 _ (List.mem_of_getElem? (i := 137) rfl), (List.forall_mem_cons.mpr ⟨tb_2 _ (List.mem_of_getElem? (i := 138) rfl), (List.forall_mem_cons.mpr ⟨tb_2 _ (List.mem_of_getElem? (i := 139) rfl), (List.forall_mem_cons.mpr ⟨tb_2 _ (List.mem_of_getElem? (i := 140) rfl), (List.forall_mem_cons.mpr ⟨tb_2 _ (List.mem_of_getElem? (i := 141) rfl), (List.forall_mem_cons.mpr ⟨tb_2 _ (List.mem_of_getElem? (i := 142) rfl), (List.forall_mem_cons.mpr ⟨tb_2 _ (List.mem_of_getElem? (i := 143) rfl), (List.forall_mem_cons.mpr ⟨tb_2 _ (List.mem_of_getElem? (i := 144) rfl), (List.forall_mem_cons.mpr ⟨tb_2 _ (List.mem_of_getElem? (i := 145) rfl), (List.forall_mem_cons.mpr ⟨tb_2 _ (List.mem_of_getElem? (i := 146) rfl), (List.forall_mem_cons.mpr ⟨tb_2 _ (List.mem_of_getElem? (i := 147) rfl), (List.forall_mem_cons.mpr ⟨tb_2 _ (List.mem_of_getElem? (i := 148) rfl), (List.forall_mem_cons.mpr ⟨tb_2 _ (List.mem_of_getElem? (i := 149) rfl), (List.forall_mem_cons.mpr ⟨tb_2 _ (List.mem_of_getElem? (i := 150) rfl), (List.forall_mem_cons.mpr ⟨tb_2 _ (List.mem_of_getElem? (i := 151) rfl), (List.forall_mem_cons.mpr ⟨tb_2 _ (List.mem_of_getElem? (i := 152) rfl), (List.forall_mem_cons.mpr ⟨tb_2 _ (List.mem_of_getElem? (i := 153) rfl), (fun _ q => by cases q)⟩)⟩)⟩)⟩)⟩)⟩)⟩)⟩)⟩)⟩)⟩)⟩)⟩)⟩)⟩)⟩)⟩)⟩)⟩)⟩)⟩)⟩)⟩)⟩)⟩)⟩)⟩)⟩)⟩)⟩)⟩)⟩)⟩)⟩)⟩)⟩)⟩)⟩)⟩)⟩)
theorem wd_8 : ∀ w ∈ WD_8, w ∈ lw_tbl ∧ goodWord w = true := fun w hw => ⟨wm_8 w hw, wg_8 w hw⟩
def WD_9 : List Cond := [Cond.code yX1_goOn cX1_goOn 3 none, Cond.methodLink RX1 113 yX1_finesAhead, Cond.instanceMethod yX1_finesAhead, Cond.selects RX1 yX1_finesAhead yX1_finesAhead, Cond.code yX1_finesAhead cX1_finesAhead 6 (some .int), Cond.methodLink RX1 117 Lib.Math.min.name, Cond.methodLink RX1 122 Lib.Math.max.name, Cond.static Lib.Math.max.name, Cond.code Lib.Math.max.name Lib.Math.max.code 2 (some .int), Cond.methodLink RX1 92 yX0_isLent, Cond.methodLink RX6 183 yX1_allFines, Cond.instanceMethod yX1_allFines, Cond.selects RX1 yX1_allFines yX1_allFines, Cond.code yX1_allFines cX1_allFines 3 (some .int), Cond.methodLink RL 76 yX6_now, Cond.instanceMethod yX6_now, Cond.selects RX6 yX6_now yX6_now, Cond.code yX6_now cX6_now 2 (some .int), Cond.methodLink RX6 187 yX1_allLent, Cond.instanceMethod yX1_allLent, Cond.selects RX1 yX1_allLent yX1_allLent, Cond.code yX1_allLent cX1_allLent 3 (some .int), Cond.methodLink RX6 190 yX1_allLate, Cond.instanceMethod yX1_allLate, Cond.selects RX1 yX1_allLate yX1_allLate, Cond.code yX1_allLate cX1_allLate 3 (some .int), Cond.methodLink RX1 96 yX0_isLate, Cond.methodLink RX6 193 yX1_allWear, Cond.instanceMethod yX1_allWear, Cond.selects RX1 yX1_allWear yX1_allWear, Cond.code yX1_allWear cX1_allWear 3 (some .int), Cond.methodLink RL 80 yX6_on, Cond.instanceMethod yX6_on, Cond.selects RX6 yX6_on yX6_on, Cond.code yX6_on cX6_on 4 (some .int), Cond.methodLink RX6 196 yX1_finesAhead, Cond.methodLink RX6 200 yX1_becomes, Cond.instanceMethod yX1_becomes, Cond.selects RX1 yX1_becomes yX1_becomes, Cond.code yX1_becomes cX1_becomes 3 none]
theorem wg_9 : ∀ w ∈ WD_9, goodWord w = true := by decide +kernel
set_option maxRecDepth 10000 in
theorem wm_9 : ∀ w ∈ WD_9, w ∈ lw_tbl := (List.forall_mem_cons.mpr ⟨tb_2 _ (List.mem_of_getElem? (i := 154) rfl), (List.forall_mem_cons.mpr ⟨tb_2 _ (List.mem_of_getElem? (i := 155) rfl), (List.forall_mem_cons.mpr ⟨tb_2 _ (List.mem_of_getElem? (i := 156) rfl), (List.forall_mem_cons.mpr ⟨tb_2 _ (List.mem_of_getElem? (i := 157) rfl), (List.forall_mem_cons.mpr ⟨tb_2 _ (List.mem_of_getElem? (i := 158) rfl), (List.forall_mem_cons.mpr ⟨tb_2 _ (List.mem_of_getElem? (i := 159) rfl), (List.forall_mem_cons.mpr ⟨tb_2 _ (List.mem_of_getElem? (i := 160) rfl), (List.forall_mem_cons.mpr ⟨tb_2 _ (List.mem_of_getElem? (i := 161) rfl), (List.forall_mem_cons.mpr ⟨tb_2 _ (List.mem_of_getElem? (i := 162) rfl), (List.forall_mem_cons.mpr ⟨tb_2 _ (List.mem_of_getElem? (i := 163) rfl), (List.forall_mem_cons.mpr ⟨tb_2 _ (List.mem_of_getElem? (i := 164) rfl), (List.forall_mem_cons.mpr ⟨tb_2 _ (List.mem_of_getElem? (i := 165) rfl), (List.forall_mem_cons.mpr ⟨tb_2 _ (List.mem_of_getElem? (i := 166) rfl), (List.forall_mem_cons.mpr ⟨tb_2 _ (List.mem_of_getElem? (i := 167) rfl), (List.forall_mem_cons.mpr ⟨tb_2 _ (List.mem_of_getElem? (i := 168) rfl), (List.forall_mem_cons.mpr ⟨tb_2 _ (List.mem_of_getElem? (i := 169) rfl), (List.forall_mem_cons.mpr ⟨tb_2 _ (List.mem_of_getElem? (i := 170) rfl), (List.forall_mem_cons.mpr ⟨tb_2 _ (List.mem_of_getElem? (i := 171) rfl), (List.forall_mem_cons.mpr ⟨tb_2 _ (List.mem_of_getElem? (i := 172) rfl), (List.forall_mem_cons.mpr ⟨tb_2 _ (List.mem_of_getElem? (i := 173) rfl), (List.forall_mem_cons.mpr ⟨tb_2 _ (List.mem_of_getElem? (i := 174) rfl), (List.forall_mem_cons.mpr ⟨tb_2 _ (List.mem_of_getElem? (i := 175) rfl), (List.forall_mem_cons.mpr ⟨tb_2 _ (List.mem_of_getElem? (i := 176) rfl), (List.forall_mem_cons.mpr ⟨tb_2 _ (List.mem_of_getElem? (i := 177) rfl), (List.forall_mem_cons.mpr ⟨tb_2 _ (List.mem_of_getElem? (i := 178) rfl), (List.forall_mem_cons.mpr ⟨tb_2 _ (List.mem_of_getElem? (i := 179) rfl), (List.forall_mem_cons.mpr ⟨tb_2 _ (List.mem_of_getElem? (i := 180) rfl), (List.forall_mem_cons.mpr ⟨tb_2 _ (List.mem_of_getElem? (i := 181) rfl), (List.forall_mem_cons.mpr ⟨tb_2 _ (List.mem_of_getElem? (i := 182) rfl), (List.forall_mem_cons.mpr ⟨tb_2 _ (List.mem_of_getElem? (i := 183) rfl), (List.forall_mem_cons.mpr ⟨tb_2 _ (List.mem_of_getElem? (i := 184) rfl), (List.forall_mem_cons.mpr ⟨tb_2 _ (List.mem_of_getElem? (i := 185) rfl), (List.forall_mem_cons.mpr ⟨tb_2 _ (List.mem_of_getElem? (i := 186) rfl), (List.forall_mem_cons.mpr ⟨tb_2 _ (List.mem_of_getElem? (i := 187) rfl), (List.forall_mem_cons.mpr ⟨tb_2 _ (List.mem_of_getElem? (i := 188) rfl), (List.forall_mem_cons.mpr ⟨tb_2 _ (List.mem_of_getElem? (i := 189) rfl), (List.forall_mem_cons.mpr ⟨tb_2 _ (List.mem_of_getElem? (i := 190) rfl), (List.forall_mem_cons.mpr ⟨tb_2 _ (List.mem_of_getElem? (i := 191) rfl), (List.forall_mem_cons.mpr ⟨tb_2 _ (List.mem_of_getElem? (i := 192) rfl), (List.forall_mem_cons.mpr ⟨tb_2 _ (List.mem_of_getElem? (i := 193) rfl), (fun _ q => by cases q)⟩)⟩)⟩)⟩)⟩)⟩)⟩)⟩)⟩)⟩)⟩)⟩)⟩)⟩)⟩)⟩)⟩)⟩)⟩)⟩)⟩)⟩)⟩)⟩)⟩)⟩)⟩)⟩)⟩)⟩)⟩)⟩)⟩)⟩)⟩)⟩)⟩)⟩)⟩)⟩)
theorem wd_9 : ∀ w ∈ WD_9, w ∈ lw_tbl ∧ goodWord w = true := fun w hw => ⟨wm_9 w hw, wg_9 w hw⟩
def WD_10 : List Cond := [Cond.methodLink RX1 35 yX0_becomes, Cond.instanceMethod yX0_becomes, Cond.selects RX0 yX0_becomes yX0_becomes, Cond.code yX0_becomes cX0_becomes 2 none, Cond.methodLink RX1 42 yX2_becomes, Cond.instanceMethod yX2_becomes, Cond.selects RX2 yX2_becomes yX2_becomes, Cond.code yX2_becomes cX2_becomes 2 none, Cond.methodLink RX6 204 yX1_reachOf, Cond.instanceMethod yX1_reachOf, Cond.selects RX1 yX1_reachOf yX1_reachOf, Cond.code yX1_reachOf cX1_reachOf 5 (some .int), Cond.methodLink RX1 125 yX1_oneTurnFrom, Cond.instanceMethod yX1_oneTurnFrom, Cond.selects RX1 yX1_oneTurnFrom yX1_oneTurnFrom, Cond.code yX1_oneTurnFrom cX1_oneTurnFrom 7 (some .int), Cond.methodLink RL 84 yX6_late, Cond.instanceMethod yX6_late, Cond.selects RX6 yX6_late yX6_late, Cond.code yX6_late cX6_late 4 (some .int), Cond.methodLink RX6 207 Lib.Math.max.name, Cond.methodLink RL 88 yX6_reach, Cond.instanceMethod yX6_reach, Cond.selects RX6 yX6_reach yX6_reach, Cond.code yX6_reach cX6_reach 2 (some .int), Cond.methodLink RL 92 yX6_way, Cond.instanceMethod yX6_way, Cond.selects RX6 yX6_way yX6_way, Cond.code yX6_way cX6_way 4 (some .int), Cond.methodLink RX6 212 yX1_turnsTo, Cond.instanceMethod yX1_turnsTo, Cond.selects RX1 yX1_turnsTo yX1_turnsTo, Cond.code yX1_turnsTo cX1_turnsTo 7 (some .int), Cond.methodLink RL 96 yX6_next, Cond.instanceMethod yX6_next, Cond.selects RX6 yX6_next yX6_next, Cond.code yX6_next cX6_next 4 (some .int), Cond.methodLink RX6 215 yX1_firstOnWay, Cond.instanceMethod yX1_firstOnWay, Cond.selects RX1 yX1_firstOnWay yX1_firstOnWay]
theorem wg_10 : ∀ w ∈ WD_10, goodWord w = true := by decide +kernel
set_option maxRecDepth 10000 in
theorem wm_10 : ∀ w ∈ WD_10, w ∈ lw_tbl := (List.forall_mem_cons.mpr ⟨tb_2 _ (List.mem_of_getElem? (i := 194) rfl), (List.forall_mem_cons.mpr ⟨tb_2 _ (List.mem_of_getElem? (i := 195) rfl), (List.forall_mem_cons.mpr ⟨tb_2 _ (List.mem_of_getElem? (i := 196) rfl), (List.forall_mem_cons.mpr ⟨tb_2 _ (List.mem_of_getElem? (i := 197) rfl), (List.forall_mem_cons.mpr ⟨tb_2 _ (List.mem_of_getElem? (i := 198) rfl), (List.forall_mem_cons.mpr ⟨tb_2 _ (List.mem_of_getElem? (i := 199) rfl), (List.forall_mem_cons.mpr ⟨tb_2 _ (List.mem_of_getElem? (i := 200) rfl), (List.forall_mem_cons.mpr ⟨tb_2 _ (List.mem_of_getElem? (i := 201) rfl), (List.forall_mem_cons.mpr ⟨tb_2 _ (List.mem_of_getElem? (i := 202) rfl), (List.forall_mem_cons.mpr ⟨tb_2 _ (List.mem_of_getElem? (i := 203) rfl), (List.forall_mem_cons.mpr ⟨tb_2 _ (List.mem_of_getElem? (i := 204) rfl), (List.forall_mem_cons.mpr ⟨tb_2 _ (List.mem_of_getElem? (i := 205) rfl), (List.forall_mem_cons.mpr ⟨tb_2 _ (List.mem_of_getElem? (i := 206) rfl), (List.forall_mem_cons.mpr ⟨tb_2 _ (List.mem_of_getElem? (i := 207) rfl), (List.forall_mem_cons.mpr ⟨tb_2 _ (List.mem_of_getElem? (i := 208) rfl), (List.forall_mem_cons.mpr ⟨tb_2 _ (List.mem_of_getElem? (i := 209) rfl), (List.forall_mem_cons.mpr ⟨tb_2 _ (List.mem_of_getElem? (i := 210) rfl), (List.forall_mem_cons.mpr ⟨tb_2 _ (List.mem_of_getElem? (i := 211) rfl), (List.forall_mem_cons.mpr ⟨tb_2 _ (List.mem_of_getElem? (i := 212) rfl), (List.forall_mem_cons.mpr ⟨tb_2 _ (List.mem_of_getElem? (i := 213) rfl), (List.forall_mem_cons.mpr ⟨tb_2 _ (List.mem_of_getElem? (i := 214) rfl), (List.forall_mem_cons.mpr ⟨tb_2 _ (List.mem_of_getElem? (i := 215) rfl), (List.forall_mem_cons.mpr ⟨tb_2 _ (List.mem_of_getElem? (i := 216) rfl), (List.forall_mem_cons.mpr ⟨tb_2 _ (List.mem_of_getElem? (i := 217) rfl), (List.forall_mem_cons.mpr ⟨tb_2 _ (List.mem_of_getElem? (i := 218) rfl), (List.forall_mem_cons.mpr ⟨tb_2 _ (List.mem_of_getElem? (i := 219) rfl), (List.forall_mem_cons.mpr ⟨tb_2 _ (List.mem_of_getElem? (i := 220) rfl), (List.forall_mem_cons.mpr ⟨tb_2 _ (List.mem_of_getElem? (i := 221) rfl), (List.forall_mem_cons.mpr ⟨tb_2 _ (List.mem_of_getElem? (i := 222) rfl), (List.forall_mem_cons.mpr ⟨tb_2 _ (List.mem_of_getElem? (i := 223) rfl), (List.forall_mem_cons.mpr ⟨tb_2 _ (List.mem_of_getElem? (i := 224) rfl), (List.forall_mem_cons.mpr ⟨tb_2 _ (List.mem_of_getElem? (i := 225) rfl), (List.forall_mem_cons.mpr ⟨tb_2 _ (List.mem_of_getElem? (i := 226) rfl), (List.forall_mem_cons.mpr ⟨tb_2 _ (List.mem_of_getElem? (i := 227) rfl), (List.forall_mem_cons.mpr ⟨tb_2 _ (List.mem_of_getElem? (i := 228) rfl), (List.forall_mem_cons.mpr ⟨tb_2 _ (List.mem_of_getElem? (i := 229) rfl), (List.forall_mem_cons.mpr ⟨tb_2 _ (List.mem_of_getElem? (i := 230) rfl), (List.forall_mem_cons.mpr ⟨tb_2 _ (List.mem_of_getElem? (i := 231) rfl), (List.forall_mem_cons.mpr ⟨tb_2 _ (List.mem_of_getElem? (i := 232) rfl), (List.forall_mem_cons.mpr ⟨tb_2 _ (List.mem_of_getElem? (i := 233) rfl), (fun _ q => by cases q)⟩)⟩)⟩)⟩)⟩)⟩)⟩)⟩)⟩)⟩)⟩)⟩)⟩)⟩)⟩)⟩)⟩)⟩)⟩)⟩)⟩)⟩)⟩)⟩)⟩)⟩)⟩)⟩)⟩)⟩)⟩)⟩)⟩)⟩)⟩)⟩)⟩)⟩)⟩)⟩)
theorem wd_10 : ∀ w ∈ WD_10, w ∈ lw_tbl ∧ goodWord w = true := fun w hw => ⟨wm_10 w hw, wg_10 w hw⟩
def WD_11 : List Cond := [Cond.code yX1_firstOnWay cX1_firstOnWay 6 (some .int), Cond.methodLink RX1 131 yX1_turnsTo, Cond.methodLink RX1 134 yX1_ledTo, Cond.methodLink RL 100 yX6_wanted, Cond.instanceMethod yX6_wanted, Cond.selects RX6 yX6_wanted yX6_wanted, Cond.code yX6_wanted cX6_wanted 4 (some .int), Cond.methodLink RX6 218 yX1_canCome, Cond.instanceMethod yX1_canCome, Cond.selects RX1 yX1_canCome yX1_canCome, Cond.code yX1_canCome cX1_canCome 3 (some .boolean), Cond.methodLink RX1 128 yX1_reachOf, Cond.methodLink RX6 221 yX1_firstWanted, Cond.instanceMethod yX1_firstWanted, Cond.selects RX1 yX1_firstWanted yX1_firstWanted, Cond.code yX1_firstWanted cX1_firstWanted 6 (some .int), Cond.methodLink RX1 135 yX1_mayLend, Cond.instanceMethod yX1_mayLend, Cond.selects RX1 yX1_mayLend yX1_mayLend, Cond.code yX1_mayLend cX1_mayLend 3 (some .boolean), Cond.methodLink RX1 107 yX1_hasHandsFull, Cond.methodLink RX1 110 yX1_holdsPairOf, Cond.methodLink RL 104 yX6_two, Cond.instanceMethod yX6_two, Cond.selects RX6 yX6_two yX6_two, Cond.code yX6_two cX6_two 5 (some .int), Cond.methodLink RX6 227 yX1_mayLend, Cond.methodLink RL 108 yX6_meet, Cond.instanceMethod yX6_meet, Cond.selects RX6 yX6_meet yX6_meet, Cond.code yX6_meet cX6_meet 4 (some .int), Cond.methodLink RL 112 yX6_kind, Cond.instanceMethod yX6_kind, Cond.selects RX6 yX6_kind yX6_kind, Cond.code yX6_kind cX6_kind 7 (some .int), Cond.methodLink RX6 230 yJ6_bitCount_0f7a4, Cond.methodLink RL 116 yX6_least, Cond.instanceMethod yX6_least, Cond.selects RX6 yX6_least yX6_least, Cond.code yX6_least cX6_least 5 (some .int)]
theorem wg_11 : ∀ w ∈ WD_11, goodWord w = true := by decide +kernel
set_option maxRecDepth 10000 in
theorem wm_11 : ∀ w ∈ WD_11, w ∈ lw_tbl := (List.forall_mem_cons.mpr ⟨tb_2 _ (List.mem_of_getElem? (i := 234) rfl), (List.forall_mem_cons.mpr ⟨tb_2 _ (List.mem_of_getElem? (i := 235) rfl), (List.forall_mem_cons.mpr ⟨tb_2 _ (List.mem_of_getElem? (i := 236) rfl), (List.forall_mem_cons.mpr ⟨tb_2 _ (List.mem_of_getElem? (i := 237) rfl), (List.forall_mem_cons.mpr ⟨tb_2 _ (List.mem_of_getElem? (i := 238) rfl), (List.forall_mem_cons.mpr ⟨tb_2 _ (List.mem_of_getElem? (i := 239) rfl), (List.forall_mem_cons.mpr ⟨tb_3 _ (List.mem_of_getElem? (i := 0) rfl), (List.forall_mem_cons.mpr ⟨tb_3 _ (List.mem_of_getElem? (i := 1) rfl), (List.forall_mem_cons.mpr ⟨tb_3 _ (List.mem_of_getElem? (i := 2) rfl), (List.forall_mem_cons.mpr ⟨tb_3 _ (List.mem_of_getElem? (i := 3) rfl), (List.forall_mem_cons.mpr ⟨tb_3 _ (List.mem_of_getElem? (i := 4) rfl), (List.forall_mem_cons.mpr ⟨tb_3 _ (List.mem_of_getElem? (i := 5) rfl), (List.forall_mem_cons.mpr ⟨tb_3 _ (List.mem_of_getElem? (i := 6) rfl), (List.forall_mem_cons.mpr ⟨tb_3 _ (List.mem_of_getElem? (i := 7) rfl), (List.forall_mem_cons.mpr ⟨tb_3 _ (List.mem_of_getElem? (i := 8) rfl), (List.forall_mem_cons.mpr ⟨tb_3 _ (List.mem_of_getElem? (i := 9) rfl), (List.forall_mem_cons.mpr ⟨tb_3 _ (List.mem_of_getElem? (i := 10) rfl), (List.forall_mem_cons.mpr ⟨tb_3 _ (List.mem_of_getElem? (i := 11) rfl), (List.forall_mem_cons.mpr ⟨tb_3 _ (List.mem_of_getElem? (i := 12) rfl), (List.forall_mem_cons.mpr ⟨tb_3 _ (List.mem_of_getElem? (i := 13) rfl), (List.forall_mem_cons.mpr ⟨tb_3 _ (List.mem_of_getElem? (i := 14) rfl), (List.forall_mem_cons.mpr ⟨tb_3 _ (List.mem_of_getElem? (i := 15) rfl), (List.forall_mem_cons.mpr ⟨tb_3 _ (List.mem_of_getElem? (i := 16) rfl), (List.forall_mem_cons.mpr ⟨tb_3 _ (List.mem_of_getElem? (i := 17) rfl), (List.forall_mem_cons.mpr ⟨tb_3 _ (List.mem_of_getElem? (i := 18) rfl), (List.forall_mem_cons.mpr ⟨tb_3 _ (List.mem_of_getElem? (i := 19) rfl), (List.forall_mem_cons.mpr ⟨tb_3 _ (List.mem_of_getElem? (i := 20) rfl), (List.forall_mem_cons.mpr ⟨tb_3 _ (List.mem_of_getElem? (i := 21) rfl), (List.forall_mem_cons.mpr ⟨tb_3 _ (List.mem_of_getElem? (i := 22) rfl), (List.forall_mem_cons.mpr ⟨tb_3 _ (List.mem_of_getElem? (i := 23) rfl), (List.forall_mem_cons.mpr ⟨tb_3 _ (List.mem_of_getElem? (i := 24) rfl), (List.forall_mem_cons.mpr ⟨tb_3 _ (List.mem_of_getElem? (i := 25) rfl), (List.forall_mem_cons.mpr ⟨tb_3 _ (List.mem_of_getElem? (i := 26) rfl), (List.forall_mem_cons.mpr ⟨tb_3 _ (List.mem_of_getElem? (i := 27) rfl), (List.forall_mem_cons.mpr ⟨tb_3 _ (List.mem_of_getElem? (i := 28) rfl), (List.forall_mem_cons.mpr ⟨tb_3 _ (List.mem_of_getElem? (i := 29) rfl), (List.forall_mem_cons.mpr ⟨tb_3 _ (List.mem_of_getElem? (i := 30) rfl), (List.forall_mem_cons.mpr ⟨tb_3 _ (List.mem_of_getElem? (i := 31) rfl), (List.forall_mem_cons.mpr ⟨tb_3 _ (List.mem_of_getElem? (i := 32) rfl), (List.forall_mem_cons.mpr ⟨tb_3 _ (List.mem_of_getElem? (i := 33) rfl), (fun _ q => by cases q)⟩)⟩)⟩)⟩)⟩)⟩)⟩)⟩)⟩)⟩)⟩)⟩)⟩)⟩)⟩)⟩)⟩)⟩)⟩)⟩)⟩)⟩)⟩)⟩)⟩)⟩)⟩)⟩)⟩)⟩)⟩)⟩)⟩)⟩)⟩)⟩)⟩)⟩)⟩)⟩)
theorem wd_11 : ∀ w ∈ WD_11, w ∈ lw_tbl ∧ goodWord w = true := fun w hw => ⟨wm_11 w hw, wg_11 w hw⟩
def WD_12 : List Cond := [Cond.methodLink RL 120 yX6_uses, Cond.instanceMethod yX6_uses, Cond.selects RX6 yX6_uses yX6_uses, Cond.code yX6_uses cX6_uses 5 (some .int), Cond.methodLink RL 124 yX6_feed, Cond.instanceMethod yX6_feed, Cond.selects RX6 yX6_feed yX6_feed, Cond.code yX6_feed cX6_feed 4 (some .int), Cond.methodLink RX6 235 yX4_hasPlaceFor, Cond.instanceMethod yX4_hasPlaceFor, Cond.selects RX4 yX4_hasPlaceFor yX4_hasPlaceFor, Cond.code yX4_hasPlaceFor cX4_hasPlaceFor 2 (some .boolean), Cond.methodLink RX6 238 yX4_add, Cond.instanceMethod yX4_add, Cond.selects RX4 yX4_add yX4_add, Cond.code yX4_add cX4_add 2 none, Cond.methodLink RL 128 yX6_wipe, Cond.instanceMethod yX6_wipe, Cond.selects RX6 yX6_wipe yX6_wipe, Cond.code yX6_wipe cX6_wipe 1 (some .int), Cond.methodLink RX6 244 yX4_clear, Cond.instanceMethod yX4_clear, Cond.selects RX4 yX4_clear yX4_clear, Cond.code yX4_clear cX4_clear 2 (some .int), Cond.methodLink RL 133 yX6_house, Cond.instanceMethod yX6_house, Cond.selects RX6 yX6_house yX6_house, Cond.code yX6_house cX6_house 2 (some .int), Cond.methodLink RX6 247 yX5_parse, Cond.instanceMethod yX5_parse, Cond.selects RX5 yX5_parse yX5_parse, Cond.code yX5_parse cX5_parse 2 (some .int), Cond.methodLink RX5 23 yX5_step, Cond.instanceMethod yX5_step, Cond.code yX5_step cX5_step 2 none, Cond.methodLink RX5 127 yX5_tokenWith, Cond.static yX5_tokenWith, Cond.code yX5_tokenWith cX5_tokenWith 1 (some .int), Cond.methodLink RX5 130 yX5_numberHere, Cond.instanceMethod yX5_numberHere]
theorem wg_12 : ∀ w ∈ WD_12, goodWord w = true := by decide +kernel
set_option maxRecDepth 10000 in
theorem wm_12 : ∀ w ∈ WD_12, w ∈ lw_tbl := (List.forall_mem_cons.mpr ⟨tb_3 _ (List.mem_of_getElem? (i := 34) rfl), (List.forall_mem_cons.mpr ⟨tb_3 _ (List.mem_of_getElem? (i := 35) rfl), (List.forall_mem_cons.mpr ⟨tb_3 _ (List.mem_of_getElem? (i := 36) rfl), (List.forall_mem_cons.mpr ⟨tb_3 _ (List.mem_of_getElem? (i := 37) rfl), (List.forall_mem_cons.mpr ⟨tb_3 _ (List.mem_of_getElem? (i := 38) rfl), (List.forall_mem_cons.mpr ⟨tb_3 _ (List.mem_of_getElem? (i := 39) rfl), (List.forall_mem_cons.mpr ⟨tb_3 _ (List.mem_of_getElem? (i := 40) rfl), (List.forall_mem_cons.mpr ⟨tb_3 _ (List.mem_of_getElem? (i := 41) rfl), (List.forall_mem_cons.mpr ⟨tb_3 _ (List.mem_of_getElem? (i := 42) rfl), (List.forall_mem_cons.mpr ⟨tb_3 _ (List.mem_of_getElem? (i := 43) rfl), (List.forall_mem_cons.mpr ⟨tb_3 _ (List.mem_of_getElem? (i := 44) rfl), (List.forall_mem_cons.mpr ⟨tb_3 _ (List.mem_of_getElem? (i := 45) rfl), (List.forall_mem_cons.mpr ⟨tb_3 _ (List.mem_of_getElem? (i := 46) rfl), (List.forall_mem_cons.mpr ⟨tb_3 _ (List.mem_of_getElem? (i := 47) rfl), (List.forall_mem_cons.mpr ⟨tb_3 _ (List.mem_of_getElem? (i := 48) rfl), (List.forall_mem_cons.mpr ⟨tb_3 _ (List.mem_of_getElem? (i := 49) rfl), (List.forall_mem_cons.mpr ⟨tb_3 _ (List.mem_of_getElem? (i := 50) rfl), (List.forall_mem_cons.mpr ⟨tb_3 _ (List.mem_of_getElem? (i := 51) rfl), (List.forall_mem_cons.mpr ⟨tb_3 _ (List.mem_of_getElem? (i := 52) rfl), (List.forall_mem_cons.mpr ⟨tb_3 _ (List.mem_of_getElem? (i := 53) rfl), (List.forall_mem_cons.mpr ⟨tb_3 _ (List.mem_of_getElem? (i := 54) rfl), (List.forall_mem_cons.mpr ⟨tb_3 _ (List.mem_of_getElem? (i := 55) rfl), (List.forall_mem_cons.mpr ⟨tb_3 _ (List.mem_of_getElem? (i := 56) rfl), (List.forall_mem_cons.mpr ⟨tb_3 _ (List.mem_of_getElem? (i := 57) rfl), (List.forall_mem_cons.mpr ⟨tb_3 _ (List.mem_of_getElem? (i := 58) rfl), (List.forall_mem_cons.mpr ⟨tb_3 _ (List.mem_of_getElem? (i := 59) rfl), (List.forall_mem_cons.mpr ⟨tb_3 _ (List.mem_of_getElem? (i := 60) rfl), (List.forall_mem_cons.mpr ⟨tb_3 _ (List.mem_of_getElem? (i := 61) rfl), (List.forall_mem_cons.mpr ⟨tb_3 _ (List.mem_of_getElem? (i := 62) rfl), (List.forall_mem_cons.mpr ⟨tb_3 _ (List.mem_of_getElem? (i := 63) rfl), (List.forall_mem_cons.mpr ⟨tb_3 _ (List.mem_of_getElem? (i := 64) rfl), (List.forall_mem_cons.mpr ⟨tb_3 _ (List.mem_of_getElem? (i := 65) rfl), (List.forall_mem_cons.mpr ⟨tb_3 _ (List.mem_of_getElem? (i := 66) rfl), (List.forall_mem_cons.mpr ⟨tb_3 _ (List.mem_of_getElem? (i := 68) rfl), (List.forall_mem_cons.mpr ⟨tb_3 _ (List.mem_of_getElem? (i := 69) rfl), (List.forall_mem_cons.mpr ⟨tb_3 _ (List.mem_of_getElem? (i := 70) rfl), (List.forall_mem_cons.mpr ⟨tb_3 _ (List.mem_of_getElem? (i := 71) rfl), (List.forall_mem_cons.mpr ⟨tb_3 _ (List.mem_of_getElem? (i := 72) rfl), (List.forall_mem_cons.mpr ⟨tb_3 _ (List.mem_of_getElem? (i := 73) rfl), (List.forall_mem_cons.mpr ⟨tb_3 _ (List.mem_of_getElem? (i := 75) rfl), (fun _ q => by cases q)⟩)⟩)⟩)⟩)⟩)⟩)⟩)⟩)⟩)⟩)⟩)⟩)⟩)⟩)⟩)⟩)⟩)⟩)⟩)⟩)⟩)⟩)⟩)⟩)⟩)⟩)⟩)⟩)⟩)⟩)⟩)⟩)⟩)⟩)⟩)⟩)⟩)⟩)⟩)⟩)
theorem wd_12 : ∀ w ∈ WD_12, w ∈ lw_tbl ∧ goodWord w = true := fun w hw => ⟨wm_12 w hw, wg_12 w hw⟩
def WD_13 : List Cond := [Cond.code yX5_numberHere cX5_numberHere 3 (some .int), Cond.methodLink RX5 133 Lib.Math.min.name, Cond.methodLink RX5 26 yX5_takeItem, Cond.instanceMethod yX5_takeItem, Cond.code yX5_takeItem cX5_takeItem 2 (some .boolean), Cond.methodLink RX5 36 yX5_namedKind, Cond.instanceMethod yX5_namedKind, Cond.code yX5_namedKind cX5_namedKind 2 (some .int), Cond.methodLink RX5 94 yX5_nameOf, Cond.static yX5_nameOf, Cond.code yX5_nameOf cX5_nameOf 1 (some (.object "java/lang/String")), Cond.methodLink RX5 46 yX5_isWord, Cond.instanceMethod yX5_isWord, Cond.code yX5_isWord cX5_isWord 3 (some .boolean), Cond.methodLink RX5 110 yJ0_length_8abf5, Cond.instanceMethod yJ0_length_8abf5, Cond.selects RJ0 yJ0_length_8abf5 yJ0_length_8abf5, Cond.code yJ0_length_8abf5 cJ0_length_8abf5 1 (some .int), Cond.methodLink RJ0 335 yJ0_coder_7d493, Cond.instanceMethod yJ0_coder_7d493, Cond.selects RJ0 yJ0_coder_7d493 yJ0_coder_7d493, Cond.code yJ0_coder_7d493 cJ0_coder_7d493 1 (some .byte), Cond.fieldLink RJ0 38 "java/lang/String" "COMPACT_STRINGS" "Z", Cond.methodLink RX5 121 yJ0_charAt_5068e, Cond.instanceMethod yJ0_charAt_5068e, Cond.selects RJ0 yJ0_charAt_5068e yJ0_charAt_5068e, Cond.code yJ0_charAt_5068e cJ0_charAt_5068e 2 (some .char), Cond.methodLink RJ0 492 yJ0_isLatin1_aae02, Cond.instanceMethod yJ0_isLatin1_aae02, Cond.selects RJ0 yJ0_isLatin1_aae02 yJ0_isLatin1_aae02, Cond.code yJ0_isLatin1_aae02 cJ0_isLatin1_aae02 1 (some .boolean), Cond.methodLink RJ0 495 yJ1_charAt_3b067, Cond.static yJ1_charAt_3b067, Cond.code yJ1_charAt_3b067 cJ1_charAt_3b067 2 (some .char), Cond.methodLink RJ1 9 yJ0_checkIndex_df160, Cond.static yJ0_checkIndex_df160, Cond.code yJ0_checkIndex_df160 cJ0_checkIndex_df160 2 none, Cond.fieldLink RJ0 1053 "jdk/internal/util/Preconditions" "SIOOBE_FORMATTER" "Ljava/util/function/BiFunction;", Cond.methodLink RJ0 1059 yJ3_checkIndex_8e157, Cond.static yJ3_checkIndex_8e157]
theorem wg_13 : ∀ w ∈ WD_13, goodWord w = true := by decide +kernel
set_option maxRecDepth 10000 in
theorem wm_13 : ∀ w ∈ WD_13, w ∈ lw_tbl := (List.forall_mem_cons.mpr ⟨tb_3 _ (List.mem_of_getElem? (i := 76) rfl), (List.forall_mem_cons.mpr ⟨tb_3 _ (List.mem_of_getElem? (i := 77) rfl), (List.forall_mem_cons.mpr ⟨tb_3 _ (List.mem_of_getElem? (i := 78) rfl), (List.forall_mem_cons.mpr ⟨tb_3 _ (List.mem_of_getElem? (i := 80) rfl), (List.forall_mem_cons.mpr ⟨tb_3 _ (List.mem_of_getElem? (i := 81) rfl), (List.forall_mem_cons.mpr ⟨tb_3 _ (List.mem_of_getElem? (i := 82) rfl), (List.forall_mem_cons.mpr ⟨tb_3 _ (List.mem_of_getElem? (i := 84) rfl), (List.forall_mem_cons.mpr ⟨tb_3 _ (List.mem_of_getElem? (i := 85) rfl), (List.forall_mem_cons.mpr ⟨tb_3 _ (List.mem_of_getElem? (i := 86) rfl), (List.forall_mem_cons.mpr ⟨tb_3 _ (List.mem_of_getElem? (i := 87) rfl), (List.forall_mem_cons.mpr ⟨tb_3 _ (List.mem_of_getElem? (i := 88) rfl), (List.forall_mem_cons.mpr ⟨tb_3 _ (List.mem_of_getElem? (i := 95) rfl), (List.forall_mem_cons.mpr ⟨tb_3 _ (List.mem_of_getElem? (i := 97) rfl), (List.forall_mem_cons.mpr ⟨tb_3 _ (List.mem_of_getElem? (i := 98) rfl), (List.forall_mem_cons.mpr ⟨tb_3 _ (List.mem_of_getElem? (i := 99) rfl), (List.forall_mem_cons.mpr ⟨tb_3 _ (List.mem_of_getElem? (i := 100) rfl), (List.forall_mem_cons.mpr ⟨tb_3 _ (List.mem_of_getElem? (i := 101) rfl), (List.forall_mem_cons.mpr ⟨tb_3 _ (List.mem_of_getElem? (i := 102) rfl), (List.forall_mem_cons.mpr ⟨tb_3 _ (List.mem_of_getElem? (i := 103) rfl), (List.forall_mem_cons.mpr ⟨tb_3 _ (List.mem_of_getElem? (i := 104) rfl), (List.forall_mem_cons.mpr ⟨tb_3 _ (List.mem_of_getElem? (i := 105) rfl), (List.forall_mem_cons.mpr ⟨tb_3 _ (List.mem_of_getElem? (i := 106) rfl), (List.forall_mem_cons.mpr ⟨tb_3 _ (List.mem_of_getElem? (i := 107) rfl), (List.forall_mem_cons.mpr ⟨tb_3 _ (List.mem_of_getElem? (i := 109) rfl), (List.forall_mem_cons.mpr ⟨tb_3 _ (List.mem_of_getElem? (i := 110) rfl), (List.forall_mem_cons.mpr ⟨tb_3 _ (List.mem_of_getElem? (i := 111) rfl), (List.forall_mem_cons.mpr ⟨tb_3 _ (List.mem_of_getElem? (i := 112) rfl), (List.forall_mem_cons.mpr ⟨tb_3 _ (List.mem_of_getElem? (i := 113) rfl), (List.forall_mem_cons.mpr ⟨tb_3 _ (List.mem_of_getElem? (i := 114) rfl), (List.forall_mem_cons.mpr ⟨tb_3 _ (List.mem_of_getElem? (i := 115) rfl), (List.forall_mem_cons.mpr ⟨tb_3 _ (List.mem_of_getElem? (i := 116) rfl), (List.forall_mem_cons.mpr ⟨tb_3 _ (List.mem_of_getElem? (i := 117) rfl), (List.forall_mem_cons.mpr ⟨tb_3 _ (List.mem_of_getElem? (i := 118) rfl), (List.forall_mem_cons.mpr ⟨tb_3 _ (List.mem_of_getElem? (i := 119) rfl), (List.forall_mem_cons.mpr ⟨tb_3 _ (List.mem_of_getElem? (i := 120) rfl), (List.forall_mem_cons.mpr ⟨tb_3 _ (List.mem_of_getElem? (i := 121) rfl), (List.forall_mem_cons.mpr ⟨tb_3 _ (List.mem_of_getElem? (i := 122) rfl), (List.forall_mem_cons.mpr ⟨tb_3 _ (List.mem_of_getElem? (i := 123) rfl), (List.forall_mem_cons.mpr ⟨tb_3 _ (List.mem_of_getElem? (i := 125) rfl), (List.forall_mem_cons.mpr ⟨tb_3 _ (List.mem_of_getElem? (i := 126) rfl), (fun _ q => by cases q)⟩)⟩)⟩)⟩)⟩)⟩)⟩)⟩)⟩)⟩)⟩)⟩)⟩)⟩)⟩)⟩)⟩)⟩)⟩)⟩)⟩)⟩)⟩)⟩)⟩)⟩)⟩)⟩)⟩)⟩)⟩)⟩)⟩)⟩)⟩)⟩)⟩)⟩)⟩)⟩)
theorem wd_13 : ∀ w ∈ WD_13, w ∈ lw_tbl ∧ goodWord w = true := fun w hw => ⟨wm_13 w hw, wg_13 w hw⟩
def WD_14 : List Cond := [Cond.code yJ3_checkIndex_8e157 cJ3_checkIndex_8e157 3 (some .int), Cond.methodLink RX5 40 yX5_takeHandle, Cond.instanceMethod yX5_takeHandle, Cond.code yX5_takeHandle cX5_takeHandle 5 (some .boolean), Cond.methodLink RX5 61 yX1_hasPlaceForHandle, Cond.methodLink RX5 55 yX5_takeWord, Cond.instanceMethod yX5_takeWord, Cond.code yX5_takeWord cX5_takeWord 2 (some .boolean), Cond.methodLink RX5 68 yX5_takeNumber, Cond.instanceMethod yX5_takeNumber, Cond.code yX5_takeNumber cX5_takeNumber 3 (some .int), Cond.methodLink RX5 76 yX1_addHandle, Cond.methodLink RX5 50 yX5_takeMember, Cond.instanceMethod yX5_takeMember, Cond.code yX5_takeMember cX5_takeMember 2 (some .boolean), Cond.methodLink RX5 80 yX1_hasPlaceForMember, Cond.methodLink RX5 85 yX1_addMember, Cond.methodLink RX5 58 yX5_takeLoan, Cond.instanceMethod yX5_takeLoan, Cond.code yX5_takeLoan cX5_takeLoan 2 (some .boolean), Cond.methodLink RL 137 yX6_sheet, Cond.instanceMethod yX6_sheet, Cond.selects RX6 yX6_sheet yX6_sheet, Cond.code yX6_sheet cX6_sheet 4 (some .int), Cond.methodLink RX6 250 yX6_isSheet, Cond.static yX6_isSheet, Cond.code yX6_isSheet cX6_isSheet 1 (some .boolean), Cond.constant RX6 253 (-1000000007), Cond.methodLink RX6 254 yX3_start, Cond.instanceMethod yX3_start, Cond.selects RX3 yX3_start yX3_start, Cond.code yX3_start cX3_start 4 none, Cond.methodLink RL 143 yX6_write, Cond.instanceMethod yX6_write, Cond.selects RX6 yX6_write yX6_write, Cond.code yX6_write cX6_write 8 (some .long), Cond.methodLink RX6 261 yX3_isMissing, Cond.instanceMethod yX3_isMissing, Cond.selects RX3 yX3_isMissing yX3_isMissing, Cond.code yX3_isMissing cX3_isMissing 1 (some .boolean)]
theorem wg_14 : ∀ w ∈ WD_14, goodWord w = true := by decide +kernel
set_option maxRecDepth 10000 in
theorem wm_14 : ∀ w ∈ WD_14, w ∈ lw_tbl := (List.forall_mem_cons.mpr ⟨tb_3 _ (List.mem_of_getElem? (i := 127) rfl), (List.forall_mem_cons.mpr ⟨tb_3 _ (List.mem_of_getElem? (i := 147) rfl), (List.forall_mem_cons.mpr ⟨tb_3 _ (List.mem_of_getElem? (i := 149) rfl), (List.forall_mem_cons.mpr ⟨tb_3 _ (List.mem_of_getElem? (i := 150) rfl), (List.forall_mem_cons.mpr ⟨tb_3 _ (List.mem_of_getElem? (i := 151) rfl), (List.forall_mem_cons.mpr ⟨tb_3 _ (List.mem_of_getElem? (i := 153) rfl), (List.forall_mem_cons.mpr ⟨tb_3 _ (List.mem_of_getElem? (i := 155) rfl), (List.forall_mem_cons.mpr ⟨tb_3 _ (List.mem_of_getElem? (i := 156) rfl), (List.forall_mem_cons.mpr ⟨tb_3 _ (List.mem_of_getElem? (i := 157) rfl), (List.forall_mem_cons.mpr ⟨tb_3 _ (List.mem_of_getElem? (i := 159) rfl), (List.forall_mem_cons.mpr ⟨tb_3 _ (List.mem_of_getElem? (i := 160) rfl), (List.forall_mem_cons.mpr ⟨tb_3 _ (List.mem_of_getElem? (i := 163) rfl), (List.forall_mem_cons.mpr ⟨tb_3 _ (List.mem_of_getElem? (i := 165) rfl), (List.forall_mem_cons.mpr ⟨tb_3 _ (List.mem_of_getElem? (i := 167) rfl), (List.forall_mem_cons.mpr ⟨tb_3 _ (List.mem_of_getElem? (i := 168) rfl), (List.forall_mem_cons.mpr ⟨tb_3 _ (List.mem_of_getElem? (i := 169) rfl), (List.forall_mem_cons.mpr ⟨tb_3 _ (List.mem_of_getElem? (i := 171) rfl), (List.forall_mem_cons.mpr ⟨tb_3 _ (List.mem_of_getElem? (i := 173) rfl), (List.forall_mem_cons.mpr ⟨tb_3 _ (List.mem_of_getElem? (i := 175) rfl), (List.forall_mem_cons.mpr ⟨tb_3 _ (List.mem_of_getElem? (i := 176) rfl), (List.forall_mem_cons.mpr ⟨tb_3 _ (List.mem_of_getElem? (i := 178) rfl), (List.forall_mem_cons.mpr ⟨tb_3 _ (List.mem_of_getElem? (i := 179) rfl), (List.forall_mem_cons.mpr ⟨tb_3 _ (List.mem_of_getElem? (i := 180) rfl), (List.forall_mem_cons.mpr ⟨tb_3 _ (List.mem_of_getElem? (i := 181) rfl), (List.forall_mem_cons.mpr ⟨tb_3 _ (List.mem_of_getElem? (i := 182) rfl), (List.forall_mem_cons.mpr ⟨tb_3 _ (List.mem_of_getElem? (i := 183) rfl), (List.forall_mem_cons.mpr ⟨tb_3 _ (List.mem_of_getElem? (i := 184) rfl), (List.forall_mem_cons.mpr ⟨tb_3 _ (List.mem_of_getElem? (i := 185) rfl), (List.forall_mem_cons.mpr ⟨tb_3 _ (List.mem_of_getElem? (i := 186) rfl), (List.forall_mem_cons.mpr ⟨tb_3 _ (List.mem_of_getElem? (i := 187) rfl), (List.forall_mem_cons.mpr ⟨tb_3 _ (List.mem_of_getElem? (i := 188) rfl), (List.forall_mem_cons.mpr ⟨tb_3 _ (List.mem_of_getElem? (i := 189) rfl), (List.forall_mem_cons.mpr ⟨tb_3 _ (List.mem_of_getElem? (i := 190) rfl), (List.forall_mem_cons.mpr ⟨tb_3 _ (List.mem_of_getElem? (i := 191) rfl), (List.forall_mem_cons.mpr ⟨tb_3 _ (List.mem_of_getElem? (i := 192) rfl), (List.forall_mem_cons.mpr ⟨tb_3 _ (List.mem_of_getElem? (i := 193) rfl), (List.forall_mem_cons.mpr ⟨tb_3 _ (List.mem_of_getElem? (i := 194) rfl), (List.forall_mem_cons.mpr ⟨tb_3 _ (List.mem_of_getElem? (i := 195) rfl), (List.forall_mem_cons.mpr ⟨tb_3 _ (List.mem_of_getElem? (i := 196) rfl), (List.forall_mem_cons.mpr ⟨tb_3 _ (List.mem_of_getElem? (i := 197) rfl), (fun _ q => by cases q)⟩)⟩)⟩)⟩)⟩)⟩)⟩)⟩)⟩)⟩)⟩)⟩)⟩)⟩)⟩)⟩)⟩)⟩)⟩)⟩)⟩)⟩)⟩)⟩)⟩)⟩)⟩)⟩)⟩)⟩)⟩)⟩)⟩)⟩)⟩)⟩)⟩)⟩)⟩)⟩)
theorem wd_14 : ∀ w ∈ WD_14, w ∈ lw_tbl ∧ goodWord w = true := fun w hw => ⟨wm_14 w hw, wg_14 w hw⟩
def WD_15 : List Cond := [Cond.constant RX6 264 (-1000000006), Cond.methodLink RX6 269 yX3_put, Cond.instanceMethod yX3_put, Cond.selects RX3 yX3_put yX3_put, Cond.code yX3_put cX3_put 4 none, Cond.methodLink RL 148 yX6_copy, Cond.instanceMethod yX6_copy, Cond.selects RX6 yX6_copy yX6_copy, Cond.code yX6_copy cX6_copy 8 (some .int), Cond.methodLink RX6 276 yX3_hasPart, Cond.instanceMethod yX3_hasPart, Cond.selects RX3 yX3_hasPart yX3_hasPart, Cond.code yX3_hasPart cX3_hasPart 3 (some .boolean), Cond.methodLink RX6 279 arraycopyName, Cond.static arraycopyName, Cond.native arraycopyName, Cond.methodLink RL 153 yX6_lays, Cond.instanceMethod yX6_lays, Cond.selects RX6 yX6_lays yX6_lays, Cond.code yX6_lays cX6_lays 7 (some .int), Cond.constantLong RX6 285 99, Cond.methodLink RL 157 yX6_book, Cond.instanceMethod yX6_book, Cond.selects RX6 yX6_book yX6_book, Cond.code yX6_book cX6_book 5 (some .int), Cond.methodLink RL 161 yX6_read, Cond.instanceMethod yX6_read, Cond.selects RX6 yX6_read yX6_read, Cond.code yX6_read cX6_read 8 (some .int), Cond.constantLong RX6 287 16, Cond.methodLink RX6 289 yX1_oneTurnFrom, Cond.methodLink RL 165 yX6_image, Cond.instanceMethod yX6_image, Cond.selects RX6 yX6_image yX6_image, Cond.code yX6_image cX6_image 1 (some .int), Cond.methodLink RL 169 yX6_undo, Cond.instanceMethod yX6_undo, Cond.selects RX6 yX6_undo yX6_undo, Cond.code yX6_undo cX6_undo 1 (some .int), Cond.methodLink RL 173 yX6_tear]
theorem wg_15 : ∀ w ∈ WD_15, goodWord w = true := by decide +kernel
set_option maxRecDepth 10000 in
theorem wm_15 : ∀ w ∈ WD_15, w ∈ lw_tbl := (List.forall_mem_cons.mpr ⟨tb_3 _ (List.mem_of_getElem? (i := 198) rfl), (List.forall_mem_cons.mpr ⟨tb_3 _ (List.mem_of_getElem? (i := 199) rfl), (List.forall_mem_cons.mpr ⟨tb_3 _ (List.mem_of_getElem? (i := 200) rfl), (List.forall_mem_cons.mpr ⟨tb_3 _ (List.mem_of_getElem? (i := 201) rfl), (List.forall_mem_cons.mpr ⟨tb_3 _ (List.mem_of_getElem? (i := 202) rfl), (List.forall_mem_cons.mpr ⟨tb_3 _ (List.mem_of_getElem? (i := 203) rfl), (List.forall_mem_cons.mpr ⟨tb_3 _ (List.mem_of_getElem? (i := 204) rfl), (List.forall_mem_cons.mpr ⟨tb_3 _ (List.mem_of_getElem? (i := 205) rfl), (List.forall_mem_cons.mpr ⟨tb_3 _ (List.mem_of_getElem? (i := 206) rfl), (List.forall_mem_cons.mpr ⟨tb_3 _ (List.mem_of_getElem? (i := 207) rfl), (List.forall_mem_cons.mpr ⟨tb_3 _ (List.mem_of_getElem? (i := 208) rfl), (List.forall_mem_cons.mpr ⟨tb_3 _ (List.mem_of_getElem? (i := 209) rfl), (List.forall_mem_cons.mpr ⟨tb_3 _ (List.mem_of_getElem? (i := 210) rfl), (List.forall_mem_cons.mpr ⟨tb_3 _ (List.mem_of_getElem? (i := 211) rfl), (List.forall_mem_cons.mpr ⟨tb_3 _ (List.mem_of_getElem? (i := 212) rfl), (List.forall_mem_cons.mpr ⟨tb_3 _ (List.mem_of_getElem? (i := 213) rfl), (List.forall_mem_cons.mpr ⟨tb_3 _ (List.mem_of_getElem? (i := 214) rfl), (List.forall_mem_cons.mpr ⟨tb_3 _ (List.mem_of_getElem? (i := 215) rfl), (List.forall_mem_cons.mpr ⟨tb_3 _ (List.mem_of_getElem? (i := 216) rfl), (List.forall_mem_cons.mpr ⟨tb_3 _ (List.mem_of_getElem? (i := 217) rfl), (List.forall_mem_cons.mpr ⟨tb_3 _ (List.mem_of_getElem? (i := 218) rfl), (List.forall_mem_cons.mpr ⟨tb_3 _ (List.mem_of_getElem? (i := 219) rfl), (List.forall_mem_cons.mpr ⟨tb_3 _ (List.mem_of_getElem? (i := 220) rfl), (List.forall_mem_cons.mpr ⟨tb_3 _ (List.mem_of_getElem? (i := 221) rfl), (List.forall_mem_cons.mpr ⟨tb_3 _ (List.mem_of_getElem? (i := 222) rfl), (List.forall_mem_cons.mpr ⟨tb_3 _ (List.mem_of_getElem? (i := 223) rfl), (List.forall_mem_cons.mpr ⟨tb_3 _ (List.mem_of_getElem? (i := 224) rfl), (List.forall_mem_cons.mpr ⟨tb_3 _ (List.mem_of_getElem? (i := 225) rfl), (List.forall_mem_cons.mpr ⟨tb_3 _ (List.mem_of_getElem? (i := 226) rfl), (List.forall_mem_cons.mpr ⟨tb_3 _ (List.mem_of_getElem? (i := 227) rfl), (List.forall_mem_cons.mpr ⟨tb_3 _ (List.mem_of_getElem? (i := 228) rfl), (List.forall_mem_cons.mpr ⟨tb_3 _ (List.mem_of_getElem? (i := 229) rfl), (List.forall_mem_cons.mpr ⟨tb_3 _ (List.mem_of_getElem? (i := 230) rfl), (List.forall_mem_cons.mpr ⟨tb_3 _ (List.mem_of_getElem? (i := 231) rfl), (List.forall_mem_cons.mpr ⟨tb_3 _ (List.mem_of_getElem? (i := 232) rfl), (List.forall_mem_cons.mpr ⟨tb_3 _ (List.mem_of_getElem? (i := 233) rfl), (List.forall_mem_cons.mpr ⟨tb_3 _ (List.mem_of_getElem? (i := 234) rfl), (List.forall_mem_cons.mpr ⟨tb_3 _ (List.mem_of_getElem? (i := 235) rfl), (List.forall_mem_cons.mpr ⟨tb_3 _ (List.mem_of_getElem? (i := 236) rfl), (List.forall_mem_cons.mpr ⟨tb_3 _ (List.mem_of_getElem? (i := 237) rfl), (fun _ q => by cases q)⟩)⟩)⟩)⟩)⟩)⟩)⟩)⟩)⟩)⟩)⟩)⟩)⟩)⟩)⟩)⟩)⟩)⟩)⟩)⟩)⟩)⟩)⟩)⟩)⟩)⟩)⟩)⟩)⟩)⟩)⟩)⟩)⟩)⟩)⟩)⟩)⟩)⟩)⟩)⟩)
theorem wd_15 : ∀ w ∈ WD_15, w ∈ lw_tbl ∧ goodWord w = true := fun w hw => ⟨wm_15 w hw, wg_15 w hw⟩
def WD_16 : List Cond := [Cond.instanceMethod yX6_tear, Cond.selects RX6 yX6_tear yX6_tear, Cond.code yX6_tear cX6_tear 2 (some .int), Cond.methodLink RL 177 yX6_count, Cond.instanceMethod yX6_count, Cond.selects RX6 yX6_count yX6_count, Cond.code yX6_count cX6_count 2 (some .int), Cond.methodLink RX6 299 yX1_pairCount, Cond.instanceMethod yX1_pairCount, Cond.selects RX1 yX1_pairCount yX1_pairCount, Cond.code yX1_pairCount cX1_pairCount 4 (some .int), Cond.methodLink RL 181 yX6_status, Cond.instanceMethod yX6_status, Cond.selects RX6 yX6_status yX6_status, Cond.code yX6_status cX6_status 4 (some .int), Cond.fieldLink RX7 7 RX7 (TX7 0).2.1 (TX7 0).2.2.1, Cond.fieldLink RX7 13 RX7 (TX7 1).2.1 (TX7 1).2.2.1, Cond.fieldLink RX7 16 RX7 (TX7 2).2.1 (TX7 2).2.2.1, Cond.fieldLink RX7 19 RX7 (TX7 3).2.1 (TX7 3).2.2.1, Cond.fieldLink RX7 172 RX7 (TX7 4).2.1 (TX7 4).2.2.1, Cond.fieldLink RX7 191 RX7 (TX7 5).2.1 (TX7 5).2.2.1, Cond.fieldLink RX7 179 RX7 (TX7 6).2.1 (TX7 6).2.2.1, Cond.fieldLink RX7 176 RX7 (TX7 7).2.1 (TX7 7).2.2.1, Cond.fieldLink RX7 194 RX7 (TX7 8).2.1 (TX7 8).2.2.1, Cond.fieldLink RX7 198 RX7 (TX7 9).2.1 (TX7 9).2.2.1, Cond.fieldLink RX7 223 RX7 (TX7 10).2.1 (TX7 10).2.2.1, Cond.fieldLink RX7 22 RX7 (TX7 11).2.1 (TX7 11).2.2.1, Cond.fieldLink RX7 25 RX7 (TX7 12).2.1 (TX7 12).2.2.1, Cond.fieldLink RX7 28 RX7 (TX7 13).2.1 (TX7 13).2.2.1, Cond.fieldLink RX7 32 RX7 (TX7 14).2.1 (TX7 14).2.2.1, Cond.fieldLink RX7 35 RX7 (TX7 15).2.1 (TX7 15).2.2.1, Cond.fieldLink RX7 38 RX7 (TX7 16).2.1 (TX7 16).2.2.1, Cond.fieldLink RX7 287 RX7 (TX7 17).2.1 (TX7 17).2.2.1, u_lay RX7 TX7 0, u_lay RX7 TX7 1, u_lay RX7 TX7 2, u_lay RX7 TX7 3, u_lay RX7 TX7 4, u_lay RX7 TX7 5, u_lay RX7 TX7 6]
theorem wg_16 : ∀ w ∈ WD_16, goodWord w = true := by decide +kernel
set_option maxRecDepth 10000 in
theorem wm_16 : ∀ w ∈ WD_16, w ∈ lw_tbl := (List.forall_mem_cons.mpr ⟨tb_3 _ (List.mem_of_getElem? (i := 238) rfl), (List.forall_mem_cons.mpr ⟨tb_3 _ (List.mem_of_getElem? (i := 239) rfl), (List.forall_mem_cons.mpr ⟨tb_4 _ (List.mem_of_getElem? (i := 0) rfl), (List.forall_mem_cons.mpr ⟨tb_4 _ (List.mem_of_getElem? (i := 1) rfl), (List.forall_mem_cons.mpr ⟨tb_4 _ (List.mem_of_getElem? (i := 2) rfl), (List.forall_mem_cons.mpr ⟨tb_4 _ (List.mem_of_getElem? (i := 3) rfl), (List.forall_mem_cons.mpr ⟨tb_4 _ (List.mem_of_getElem? (i := 4) rfl), (List.forall_mem_cons.mpr ⟨tb_4 _ (List.mem_of_getElem? (i := 5) rfl), (List.forall_mem_cons.mpr ⟨tb_4 _ (List.mem_of_getElem? (i := 6) rfl), (List.forall_mem_cons.mpr ⟨tb_4 _ (List.mem_of_getElem? (i := 7) rfl), (List.forall_mem_cons.mpr ⟨tb_4 _ (List.mem_of_getElem? (i := 8) rfl), (List.forall_mem_cons.mpr ⟨tb_4 _ (List.mem_of_getElem? (i := 9) rfl), (List.forall_mem_cons.mpr ⟨tb_4 _ (List.mem_of_getElem? (i := 10) rfl), (List.forall_mem_cons.mpr ⟨tb_4 _ (List.mem_of_getElem? (i := 11) rfl), (List.forall_mem_cons.mpr ⟨tb_4 _ (List.mem_of_getElem? (i := 12) rfl), (List.forall_mem_cons.mpr ⟨tb_4 _ (List.mem_of_getElem? (i := 19) rfl), (List.forall_mem_cons.mpr ⟨tb_4 _ (List.mem_of_getElem? (i := 20) rfl), (List.forall_mem_cons.mpr ⟨tb_4 _ (List.mem_of_getElem? (i := 21) rfl), (List.forall_mem_cons.mpr ⟨tb_4 _ (List.mem_of_getElem? (i := 22) rfl), (List.forall_mem_cons.mpr ⟨tb_4 _ (List.mem_of_getElem? (i := 23) rfl), (List.forall_mem_cons.mpr ⟨tb_4 _ (List.mem_of_getElem? (i := 24) rfl), (List.forall_mem_cons.mpr ⟨tb_4 _ (List.mem_of_getElem? (i := 25) rfl), (List.forall_mem_cons.mpr ⟨tb_4 _ (List.mem_of_getElem? (i := 26) rfl), (List.forall_mem_cons.mpr ⟨tb_4 _ (List.mem_of_getElem? (i := 27) rfl), (List.forall_mem_cons.mpr ⟨tb_4 _ (List.mem_of_getElem? (i := 28) rfl), (List.forall_mem_cons.mpr ⟨tb_4 _ (List.mem_of_getElem? (i := 29) rfl), (List.forall_mem_cons.mpr ⟨tb_4 _ (List.mem_of_getElem? (i := 30) rfl), (List.forall_mem_cons.mpr ⟨tb_4 _ (List.mem_of_getElem? (i := 31) rfl), (List.forall_mem_cons.mpr ⟨tb_4 _ (List.mem_of_getElem? (i := 32) rfl), (List.forall_mem_cons.mpr ⟨tb_4 _ (List.mem_of_getElem? (i := 33) rfl), (List.forall_mem_cons.mpr ⟨tb_4 _ (List.mem_of_getElem? (i := 34) rfl), (List.forall_mem_cons.mpr ⟨tb_4 _ (List.mem_of_getElem? (i := 35) rfl), (List.forall_mem_cons.mpr ⟨tb_4 _ (List.mem_of_getElem? (i := 36) rfl), (List.forall_mem_cons.mpr ⟨tb_4 _ (List.mem_of_getElem? (i := 37) rfl), (List.forall_mem_cons.mpr ⟨tb_4 _ (List.mem_of_getElem? (i := 39) rfl), (List.forall_mem_cons.mpr ⟨tb_4 _ (List.mem_of_getElem? (i := 41) rfl), (List.forall_mem_cons.mpr ⟨tb_4 _ (List.mem_of_getElem? (i := 43) rfl), (List.forall_mem_cons.mpr ⟨tb_4 _ (List.mem_of_getElem? (i := 45) rfl), (List.forall_mem_cons.mpr ⟨tb_4 _ (List.mem_of_getElem? (i := 47) rfl), (List.forall_mem_cons.mpr ⟨tb_4 _ (List.mem_of_getElem? (i := 49) rfl), (fun _ q => by cases q)⟩)⟩)⟩)⟩)⟩)⟩)⟩)⟩)⟩)⟩)⟩)⟩)⟩)⟩)⟩)⟩)⟩)⟩)⟩)⟩)⟩)⟩)⟩)⟩)⟩)⟩)⟩)⟩)⟩)⟩)⟩)⟩)⟩)⟩)⟩)⟩)⟩)⟩)⟩)⟩)
theorem wd_16 : ∀ w ∈ WD_16, w ∈ lw_tbl ∧ goodWord w = true := fun w hw => ⟨wm_16 w hw, wg_16 w hw⟩
def WD_17 : List Cond := [u_lay RX7 TX7 7, u_lay RX7 TX7 8, u_lay RX7 TX7 9, u_lay RX7 TX7 10, u_lay RX7 TX7 11, u_lay RX7 TX7 12, u_lay RX7 TX7 13, u_lay RX7 TX7 14, u_lay RX7 TX7 15, u_lay RX7 TX7 16, u_lay RX7 TX7 17, Cond.methodLink RL 17 yX7_handle, Cond.instanceMethod yX7_handle, Cond.selects RX7 yX7_handle yX7_handle, Cond.code yX7_handle cX7_handle 4 (some .int), Cond.methodLink RX7 72 yX7_isKind, Cond.static yX7_isKind, Cond.code yX7_isKind cX7_isKind 1 (some .boolean), Cond.methodLink RX7 42 yX7_in, Cond.static yX7_in, Cond.code yX7_in cX7_in 3 (some .boolean), Cond.methodLink RX7 75 yX7_isRoom, Cond.static yX7_isRoom, Cond.code yX7_isRoom cX7_isRoom 1 (some .boolean), Cond.constant RX7 41 (-1000000001), Cond.methodLink RX7 78 yX7_finds, Cond.instanceMethod yX7_finds, Cond.code yX7_finds cX7_finds 2 (some .int), Cond.constant RX7 81 (-1000000002), Cond.methodLink RX7 82 yX7_addHandle, Cond.instanceMethod yX7_addHandle, Cond.code yX7_addHandle cX7_addHandle 6 none, Cond.methodLink RX7 68 yX7_puts, Cond.instanceMethod yX7_puts, Cond.code yX7_puts cX7_puts 4 none, Cond.methodLink RL 22 yX7_of, Cond.instanceMethod yX7_of, Cond.selects RX7 yX7_of yX7_of, Cond.code yX7_of cX7_of 3 (some .int), Cond.methodLink RX7 86 yX7_isOne]
theorem wg_17 : ∀ w ∈ WD_17, goodWord w = true := by decide +kernel
set_option maxRecDepth 10000 in
theorem wm_17 : ∀ w ∈ WD_17, w ∈ lw_tbl := (List.forall_mem_cons.mpr ⟨tb_4 _ (List.mem_of_getElem? (i := 51) rfl), (List.forall_mem_cons.mpr ⟨tb_4 _ (List.mem_of_getElem? (i := 53) rfl), (List.forall_mem_cons.mpr ⟨tb_4 _ (List.mem_of_getElem? (i := 55) rfl), (List.forall_mem_cons.mpr ⟨tb_4 _ (List.mem_of_getElem? (i := 57) rfl), (List.forall_mem_cons.mpr ⟨tb_4 _ (List.mem_of_getElem? (i := 59) rfl), (List.forall_mem_cons.mpr ⟨tb_4 _ (List.mem_of_getElem? (i := 61) rfl), (List.forall_mem_cons.mpr ⟨tb_4 _ (List.mem_of_getElem? (i := 63) rfl), (List.forall_mem_cons.mpr ⟨tb_4 _ (List.mem_of_getElem? (i := 65) rfl), (List.forall_mem_cons.mpr ⟨tb_4 _ (List.mem_of_getElem? (i := 67) rfl), (List.forall_mem_cons.mpr ⟨tb_4 _ (List.mem_of_getElem? (i := 69) rfl), (List.forall_mem_cons.mpr ⟨tb_4 _ (List.mem_of_getElem? (i := 71) rfl), (List.forall_mem_cons.mpr ⟨tb_4 _ (List.mem_of_getElem? (i := 74) rfl), (List.forall_mem_cons.mpr ⟨tb_4 _ (List.mem_of_getElem? (i := 75) rfl), (List.forall_mem_cons.mpr ⟨tb_4 _ (List.mem_of_getElem? (i := 76) rfl), (List.forall_mem_cons.mpr ⟨tb_4 _ (List.mem_of_getElem? (i := 77) rfl), (List.forall_mem_cons.mpr ⟨tb_4 _ (List.mem_of_getElem? (i := 78) rfl), (List.forall_mem_cons.mpr ⟨tb_4 _ (List.mem_of_getElem? (i := 79) rfl), (List.forall_mem_cons.mpr ⟨tb_4 _ (List.mem_of_getElem? (i := 80) rfl), (List.forall_mem_cons.mpr ⟨tb_4 _ (List.mem_of_getElem? (i := 81) rfl), (List.forall_mem_cons.mpr ⟨tb_4 _ (List.mem_of_getElem? (i := 82) rfl), (List.forall_mem_cons.mpr ⟨tb_4 _ (List.mem_of_getElem? (i := 83) rfl), (List.forall_mem_cons.mpr ⟨tb_4 _ (List.mem_of_getElem? (i := 84) rfl), (List.forall_mem_cons.mpr ⟨tb_4 _ (List.mem_of_getElem? (i := 85) rfl), (List.forall_mem_cons.mpr ⟨tb_4 _ (List.mem_of_getElem? (i := 86) rfl), (List.forall_mem_cons.mpr ⟨tb_4 _ (List.mem_of_getElem? (i := 87) rfl), (List.forall_mem_cons.mpr ⟨tb_4 _ (List.mem_of_getElem? (i := 88) rfl), (List.forall_mem_cons.mpr ⟨tb_4 _ (List.mem_of_getElem? (i := 90) rfl), (List.forall_mem_cons.mpr ⟨tb_4 _ (List.mem_of_getElem? (i := 91) rfl), (List.forall_mem_cons.mpr ⟨tb_4 _ (List.mem_of_getElem? (i := 92) rfl), (List.forall_mem_cons.mpr ⟨tb_4 _ (List.mem_of_getElem? (i := 93) rfl), (List.forall_mem_cons.mpr ⟨tb_4 _ (List.mem_of_getElem? (i := 95) rfl), (List.forall_mem_cons.mpr ⟨tb_4 _ (List.mem_of_getElem? (i := 96) rfl), (List.forall_mem_cons.mpr ⟨tb_4 _ (List.mem_of_getElem? (i := 97) rfl), (List.forall_mem_cons.mpr ⟨tb_4 _ (List.mem_of_getElem? (i := 99) rfl), (List.forall_mem_cons.mpr ⟨tb_4 _ (List.mem_of_getElem? (i := 100) rfl), (List.forall_mem_cons.mpr ⟨tb_4 _ (List.mem_of_getElem? (i := 101) rfl), (List.forall_mem_cons.mpr ⟨tb_4 _ (List.mem_of_getElem? (i := 102) rfl), (List.forall_mem_cons.mpr ⟨tb_4 _ (List.mem_of_getElem? (i := 103) rfl), (List.forall_mem_cons.mpr ⟨tb_4 _ (List.mem_of_getElem? (i := 104) rfl), (List.forall_mem_cons.mpr ⟨tb_4 _ (List.mem_of_getElem? (i := 105) rfl), (fun _ q => by cases q)⟩)⟩)⟩)⟩)⟩)⟩)⟩)⟩)⟩)⟩)⟩)⟩)⟩)⟩)⟩)⟩)⟩)⟩)⟩)⟩)⟩)⟩)⟩)⟩)⟩)⟩)⟩)⟩)⟩)⟩)⟩)⟩)⟩)⟩)⟩)⟩)⟩)⟩)⟩)⟩)
theorem wd_17 : ∀ w ∈ WD_17, w ∈ lw_tbl ∧ goodWord w = true := fun w hw => ⟨wm_17 w hw, wg_17 w hw⟩
def WD_18 : List Cond := [Cond.instanceMethod yX7_isOne, Cond.code yX7_isOne cX7_isOne 2 (some .boolean), Cond.methodLink RX7 50 yX7_isLate, Cond.instanceMethod yX7_isLate, Cond.code yX7_isLate cX7_isLate 2 (some .boolean), Cond.methodLink RX7 46 yX7_its, Cond.instanceMethod yX7_its, Cond.code yX7_its cX7_its 3 (some .int), Cond.methodLink RX7 58 yX7_endOf, Cond.instanceMethod yX7_endOf, Cond.code yX7_endOf cX7_endOf 2 (some .int), Cond.methodLink RX7 54 yX7_moved, Cond.instanceMethod yX7_moved, Cond.code yX7_moved cX7_moved 3 (some .int), Cond.methodLink RX7 61 yX7_wears, Cond.instanceMethod yX7_wears, Cond.code yX7_wears cX7_wears 2 (some .int), Cond.methodLink RL 26 yX7_set, Cond.instanceMethod yX7_set, Cond.selects RX7 yX7_set yX7_set, Cond.code yX7_set cX7_set 5 (some .int), Cond.methodLink RX7 89 yX7_becomes, Cond.instanceMethod yX7_becomes, Cond.code yX7_becomes cX7_becomes 4 (some .int), Cond.methodLink RL 30 yX7_turn, Cond.instanceMethod yX7_turn, Cond.selects RX7 yX7_turn yX7_turn, Cond.code yX7_turn cX7_turn 3 (some .int), Cond.methodLink RL 34 yX7_as, Cond.instanceMethod yX7_as, Cond.selects RX7 yX7_as yX7_as, Cond.code yX7_as cX7_as 5 (some .int), Cond.constant RX7 92 (-1000000003), Cond.methodLink RL 38 yX7_leads, Cond.instanceMethod yX7_leads, Cond.selects RX7 yX7_leads yX7_leads, Cond.code yX7_leads cX7_leads 3 (some .int), Cond.methodLink RX7 93 yX7_opens, Cond.instanceMethod yX7_opens, Cond.code yX7_opens cX7_opens 7 (some .boolean)]
theorem wg_18 : ∀ w ∈ WD_18, goodWord w = true := by decide +kernel
set_option maxRecDepth 10000 in
theorem wm_18 : ∀ w ∈ WD_18, w ∈ lw_tbl := (List.forall_mem_cons.mpr ⟨tb_4 _ (List.mem_of_getElem? (i := 107) rfl), (List.forall_mem_cons.mpr ⟨tb_4 _ (List.mem_of_getElem? (i := 108) rfl), (List.forall_mem_cons.mpr ⟨tb_4 _ (List.mem_of_getElem? (i := 109) rfl), (List.forall_mem_cons.mpr ⟨tb_4 _ (List.mem_of_getElem? (i := 111) rfl), (List.forall_mem_cons.mpr ⟨tb_4 _ (List.mem_of_getElem? (i := 112) rfl), (List.forall_mem_cons.mpr ⟨tb_4 _ (List.mem_of_getElem? (i := 113) rfl), (List.forall_mem_cons.mpr ⟨tb_4 _ (List.mem_of_getElem? (i := 115) rfl), (List.forall_mem_cons.mpr ⟨tb_4 _ (List.mem_of_getElem? (i := 116) rfl), (List.forall_mem_cons.mpr ⟨tb_4 _ (List.mem_of_getElem? (i := 117) rfl), (List.forall_mem_cons.mpr ⟨tb_4 _ (List.mem_of_getElem? (i := 119) rfl), (List.forall_mem_cons.mpr ⟨tb_4 _ (List.mem_of_getElem? (i := 120) rfl), (List.forall_mem_cons.mpr ⟨tb_4 _ (List.mem_of_getElem? (i := 121) rfl), (List.forall_mem_cons.mpr ⟨tb_4 _ (List.mem_of_getElem? (i := 123) rfl), (List.forall_mem_cons.mpr ⟨tb_4 _ (List.mem_of_getElem? (i := 124) rfl), (List.forall_mem_cons.mpr ⟨tb_4 _ (List.mem_of_getElem? (i := 125) rfl), (List.forall_mem_cons.mpr ⟨tb_4 _ (List.mem_of_getElem? (i := 127) rfl), (List.forall_mem_cons.mpr ⟨tb_4 _ (List.mem_of_getElem? (i := 128) rfl), (List.forall_mem_cons.mpr ⟨tb_4 _ (List.mem_of_getElem? (i := 129) rfl), (List.forall_mem_cons.mpr ⟨tb_4 _ (List.mem_of_getElem? (i := 130) rfl), (List.forall_mem_cons.mpr ⟨tb_4 _ (List.mem_of_getElem? (i := 131) rfl), (List.forall_mem_cons.mpr ⟨tb_4 _ (List.mem_of_getElem? (i := 132) rfl), (List.forall_mem_cons.mpr ⟨tb_4 _ (List.mem_of_getElem? (i := 133) rfl), (List.forall_mem_cons.mpr ⟨tb_4 _ (List.mem_of_getElem? (i := 135) rfl), (List.forall_mem_cons.mpr ⟨tb_4 _ (List.mem_of_getElem? (i := 136) rfl), (List.forall_mem_cons.mpr ⟨tb_4 _ (List.mem_of_getElem? (i := 137) rfl), (List.forall_mem_cons.mpr ⟨tb_4 _ (List.mem_of_getElem? (i := 138) rfl), (List.forall_mem_cons.mpr ⟨tb_4 _ (List.mem_of_getElem? (i := 139) rfl), (List.forall_mem_cons.mpr ⟨tb_4 _ (List.mem_of_getElem? (i := 140) rfl), (List.forall_mem_cons.mpr ⟨tb_4 _ (List.mem_of_getElem? (i := 141) rfl), (List.forall_mem_cons.mpr ⟨tb_4 _ (List.mem_of_getElem? (i := 142) rfl), (List.forall_mem_cons.mpr ⟨tb_4 _ (List.mem_of_getElem? (i := 143) rfl), (List.forall_mem_cons.mpr ⟨tb_4 _ (List.mem_of_getElem? (i := 144) rfl), (List.forall_mem_cons.mpr ⟨tb_4 _ (List.mem_of_getElem? (i := 145) rfl), (List.forall_mem_cons.mpr ⟨tb_4 _ (List.mem_of_getElem? (i := 146) rfl), (List.forall_mem_cons.mpr ⟨tb_4 _ (List.mem_of_getElem? (i := 147) rfl), (List.forall_mem_cons.mpr ⟨tb_4 _ (List.mem_of_getElem? (i := 148) rfl), (List.forall_mem_cons.mpr ⟨tb_4 _ (List.mem_of_getElem? (i := 149) rfl), (List.forall_mem_cons.mpr ⟨tb_4 _ (List.mem_of_getElem? (i := 150) rfl), (List.forall_mem_cons.mpr ⟨tb_4 _ (List.mem_of_getElem? (i := 152) rfl), (List.forall_mem_cons.mpr ⟨tb_4 _ (List.mem_of_getElem? (i := 153) rfl), (fun _ q => by cases q)⟩)⟩)⟩)⟩)⟩)⟩)⟩)⟩)⟩)⟩)⟩)⟩)⟩)⟩)⟩)⟩)⟩)⟩)⟩)⟩)⟩)⟩)⟩)⟩)⟩)⟩)⟩)⟩)⟩)⟩)⟩)⟩)⟩)⟩)⟩)⟩)⟩)⟩)⟩)⟩)
theorem wd_18 : ∀ w ∈ WD_18, w ∈ lw_tbl ∧ goodWord w = true := fun w hw => ⟨wm_18 w hw, wg_18 w hw⟩
def WD_19 : List Cond := [Cond.methodLink RX7 97 yX7_leadsTo, Cond.instanceMethod yX7_leadsTo, Cond.code yX7_leadsTo cX7_leadsTo 4 (some .int), Cond.constant RX7 100 (-1000000004), Cond.methodLink RL 42 yX7_pair, Cond.instanceMethod yX7_pair, Cond.selects RX7 yX7_pair yX7_pair, Cond.code yX7_pair cX7_pair 3 (some .int), Cond.methodLink RX7 101 yX7_arePair, Cond.instanceMethod yX7_arePair, Cond.code yX7_arePair cX7_arePair 7 (some .boolean), Cond.methodLink RL 47 yX7_member, Cond.instanceMethod yX7_member, Cond.selects RX7 yX7_member yX7_member, Cond.code yX7_member cX7_member 2 (some .int), Cond.methodLink RX7 104 yX7_addMember, Cond.instanceMethod yX7_addMember, Cond.code yX7_addMember cX7_addMember 3 none, Cond.methodLink RL 51 yX7_about, Cond.instanceMethod yX7_about, Cond.selects RX7 yX7_about yX7_about, Cond.code yX7_about cX7_about 3 (some .int), Cond.methodLink RX7 111 yX7_isMember, Cond.instanceMethod yX7_isMember, Cond.code yX7_isMember cX7_isMember 2 (some .boolean), Cond.methodLink RX7 108 yX7_whose, Cond.instanceMethod yX7_whose, Cond.code yX7_whose cX7_whose 3 (some .int), Cond.methodLink RX7 114 yX7_holds, Cond.instanceMethod yX7_holds, Cond.code yX7_holds cX7_holds 4 (some .int), Cond.methodLink RX7 117 yX7_openTo, Cond.instanceMethod yX7_openTo, Cond.code yX7_openTo cX7_openTo 4 (some .int), Cond.methodLink RL 55 yX7_place, Cond.instanceMethod yX7_place, Cond.selects RX7 yX7_place yX7_place, Cond.code yX7_place cX7_place 5 (some .int), Cond.methodLink RL 59 yX7_loan, Cond.instanceMethod yX7_loan]
theorem wg_19 : ∀ w ∈ WD_19, goodWord w = true := by decide +kernel
set_option maxRecDepth 10000 in
theorem wm_19 : ∀ w ∈ WD_19, w ∈ lw_tbl := (List.forall_mem_cons.mpr ⟨tb_4 _ (List.mem_of_getElem? (i := 154) rfl), (List.forall_mem_cons.mpr ⟨tb_4 _ (List.mem_of_getElem? (i := 156) rfl), (List.forall_mem_cons.mpr ⟨tb_4 _ (List.mem_of_getElem? (i := 157) rfl), (List.forall_mem_cons.mpr ⟨tb_4 _ (List.mem_of_getElem? (i := 158) rfl), (List.forall_mem_cons.mpr ⟨tb_4 _ (List.mem_of_getElem? (i := 159) rfl), (List.forall_mem_cons.mpr ⟨tb_4 _ (List.mem_of_getElem? (i := 160) rfl), (List.forall_mem_cons.mpr ⟨tb_4 _ (List.mem_of_getElem? (i := 161) rfl), (List.forall_mem_cons.mpr ⟨tb_4 _ (List.mem_of_getElem? (i := 162) rfl), (List.forall_mem_cons.mpr ⟨tb_4 _ (List.mem_of_getElem? (i := 163) rfl), (List.forall_mem_cons.mpr ⟨tb_4 _ (List.mem_of_getElem? (i := 165) rfl), (List.forall_mem_cons.mpr ⟨tb_4 _ (List.mem_of_getElem? (i := 166) rfl), (List.forall_mem_cons.mpr ⟨tb_4 _ (List.mem_of_getElem? (i := 167) rfl), (List.forall_mem_cons.mpr ⟨tb_4 _ (List.mem_of_getElem? (i := 168) rfl), (List.forall_mem_cons.mpr ⟨tb_4 _ (List.mem_of_getElem? (i := 169) rfl), (List.forall_mem_cons.mpr ⟨tb_4 _ (List.mem_of_getElem? (i := 170) rfl), (List.forall_mem_cons.mpr ⟨tb_4 _ (List.mem_of_getElem? (i := 171) rfl), (List.forall_mem_cons.mpr ⟨tb_4 _ (List.mem_of_getElem? (i := 173) rfl), (List.forall_mem_cons.mpr ⟨tb_4 _ (List.mem_of_getElem? (i := 174) rfl), (List.forall_mem_cons.mpr ⟨tb_4 _ (List.mem_of_getElem? (i := 175) rfl), (List.forall_mem_cons.mpr ⟨tb_4 _ (List.mem_of_getElem? (i := 176) rfl), (List.forall_mem_cons.mpr ⟨tb_4 _ (List.mem_of_getElem? (i := 177) rfl), (List.forall_mem_cons.mpr ⟨tb_4 _ (List.mem_of_getElem? (i := 178) rfl), (List.forall_mem_cons.mpr ⟨tb_4 _ (List.mem_of_getElem? (i := 179) rfl), (List.forall_mem_cons.mpr ⟨tb_4 _ (List.mem_of_getElem? (i := 181) rfl), (List.forall_mem_cons.mpr ⟨tb_4 _ (List.mem_of_getElem? (i := 182) rfl), (List.forall_mem_cons.mpr ⟨tb_4 _ (List.mem_of_getElem? (i := 183) rfl), (List.forall_mem_cons.mpr ⟨tb_4 _ (List.mem_of_getElem? (i := 185) rfl), (List.forall_mem_cons.mpr ⟨tb_4 _ (List.mem_of_getElem? (i := 186) rfl), (List.forall_mem_cons.mpr ⟨tb_4 _ (List.mem_of_getElem? (i := 187) rfl), (List.forall_mem_cons.mpr ⟨tb_4 _ (List.mem_of_getElem? (i := 189) rfl), (List.forall_mem_cons.mpr ⟨tb_4 _ (List.mem_of_getElem? (i := 190) rfl), (List.forall_mem_cons.mpr ⟨tb_4 _ (List.mem_of_getElem? (i := 191) rfl), (List.forall_mem_cons.mpr ⟨tb_4 _ (List.mem_of_getElem? (i := 193) rfl), (List.forall_mem_cons.mpr ⟨tb_4 _ (List.mem_of_getElem? (i := 194) rfl), (List.forall_mem_cons.mpr ⟨tb_4 _ (List.mem_of_getElem? (i := 195) rfl), (List.forall_mem_cons.mpr ⟨tb_4 _ (List.mem_of_getElem? (i := 196) rfl), (List.forall_mem_cons.mpr ⟨tb_4 _ (List.mem_of_getElem? (i := 197) rfl), (List.forall_mem_cons.mpr ⟨tb_4 _ (List.mem_of_getElem? (i := 198) rfl), (List.forall_mem_cons.mpr ⟨tb_4 _ (List.mem_of_getElem? (i := 199) rfl), (List.forall_mem_cons.mpr ⟨tb_4 _ (List.mem_of_getElem? (i := 200) rfl), (fun _ q => by cases q)⟩)⟩)⟩)⟩)⟩)⟩)⟩)⟩)⟩)⟩)⟩)⟩)⟩)⟩)⟩)⟩)⟩)⟩)⟩)⟩)⟩)⟩)⟩)⟩)⟩)⟩)⟩)⟩)⟩)⟩)⟩)⟩)⟩)⟩)⟩)⟩)⟩)⟩)⟩)⟩)
theorem wd_19 : ∀ w ∈ WD_19, w ∈ lw_tbl ∧ goodWord w = true := fun w hw => ⟨wm_19 w hw, wg_19 w hw⟩
def WD_20 : List Cond := [Cond.selects RX7 yX7_loan yX7_loan, Cond.code yX7_loan cX7_loan 2 (some .int), Cond.methodLink RL 63 yX7_lend, Cond.instanceMethod yX7_lend, Cond.selects RX7 yX7_lend yX7_lend, Cond.code yX7_lend cX7_lend 3 (some .int), Cond.constant RX7 126 (-1000000005), Cond.methodLink RX7 120 yX7_bits, Cond.static yX7_bits, Cond.code yX7_bits cX7_bits 3 (some .int), Cond.methodLink RX7 123 yX7_hasPair, Cond.instanceMethod yX7_hasPair, Cond.code yX7_hasPair cX7_hasPair 5 (some .boolean), Cond.methodLink RX7 127 yX7_lends, Cond.instanceMethod yX7_lends, Cond.code yX7_lends cX7_lends 3 none, Cond.methodLink RL 67 yX7_back, Cond.instanceMethod yX7_back, Cond.selects RX7 yX7_back yX7_back, Cond.code yX7_back cX7_back 3 (some .int), Cond.methodLink RL 71 yX7_use, Cond.instanceMethod yX7_use, Cond.selects RX7 yX7_use yX7_use, Cond.code yX7_use cX7_use 4 (some .int), Cond.methodLink RX7 131 yX7_wearsBy, Cond.instanceMethod yX7_wearsBy, Cond.code yX7_wearsBy cX7_wearsBy 2 none, Cond.methodLink RX7 64 yX7_held, Cond.static yX7_held, Cond.code yX7_held cX7_held 3 (some .int), Cond.methodLink RL 75 yX7_days, Cond.instanceMethod yX7_days, Cond.selects RX7 yX7_days yX7_days, Cond.code yX7_days cX7_days 2 (some .int), Cond.methodLink RX7 137 yX7_passes, Cond.instanceMethod yX7_passes, Cond.code yX7_passes cX7_passes 3 none, Cond.methodLink RX7 134 yX7_oneDay, Cond.instanceMethod yX7_oneDay, Cond.code yX7_oneDay cX7_oneDay 3 none]
theorem wg_20 : ∀ w ∈ WD_20, goodWord w = true := by decide +kernel
set_option maxRecDepth 10000 in
theorem wm_20 : ∀ w ∈ WD_20, w ∈ lw_tbl := (List.forall_mem_cons.mpr ⟨tb_4 _ (List.mem_of_getElem? (i := 201) rfl), (List.forall_mem_cons.mpr ⟨tb_4 _ (List.mem_of_getElem? (i := 202) rfl), (List.forall_mem_cons.mpr ⟨tb_4 _ (List.mem_of_getElem? (i := 203) rfl), (List.forall_mem_cons.mpr ⟨tb_4 _ (List.mem_of_getElem? (i := 204) rfl), (List.forall_mem_cons.mpr ⟨tb_4 _ (List.mem_of_getElem? (i := 205) rfl), (List.forall_mem_cons.mpr ⟨tb_4 _ (List.mem_of_getElem? (i := 206) rfl), (List.forall_mem_cons.mpr ⟨tb_4 _ (List.mem_of_getElem? (i := 207) rfl), (List.forall_mem_cons.mpr ⟨tb_4 _ (List.mem_of_getElem? (i := 208) rfl), (List.forall_mem_cons.mpr ⟨tb_4 _ (List.mem_of_getElem? (i := 209) rfl), (List.forall_mem_cons.mpr ⟨tb_4 _ (List.mem_of_getElem? (i := 210) rfl), (List.forall_mem_cons.mpr ⟨tb_4 _ (List.mem_of_getElem? (i := 211) rfl), (List.forall_mem_cons.mpr ⟨tb_4 _ (List.mem_of_getElem? (i := 213) rfl), (List.forall_mem_cons.mpr ⟨tb_4 _ (List.mem_of_getElem? (i := 214) rfl), (List.forall_mem_cons.mpr ⟨tb_4 _ (List.mem_of_getElem? (i := 215) rfl), (List.forall_mem_cons.mpr ⟨tb_4 _ (List.mem_of_getElem? (i := 217) rfl), (List.forall_mem_cons.mpr ⟨tb_4 _ (List.mem_of_getElem? (i := 218) rfl), (List.forall_mem_cons.mpr ⟨tb_4 _ (List.mem_of_getElem? (i := 219) rfl), (List.forall_mem_cons.mpr ⟨tb_4 _ (List.mem_of_getElem? (i := 220) rfl), (List.forall_mem_cons.mpr ⟨tb_4 _ (List.mem_of_getElem? (i := 221) rfl), (List.forall_mem_cons.mpr ⟨tb_4 _ (List.mem_of_getElem? (i := 222) rfl), (List.forall_mem_cons.mpr ⟨tb_4 _ (List.mem_of_getElem? (i := 223) rfl), (List.forall_mem_cons.mpr ⟨tb_4 _ (List.mem_of_getElem? (i := 224) rfl), (List.forall_mem_cons.mpr ⟨tb_4 _ (List.mem_of_getElem? (i := 225) rfl), (List.forall_mem_cons.mpr ⟨tb_4 _ (List.mem_of_getElem? (i := 226) rfl), (List.forall_mem_cons.mpr ⟨tb_4 _ (List.mem_of_getElem? (i := 227) rfl), (List.forall_mem_cons.mpr ⟨tb_4 _ (List.mem_of_getElem? (i := 229) rfl), (List.forall_mem_cons.mpr ⟨tb_4 _ (List.mem_of_getElem? (i := 230) rfl), (List.forall_mem_cons.mpr ⟨tb_4 _ (List.mem_of_getElem? (i := 231) rfl), (List.forall_mem_cons.mpr ⟨tb_4 _ (List.mem_of_getElem? (i := 232) rfl), (List.forall_mem_cons.mpr ⟨tb_4 _ (List.mem_of_getElem? (i := 233) rfl), (List.forall_mem_cons.mpr ⟨tb_4 _ (List.mem_of_getElem? (i := 234) rfl), (List.forall_mem_cons.mpr ⟨tb_4 _ (List.mem_of_getElem? (i := 235) rfl), (List.forall_mem_cons.mpr ⟨tb_4 _ (List.mem_of_getElem? (i := 236) rfl), (List.forall_mem_cons.mpr ⟨tb_4 _ (List.mem_of_getElem? (i := 237) rfl), (List.forall_mem_cons.mpr ⟨tb_4 _ (List.mem_of_getElem? (i := 238) rfl), (List.forall_mem_cons.mpr ⟨tb_5 _ (List.mem_of_getElem? (i := 0) rfl), (List.forall_mem_cons.mpr ⟨tb_5 _ (List.mem_of_getElem? (i := 1) rfl), (List.forall_mem_cons.mpr ⟨tb_5 _ (List.mem_of_getElem? (i := 2) rfl), (List.forall_mem_cons.mpr ⟨tb_5 _ (List.mem_of_getElem? (i := 4) rfl), (List.forall_mem_cons.mpr ⟨tb_5 _ (List.mem_of_getElem? (i := 5) rfl), (fun _ q => by cases q)⟩)⟩)⟩)⟩)⟩)⟩)⟩)⟩)⟩)⟩)⟩)⟩)⟩)⟩)⟩)⟩)⟩)⟩)⟩)⟩)⟩)⟩)⟩)⟩)⟩)⟩)⟩)⟩)⟩)⟩)⟩)⟩)⟩)⟩)⟩)⟩)⟩)⟩)⟩)⟩)
theorem wd_20 : ∀ w ∈ WD_20, w ∈ lw_tbl ∧ goodWord w = true := fun w hw => ⟨wm_20 w hw, wg_20 w hw⟩
def WD_21 : List Cond := [Cond.methodLink RX7 140 yX7_finesAll, Cond.instanceMethod yX7_finesAll, Cond.code yX7_finesAll cX7_finesAll 3 (some .int), Cond.methodLink RL 79 yX7_now, Cond.instanceMethod yX7_now, Cond.selects RX7 yX7_now yX7_now, Cond.code yX7_now cX7_now 2 (some .int), Cond.methodLink RX7 144 yX7_lentSet, Cond.instanceMethod yX7_lentSet, Cond.code yX7_lentSet cX7_lentSet 3 (some .int), Cond.methodLink RX7 147 yX7_lateSet, Cond.instanceMethod yX7_lateSet, Cond.code yX7_lateSet cX7_lateSet 3 (some .int), Cond.methodLink RX7 150 yX7_wearAll, Cond.instanceMethod yX7_wearAll, Cond.code yX7_wearAll cX7_wearAll 3 (some .int), Cond.methodLink RL 83 yX7_on, Cond.instanceMethod yX7_on, Cond.selects RX7 yX7_on yX7_on, Cond.code yX7_on cX7_on 5 (some .int), Cond.methodLink RX7 159 yX7_moveAll, Cond.instanceMethod yX7_moveAll, Cond.code yX7_moveAll cX7_moveAll 4 none, Cond.methodLink RX7 156 yX7_reachOf, Cond.instanceMethod yX7_reachOf, Cond.code yX7_reachOf cX7_reachOf 4 (some .int), Cond.methodLink RX7 153 yX7_oneMore, Cond.instanceMethod yX7_oneMore, Cond.code yX7_oneMore cX7_oneMore 6 (some .int), Cond.methodLink RL 87 yX7_late, Cond.instanceMethod yX7_late, Cond.selects RX7 yX7_late yX7_late, Cond.code yX7_late cX7_late 3 (some .int), Cond.methodLink RL 91 yX7_reach, Cond.instanceMethod yX7_reach, Cond.selects RX7 yX7_reach yX7_reach, Cond.code yX7_reach cX7_reach 2 (some .int), Cond.methodLink RL 95 yX7_way, Cond.instanceMethod yX7_way, Cond.selects RX7 yX7_way yX7_way]
theorem wg_21 : ∀ w ∈ WD_21, goodWord w = true := by decide +kernel
set_option maxRecDepth 10000 in
theorem wm_21 : ∀ w ∈ WD_21, w ∈ lw_tbl := (List.forall_mem_cons.mpr ⟨tb_5 _ (List.mem_of_getElem? (i := 6) rfl), (List.forall_mem_cons.mpr ⟨tb_5 _ (List.mem_of_getElem? (i := 8) rfl), (List.forall_mem_cons.mpr ⟨tb_5 _ (List.mem_of_getElem? (i := 9) rfl), (List.forall_mem_cons.mpr ⟨tb_5 _ (List.mem_of_getElem? (i := 10) rfl), (List.forall_mem_cons.mpr ⟨tb_5 _ (List.mem_of_getElem? (i := 11) rfl), (List.forall_mem_cons.mpr ⟨tb_5 _ (List.mem_of_getElem? (i := 12) rfl), (List.forall_mem_cons.mpr ⟨tb_5 _ (List.mem_of_getElem? (i := 13) rfl), (List.forall_mem_cons.mpr ⟨tb_5 _ (List.mem_of_getElem? (i := 14) rfl), (List.forall_mem_cons.mpr ⟨tb_5 _ (List.mem_of_getElem? (i := 16) rfl), (List.forall_mem_cons.mpr ⟨tb_5 _ (List.mem_of_getElem? (i := 17) rfl), (List.forall_mem_cons.mpr ⟨tb_5 _ (List.mem_of_getElem? (i := 18) rfl), (List.forall_mem_cons.mpr ⟨tb_5 _ (List.mem_of_getElem? (i := 20) rfl), (List.forall_mem_cons.mpr ⟨tb_5 _ (List.mem_of_getElem? (i := 21) rfl), (List.forall_mem_cons.mpr ⟨tb_5 _ (List.mem_of_getElem? (i := 22) rfl), (List.forall_mem_cons.mpr ⟨tb_5 _ (List.mem_of_getElem? (i := 24) rfl), (List.forall_mem_cons.mpr ⟨tb_5 _ (List.mem_of_getElem? (i := 25) rfl), (List.forall_mem_cons.mpr ⟨tb_5 _ (List.mem_of_getElem? (i := 26) rfl), (List.forall_mem_cons.mpr ⟨tb_5 _ (List.mem_of_getElem? (i := 27) rfl), (List.forall_mem_cons.mpr ⟨tb_5 _ (List.mem_of_getElem? (i := 28) rfl), (List.forall_mem_cons.mpr ⟨tb_5 _ (List.mem_of_getElem? (i := 29) rfl), (List.forall_mem_cons.mpr ⟨tb_5 _ (List.mem_of_getElem? (i := 30) rfl), (List.forall_mem_cons.mpr ⟨tb_5 _ (List.mem_of_getElem? (i := 32) rfl), (List.forall_mem_cons.mpr ⟨tb_5 _ (List.mem_of_getElem? (i := 33) rfl), (List.forall_mem_cons.mpr ⟨tb_5 _ (List.mem_of_getElem? (i := 34) rfl), (List.forall_mem_cons.mpr ⟨tb_5 _ (List.mem_of_getElem? (i := 36) rfl), (List.forall_mem_cons.mpr ⟨tb_5 _ (List.mem_of_getElem? (i := 37) rfl), (List.forall_mem_cons.mpr ⟨tb_5 _ (List.mem_of_getElem? (i := 38) rfl), (List.forall_mem_cons.mpr ⟨tb_5 _ (List.mem_of_getElem? (i := 40) rfl), (List.forall_mem_cons.mpr ⟨tb_5 _ (List.mem_of_getElem? (i := 41) rfl), (List.forall_mem_cons.mpr ⟨tb_5 _ (List.mem_of_getElem? (i := 42) rfl), (List.forall_mem_cons.mpr ⟨tb_5 _ (List.mem_of_getElem? (i := 43) rfl), (List.forall_mem_cons.mpr ⟨tb_5 _ (List.mem_of_getElem? (i := 44) rfl), (List.forall_mem_cons.mpr ⟨tb_5 _ (List.mem_of_getElem? (i := 45) rfl), (List.forall_mem_cons.mpr ⟨tb_5 _ (List.mem_of_getElem? (i := 46) rfl), (List.forall_mem_cons.mpr ⟨tb_5 _ (List.mem_of_getElem? (i := 47) rfl), (List.forall_mem_cons.mpr ⟨tb_5 _ (List.mem_of_getElem? (i := 48) rfl), (List.forall_mem_cons.mpr ⟨tb_5 _ (List.mem_of_getElem? (i := 49) rfl), (List.forall_mem_cons.mpr ⟨tb_5 _ (List.mem_of_getElem? (i := 50) rfl), (List.forall_mem_cons.mpr ⟨tb_5 _ (List.mem_of_getElem? (i := 51) rfl), (List.forall_mem_cons.mpr ⟨tb_5 _ (List.mem_of_getElem? (i := 52) rfl), (fun _ q => by cases q)⟩)⟩)⟩)⟩)⟩)⟩)⟩)⟩)⟩)⟩)⟩)⟩)⟩)⟩)⟩)⟩)⟩)⟩)⟩)⟩)⟩)⟩)⟩)⟩)⟩)⟩)⟩)⟩)⟩)⟩)⟩)⟩)⟩)⟩)⟩)⟩)⟩)⟩)⟩)⟩)
theorem wd_21 : ∀ w ∈ WD_21, w ∈ lw_tbl ∧ goodWord w = true := fun w hw => ⟨wm_21 w hw, wg_21 w hw⟩
def WD_22 : List Cond := [Cond.code yX7_way cX7_way 4 (some .int), Cond.methodLink RX7 163 yX7_far, Cond.instanceMethod yX7_far, Cond.code yX7_far cX7_far 8 (some .int), Cond.methodLink RL 99 yX7_next, Cond.instanceMethod yX7_next, Cond.selects RX7 yX7_next yX7_next, Cond.code yX7_next cX7_next 7 (some .int), Cond.methodLink RL 103 yX7_wanted, Cond.instanceMethod yX7_wanted, Cond.selects RX7 yX7_wanted yX7_wanted, Cond.code yX7_wanted cX7_wanted 5 (some .int), Cond.methodLink RX7 166 yX7_comes, Cond.instanceMethod yX7_comes, Cond.code yX7_comes cX7_comes 3 (some .boolean), Cond.methodLink RX7 169 yX7_mayHave, Cond.instanceMethod yX7_mayHave, Cond.code yX7_mayHave cX7_mayHave 3 (some .boolean), Cond.methodLink RL 107 yX7_two, Cond.instanceMethod yX7_two, Cond.selects RX7 yX7_two yX7_two, Cond.code yX7_two cX7_two 6 (some .int), Cond.methodLink RL 111 yX7_meet, Cond.instanceMethod yX7_meet, Cond.selects RX7 yX7_meet yX7_meet, Cond.code yX7_meet cX7_meet 4 (some .int), Cond.methodLink RL 115 yX7_kind, Cond.instanceMethod yX7_kind, Cond.selects RX7 yX7_kind yX7_kind, Cond.code yX7_kind cX7_kind 8 (some .int), Cond.methodLink RL 119 yX7_least, Cond.instanceMethod yX7_least, Cond.selects RX7 yX7_least yX7_least, Cond.code yX7_least cX7_least 6 (some .int), Cond.methodLink RL 123 yX7_uses, Cond.instanceMethod yX7_uses, Cond.selects RX7 yX7_uses yX7_uses, Cond.code yX7_uses cX7_uses 6 (some .int), Cond.methodLink RL 127 yX7_feed, Cond.instanceMethod yX7_feed]
theorem wg_22 : ∀ w ∈ WD_22, goodWord w = true := by decide +kernel
set_option maxRecDepth 10000 in
theorem wm_22 : ∀ w ∈ WD_22, w ∈ lw_tbl := (List.forall_mem_cons.mpr ⟨tb_5 _ (List.mem_of_getElem? (i := 53) rfl), (List.forall_mem_cons.mpr ⟨tb_5 _ (List.mem_of_getElem? (i := 54) rfl), (List.forall_mem_cons.mpr ⟨tb_5 _ (List.mem_of_getElem? (i := 56) rfl), (List.forall_mem_cons.mpr ⟨tb_5 _ (List.mem_of_getElem? (i := 57) rfl), (List.forall_mem_cons.mpr ⟨tb_5 _ (List.mem_of_getElem? (i := 58) rfl), (List.forall_mem_cons.mpr ⟨tb_5 _ (List.mem_of_getElem? (i := 59) rfl), (List.forall_mem_cons.mpr ⟨tb_5 _ (List.mem_of_getElem? (i := 60) rfl), (List.forall_mem_cons.mpr ⟨tb_5 _ (List.mem_of_getElem? (i := 61) rfl), (List.forall_mem_cons.mpr ⟨tb_5 _ (List.mem_of_getElem? (i := 62) rfl), (List.forall_mem_cons.mpr ⟨tb_5 _ (List.mem_of_getElem? (i := 63) rfl), (List.forall_mem_cons.mpr ⟨tb_5 _ (List.mem_of_getElem? (i := 64) rfl), (List.forall_mem_cons.mpr ⟨tb_5 _ (List.mem_of_getElem? (i := 65) rfl), (List.forall_mem_cons.mpr ⟨tb_5 _ (List.mem_of_getElem? (i := 66) rfl), (List.forall_mem_cons.mpr ⟨tb_5 _ (List.mem_of_getElem? (i := 68) rfl), (List.forall_mem_cons.mpr ⟨tb_5 _ (List.mem_of_getElem? (i := 69) rfl), (List.forall_mem_cons.mpr ⟨tb_5 _ (List.mem_of_getElem? (i := 70) rfl), (List.forall_mem_cons.mpr ⟨tb_5 _ (List.mem_of_getElem? (i := 72) rfl), (List.forall_mem_cons.mpr ⟨tb_5 _ (List.mem_of_getElem? (i := 73) rfl), (List.forall_mem_cons.mpr ⟨tb_5 _ (List.mem_of_getElem? (i := 74) rfl), (List.forall_mem_cons.mpr ⟨tb_5 _ (List.mem_of_getElem? (i := 75) rfl), (List.forall_mem_cons.mpr ⟨tb_5 _ (List.mem_of_getElem? (i := 76) rfl), (List.forall_mem_cons.mpr ⟨tb_5 _ (List.mem_of_getElem? (i := 77) rfl), (List.forall_mem_cons.mpr ⟨tb_5 _ (List.mem_of_getElem? (i := 78) rfl), (List.forall_mem_cons.mpr ⟨tb_5 _ (List.mem_of_getElem? (i := 79) rfl), (List.forall_mem_cons.mpr ⟨tb_5 _ (List.mem_of_getElem? (i := 80) rfl), (List.forall_mem_cons.mpr ⟨tb_5 _ (List.mem_of_getElem? (i := 81) rfl), (List.forall_mem_cons.mpr ⟨tb_5 _ (List.mem_of_getElem? (i := 82) rfl), (List.forall_mem_cons.mpr ⟨tb_5 _ (List.mem_of_getElem? (i := 83) rfl), (List.forall_mem_cons.mpr ⟨tb_5 _ (List.mem_of_getElem? (i := 84) rfl), (List.forall_mem_cons.mpr ⟨tb_5 _ (List.mem_of_getElem? (i := 85) rfl), (List.forall_mem_cons.mpr ⟨tb_5 _ (List.mem_of_getElem? (i := 86) rfl), (List.forall_mem_cons.mpr ⟨tb_5 _ (List.mem_of_getElem? (i := 87) rfl), (List.forall_mem_cons.mpr ⟨tb_5 _ (List.mem_of_getElem? (i := 88) rfl), (List.forall_mem_cons.mpr ⟨tb_5 _ (List.mem_of_getElem? (i := 89) rfl), (List.forall_mem_cons.mpr ⟨tb_5 _ (List.mem_of_getElem? (i := 90) rfl), (List.forall_mem_cons.mpr ⟨tb_5 _ (List.mem_of_getElem? (i := 91) rfl), (List.forall_mem_cons.mpr ⟨tb_5 _ (List.mem_of_getElem? (i := 92) rfl), (List.forall_mem_cons.mpr ⟨tb_5 _ (List.mem_of_getElem? (i := 93) rfl), (List.forall_mem_cons.mpr ⟨tb_5 _ (List.mem_of_getElem? (i := 94) rfl), (List.forall_mem_cons.mpr ⟨tb_5 _ (List.mem_of_getElem? (i := 95) rfl), (fun _ q => by cases q)⟩)⟩)⟩)⟩)⟩)⟩)⟩)⟩)⟩)⟩)⟩)⟩)⟩)⟩)⟩)⟩)⟩)⟩)⟩)⟩)⟩)⟩)⟩)⟩)⟩)⟩)⟩)⟩)⟩)⟩)⟩)⟩)⟩)⟩)⟩)⟩)⟩)⟩)⟩)⟩)
theorem wd_22 : ∀ w ∈ WD_22, w ∈ lw_tbl ∧ goodWord w = true := fun w hw => ⟨wm_22 w hw, wg_22 w hw⟩
def WD_23 : List Cond := [Cond.selects RX7 yX7_feed yX7_feed, Cond.code yX7_feed cX7_feed 4 (some .int), Cond.methodLink RL 132 yX7_wipe, Cond.instanceMethod yX7_wipe, Cond.selects RX7 yX7_wipe yX7_wipe, Cond.code yX7_wipe cX7_wipe 2 (some .int), Cond.methodLink RL 136 yX7_house, Cond.instanceMethod yX7_house, Cond.selects RX7 yX7_house yX7_house, Cond.code yX7_house cX7_house 3 (some .int), Cond.methodLink RX7 227 yX7_advance, Cond.instanceMethod yX7_advance, Cond.code yX7_advance cX7_advance 2 none, Cond.methodLink RX7 182 yX7_byteAt, Cond.instanceMethod yX7_byteAt, Cond.code yX7_byteAt cX7_byteAt 2 (some .int), Cond.methodLink RX7 185 yX7_isLetter, Cond.static yX7_isLetter, Cond.code yX7_isLetter cX7_isLetter 1 (some .boolean), Cond.methodLink RX7 188 yX7_isDigit, Cond.static yX7_isDigit, Cond.code yX7_isDigit cX7_isDigit 1 (some .boolean), Cond.constantLong RX7 201 27, Cond.constantLong RX7 203 96, Cond.constantLong RX7 205 (-1), Cond.methodLink RX7 262 yX7_wantItem, Cond.instanceMethod yX7_wantItem, Cond.code yX7_wantItem cX7_wantItem 2 none, Cond.methodLink RX7 249 yX7_kindHere, Cond.instanceMethod yX7_kindHere, Cond.code yX7_kindHere cX7_kindHere 1 (some .int), Cond.constantLong RX7 207 115601504, Cond.methodLink RX7 209 yX7_isWord, Cond.instanceMethod yX7_isWord, Cond.code yX7_isWord cX7_isWord 3 (some .boolean), Cond.constantLong RX7 213 1418437, Cond.constantLong RX7 215 50684, Cond.constantLong RX7 217 365666, Cond.constantLong RX7 219 227126, Cond.constantLong RX7 221 6411644]
theorem wg_23 : ∀ w ∈ WD_23, goodWord w = true := by decide +kernel
set_option maxRecDepth 10000 in
theorem wm_23 : ∀ w ∈ WD_23, w ∈ lw_tbl := (List.forall_mem_cons.mpr ⟨tb_5 _ (List.mem_of_getElem? (i := 96) rfl), (List.forall_mem_cons.mpr ⟨tb_5 _ (List.mem_of_getElem? (i := 97) rfl), (List.forall_mem_cons.mpr ⟨tb_5 _ (List.mem_of_getElem? (i := 98) rfl), (List.forall_mem_cons.mpr ⟨tb_5 _ (List.mem_of_getElem? (i := 99) rfl), (List.forall_mem_cons.mpr ⟨tb_5 _ (List.mem_of_getElem? (i := 100) rfl), (List.forall_mem_cons.mpr ⟨tb_5 _ (List.mem_of_getElem? (i := 101) rfl), (List.forall_mem_cons.mpr ⟨tb_5 _ (List.mem_of_getElem? (i := 102) rfl), (List.forall_mem_cons.mpr ⟨tb_5 _ (List.mem_of_getElem? (i := 103) rfl), (List.forall_mem_cons.mpr ⟨tb_5 _ (List.mem_of_getElem? (i := 104) rfl), (List.forall_mem_cons.mpr ⟨tb_5 _ (List.mem_of_getElem? (i := 105) rfl), (List.forall_mem_cons.mpr ⟨tb_5 _ (List.mem_of_getElem? (i := 106) rfl), (List.forall_mem_cons.mpr ⟨tb_5 _ (List.mem_of_getElem? (i := 108) rfl), (List.forall_mem_cons.mpr ⟨tb_5 _ (List.mem_of_getElem? (i := 109) rfl), (List.forall_mem_cons.mpr ⟨tb_5 _ (List.mem_of_getElem? (i := 110) rfl), (List.forall_mem_cons.mpr ⟨tb_5 _ (List.mem_of_getElem? (i := 112) rfl), (List.forall_mem_cons.mpr ⟨tb_5 _ (List.mem_of_getElem? (i := 113) rfl), (List.forall_mem_cons.mpr ⟨tb_5 _ (List.mem_of_getElem? (i := 114) rfl), (List.forall_mem_cons.mpr ⟨tb_5 _ (List.mem_of_getElem? (i := 115) rfl), (List.forall_mem_cons.mpr ⟨tb_5 _ (List.mem_of_getElem? (i := 116) rfl), (List.forall_mem_cons.mpr ⟨tb_5 _ (List.mem_of_getElem? (i := 117) rfl), (List.forall_mem_cons.mpr ⟨tb_5 _ (List.mem_of_getElem? (i := 118) rfl), (List.forall_mem_cons.mpr ⟨tb_5 _ (List.mem_of_getElem? (i := 119) rfl), (List.forall_mem_cons.mpr ⟨tb_5 _ (List.mem_of_getElem? (i := 120) rfl), (List.forall_mem_cons.mpr ⟨tb_5 _ (List.mem_of_getElem? (i := 121) rfl), (List.forall_mem_cons.mpr ⟨tb_5 _ (List.mem_of_getElem? (i := 122) rfl), (List.forall_mem_cons.mpr ⟨tb_5 _ (List.mem_of_getElem? (i := 123) rfl), (List.forall_mem_cons.mpr ⟨tb_5 _ (List.mem_of_getElem? (i := 125) rfl), (List.forall_mem_cons.mpr ⟨tb_5 _ (List.mem_of_getElem? (i := 126) rfl), (List.forall_mem_cons.mpr ⟨tb_5 _ (List.mem_of_getElem? (i := 127) rfl), (List.forall_mem_cons.mpr ⟨tb_5 _ (List.mem_of_getElem? (i := 129) rfl), (List.forall_mem_cons.mpr ⟨tb_5 _ (List.mem_of_getElem? (i := 130) rfl), (List.forall_mem_cons.mpr ⟨tb_5 _ (List.mem_of_getElem? (i := 131) rfl), (List.forall_mem_cons.mpr ⟨tb_5 _ (List.mem_of_getElem? (i := 132) rfl), (List.forall_mem_cons.mpr ⟨tb_5 _ (List.mem_of_getElem? (i := 134) rfl), (List.forall_mem_cons.mpr ⟨tb_5 _ (List.mem_of_getElem? (i := 135) rfl), (List.forall_mem_cons.mpr ⟨tb_5 _ (List.mem_of_getElem? (i := 136) rfl), (List.forall_mem_cons.mpr ⟨tb_5 _ (List.mem_of_getElem? (i := 137) rfl), (List.forall_mem_cons.mpr ⟨tb_5 _ (List.mem_of_getElem? (i := 138) rfl), (List.forall_mem_cons.mpr ⟨tb_5 _ (List.mem_of_getElem? (i := 139) rfl), (List.forall_mem_cons.mpr ⟨tb_5 _ (List.mem_of_getElem? (i := 140) rfl), (fun _ q => by cases q)⟩)⟩)⟩)⟩)⟩)⟩)⟩)⟩)⟩)⟩)⟩)⟩)⟩)⟩)⟩)⟩)⟩)⟩)⟩)⟩)⟩)⟩)⟩)⟩)⟩)⟩)⟩)⟩)⟩)⟩)⟩)⟩)⟩)⟩)⟩)⟩)⟩)⟩)⟩)⟩)
theorem wd_23 : ∀ w ∈ WD_23, w ∈ lw_tbl ∧ goodWord w = true := fun w hw => ⟨wm_23 w hw, wg_23 w hw⟩
def WD_24 : List Cond := [Cond.methodLink RX7 252 yX7_wantHandle, Cond.instanceMethod yX7_wantHandle, Cond.code yX7_wantHandle cX7_wantHandle 5 none, Cond.constantLong RX7 233 131638, Cond.methodLink RX7 235 yX7_wantWord, Cond.instanceMethod yX7_wantWord, Cond.code yX7_wantWord cX7_wantWord 3 none, Cond.methodLink RX7 230 yX7_wantNumber, Cond.instanceMethod yX7_wantNumber, Cond.code yX7_wantNumber cX7_wantNumber 4 (some .int), Cond.constantLong RX7 239 555, Cond.constantLong RX7 241 456399, Cond.methodLink RX7 243 yX7_mayWant, Cond.instanceMethod yX7_mayWant, Cond.code yX7_mayWant cX7_mayWant 6 (some .int), Cond.constantLong RX7 255 189450486, Cond.methodLink RX7 257 yX7_wantMember, Cond.instanceMethod yX7_wantMember, Cond.code yX7_wantMember cX7_wantMember 2 none, Cond.constantLong RX7 247 47, Cond.constantLong RX7 260 247172, Cond.methodLink RL 140 yX7_sheet, Cond.instanceMethod yX7_sheet, Cond.selects RX7 yX7_sheet yX7_sheet, Cond.code yX7_sheet cX7_sheet 5 (some .int), Cond.methodLink RX7 265 yX7_isSheet, Cond.static yX7_isSheet, Cond.code yX7_isSheet cX7_isSheet 1 (some .boolean), Cond.constant RX7 268 (-1000000007), Cond.methodLink RL 147 yX7_write, Cond.instanceMethod yX7_write, Cond.selects RX7 yX7_write yX7_write, Cond.code yX7_write cX7_write 7 (some .long), Cond.constant RX7 269 (-1000000006), Cond.methodLink RX7 270 yX7_narrow, Cond.static yX7_narrow, Cond.code yX7_narrow cX7_narrow 3 (some .long), Cond.methodLink RL 152 yX7_copy, Cond.instanceMethod yX7_copy, Cond.selects RX7 yX7_copy yX7_copy]
theorem wg_24 : ∀ w ∈ WD_24, goodWord w = true := by decide +kernel
set_option maxRecDepth 10000 in
theorem wm_24 : ∀ w ∈ WD_24, w ∈ lw_tbl := (List.forall_mem_cons.mpr ⟨tb_5 _ (List.mem_of_getElem? (i := 141) rfl), (List.forall_mem_cons.mpr ⟨tb_5 _ (List.mem_of_getElem? (i := 143) rfl), (List.forall_mem_cons.mpr ⟨tb_5 _ (List.mem_of_getElem? (i := 144) rfl), (List.forall_mem_cons.mpr ⟨tb_5 _ (List.mem_of_getElem? (i := 145) rfl), (List.forall_mem_cons.mpr ⟨tb_5 _ (List.mem_of_getElem? (i := 146) rfl), (List.forall_mem_cons.mpr ⟨tb_5 _ (List.mem_of_getElem? (i := 148) rfl), (List.forall_mem_cons.mpr ⟨tb_5 _ (List.mem_of_getElem? (i := 149) rfl), (List.forall_mem_cons.mpr ⟨tb_5 _ (List.mem_of_getElem? (i := 150) rfl), (List.forall_mem_cons.mpr ⟨tb_5 _ (List.mem_of_getElem? (i := 152) rfl), (List.forall_mem_cons.mpr ⟨tb_5 _ (List.mem_of_getElem? (i := 153) rfl), (List.forall_mem_cons.mpr ⟨tb_5 _ (List.mem_of_getElem? (i := 154) rfl), (List.forall_mem_cons.mpr ⟨tb_5 _ (List.mem_of_getElem? (i := 155) rfl), (List.forall_mem_cons.mpr ⟨tb_5 _ (List.mem_of_getElem? (i := 156) rfl), (List.forall_mem_cons.mpr ⟨tb_5 _ (List.mem_of_getElem? (i := 158) rfl), (List.forall_mem_cons.mpr ⟨tb_5 _ (List.mem_of_getElem? (i := 159) rfl), (List.forall_mem_cons.mpr ⟨tb_5 _ (List.mem_of_getElem? (i := 160) rfl), (List.forall_mem_cons.mpr ⟨tb_5 _ (List.mem_of_getElem? (i := 161) rfl), (List.forall_mem_cons.mpr ⟨tb_5 _ (List.mem_of_getElem? (i := 163) rfl), (List.forall_mem_cons.mpr ⟨tb_5 _ (List.mem_of_getElem? (i := 164) rfl), (List.forall_mem_cons.mpr ⟨tb_5 _ (List.mem_of_getElem? (i := 165) rfl), (List.forall_mem_cons.mpr ⟨tb_5 _ (List.mem_of_getElem? (i := 166) rfl), (List.forall_mem_cons.mpr ⟨tb_5 _ (List.mem_of_getElem? (i := 167) rfl), (List.forall_mem_cons.mpr ⟨tb_5 _ (List.mem_of_getElem? (i := 168) rfl), (List.forall_mem_cons.mpr ⟨tb_5 _ (List.mem_of_getElem? (i := 169) rfl), (List.forall_mem_cons.mpr ⟨tb_5 _ (List.mem_of_getElem? (i := 170) rfl), (List.forall_mem_cons.mpr ⟨tb_5 _ (List.mem_of_getElem? (i := 171) rfl), (List.forall_mem_cons.mpr ⟨tb_5 _ (List.mem_of_getElem? (i := 172) rfl), (List.forall_mem_cons.mpr ⟨tb_5 _ (List.mem_of_getElem? (i := 173) rfl), (List.forall_mem_cons.mpr ⟨tb_5 _ (List.mem_of_getElem? (i := 174) rfl), (List.forall_mem_cons.mpr ⟨tb_5 _ (List.mem_of_getElem? (i := 175) rfl), (List.forall_mem_cons.mpr ⟨tb_5 _ (List.mem_of_getElem? (i := 176) rfl), (List.forall_mem_cons.mpr ⟨tb_5 _ (List.mem_of_getElem? (i := 177) rfl), (List.forall_mem_cons.mpr ⟨tb_5 _ (List.mem_of_getElem? (i := 178) rfl), (List.forall_mem_cons.mpr ⟨tb_5 _ (List.mem_of_getElem? (i := 179) rfl), (List.forall_mem_cons.mpr ⟨tb_5 _ (List.mem_of_getElem? (i := 180) rfl), (List.forall_mem_cons.mpr ⟨tb_5 _ (List.mem_of_getElem? (i := 181) rfl), (List.forall_mem_cons.mpr ⟨tb_5 _ (List.mem_of_getElem? (i := 182) rfl), (List.forall_mem_cons.mpr ⟨tb_5 _ (List.mem_of_getElem? (i := 183) rfl), (List.forall_mem_cons.mpr ⟨tb_5 _ (List.mem_of_getElem? (i := 184) rfl), (List.forall_mem_cons.mpr ⟨tb_5 _ (List.mem_of_getElem? (i := 185) rfl), (fun _ q => by cases q)⟩)⟩)⟩)⟩)⟩)⟩)⟩)⟩)⟩)⟩)⟩)⟩)⟩)⟩)⟩)⟩)⟩)⟩)⟩)⟩)⟩)⟩)⟩)⟩)⟩)⟩)⟩)⟩)⟩)⟩)⟩)⟩)⟩)⟩)⟩)⟩)⟩)⟩)⟩)⟩)
theorem wd_24 : ∀ w ∈ WD_24, w ∈ lw_tbl ∧ goodWord w = true := fun w hw => ⟨wm_24 w hw, wg_24 w hw⟩
def WD_25 : List Cond := [Cond.code yX7_copy cX7_copy 7 (some .int), Cond.methodLink RX7 274 yX7_isPart, Cond.instanceMethod yX7_isPart, Cond.code yX7_isPart cX7_isPart 4 (some .boolean), Cond.methodLink RL 156 yX7_lays, Cond.instanceMethod yX7_lays, Cond.selects RX7 yX7_lays yX7_lays, Cond.code yX7_lays cX7_lays 7 (some .int), Cond.methodLink RX7 277 yX7_badSheet, Cond.instanceMethod yX7_badSheet, Cond.code yX7_badSheet cX7_badSheet 2 (some .int), Cond.constantLong RX7 280 99, Cond.methodLink RL 160 yX7_book, Cond.instanceMethod yX7_book, Cond.selects RX7 yX7_book yX7_book, Cond.code yX7_book cX7_book 5 (some .int), Cond.methodLink RL 164 yX7_read, Cond.instanceMethod yX7_read, Cond.selects RX7 yX7_read yX7_read, Cond.code yX7_read cX7_read 9 (some .int), Cond.constantLong RX7 282 16, Cond.methodLink RX7 284 yX7_isLed, Cond.instanceMethod yX7_isLed, Cond.code yX7_isLed cX7_isLed 6 (some .boolean), Cond.methodLink RL 168 yX7_image, Cond.instanceMethod yX7_image, Cond.selects RX7 yX7_image yX7_image, Cond.code yX7_image cX7_image 1 (some .int), Cond.methodLink RL 172 yX7_undo, Cond.instanceMethod yX7_undo, Cond.selects RX7 yX7_undo yX7_undo, Cond.code yX7_undo cX7_undo 1 (some .int), Cond.methodLink RL 176 yX7_tear, Cond.instanceMethod yX7_tear, Cond.selects RX7 yX7_tear yX7_tear, Cond.code yX7_tear cX7_tear 2 (some .int), Cond.methodLink RL 180 yX7_count, Cond.instanceMethod yX7_count, Cond.selects RX7 yX7_count yX7_count, Cond.code yX7_count cX7_count 2 (some .int)]
theorem wg_25 : ∀ w ∈ WD_25, goodWord w = true := by decide +kernel
set_option maxRecDepth 10000 in
theorem wm_25 : ∀ w ∈ WD_25, w ∈ lw_tbl := (List.forall_mem_cons.mpr ⟨tb_5 _ (List.mem_of_getElem? (i := 186) rfl), (List.forall_mem_cons.mpr ⟨tb_5 _ (List.mem_of_getElem? (i := 187) rfl), (List.forall_mem_cons.mpr ⟨tb_5 _ (List.mem_of_getElem? (i := 189) rfl), (List.forall_mem_cons.mpr ⟨tb_5 _ (List.mem_of_getElem? (i := 190) rfl), (List.forall_mem_cons.mpr ⟨tb_5 _ (List.mem_of_getElem? (i := 191) rfl), (List.forall_mem_cons.mpr ⟨tb_5 _ (List.mem_of_getElem? (i := 192) rfl), (List.forall_mem_cons.mpr ⟨tb_5 _ (List.mem_of_getElem? (i := 193) rfl), (List.forall_mem_cons.mpr ⟨tb_5 _ (List.mem_of_getElem? (i := 194) rfl), (List.forall_mem_cons.mpr ⟨tb_5 _ (List.mem_of_getElem? (i := 195) rfl), (List.forall_mem_cons.mpr ⟨tb_5 _ (List.mem_of_getElem? (i := 197) rfl), (List.forall_mem_cons.mpr ⟨tb_5 _ (List.mem_of_getElem? (i := 198) rfl), (List.forall_mem_cons.mpr ⟨tb_5 _ (List.mem_of_getElem? (i := 199) rfl), (List.forall_mem_cons.mpr ⟨tb_5 _ (List.mem_of_getElem? (i := 200) rfl), (List.forall_mem_cons.mpr ⟨tb_5 _ (List.mem_of_getElem? (i := 201) rfl), (List.forall_mem_cons.mpr ⟨tb_5 _ (List.mem_of_getElem? (i := 202) rfl), (List.forall_mem_cons.mpr ⟨tb_5 _ (List.mem_of_getElem? (i := 203) rfl), (List.forall_mem_cons.mpr ⟨tb_5 _ (List.mem_of_getElem? (i := 204) rfl), (List.forall_mem_cons.mpr ⟨tb_5 _ (List.mem_of_getElem? (i := 205) rfl), (List.forall_mem_cons.mpr ⟨tb_5 _ (List.mem_of_getElem? (i := 206) rfl), (List.forall_mem_cons.mpr ⟨tb_5 _ (List.mem_of_getElem? (i := 207) rfl), (List.forall_mem_cons.mpr ⟨tb_5 _ (List.mem_of_getElem? (i := 208) rfl), (List.forall_mem_cons.mpr ⟨tb_5 _ (List.mem_of_getElem? (i := 209) rfl), (List.forall_mem_cons.mpr ⟨tb_5 _ (List.mem_of_getElem? (i := 211) rfl), (List.forall_mem_cons.mpr ⟨tb_5 _ (List.mem_of_getElem? (i := 212) rfl), (List.forall_mem_cons.mpr ⟨tb_5 _ (List.mem_of_getElem? (i := 213) rfl), (List.forall_mem_cons.mpr ⟨tb_5 _ (List.mem_of_getElem? (i := 214) rfl), (List.forall_mem_cons.mpr ⟨tb_5 _ (List.mem_of_getElem? (i := 215) rfl), (List.forall_mem_cons.mpr ⟨tb_5 _ (List.mem_of_getElem? (i := 216) rfl), (List.forall_mem_cons.mpr ⟨tb_5 _ (List.mem_of_getElem? (i := 217) rfl), (List.forall_mem_cons.mpr ⟨tb_5 _ (List.mem_of_getElem? (i := 218) rfl), (List.forall_mem_cons.mpr ⟨tb_5 _ (List.mem_of_getElem? (i := 219) rfl), (List.forall_mem_cons.mpr ⟨tb_5 _ (List.mem_of_getElem? (i := 220) rfl), (List.forall_mem_cons.mpr ⟨tb_5 _ (List.mem_of_getElem? (i := 221) rfl), (List.forall_mem_cons.mpr ⟨tb_5 _ (List.mem_of_getElem? (i := 222) rfl), (List.forall_mem_cons.mpr ⟨tb_5 _ (List.mem_of_getElem? (i := 223) rfl), (List.forall_mem_cons.mpr ⟨tb_5 _ (List.mem_of_getElem? (i := 224) rfl), (List.forall_mem_cons.mpr ⟨tb_5 _ (List.mem_of_getElem? (i := 225) rfl), (List.forall_mem_cons.mpr ⟨tb_5 _ (List.mem_of_getElem? (i := 226) rfl), (List.forall_mem_cons.mpr ⟨tb_5 _ (List.mem_of_getElem? (i := 227) rfl), (List.forall_mem_cons.mpr ⟨tb_5 _ (List.mem_of_getElem? (i := 228) rfl), (fun _ q => by cases q)⟩)⟩)⟩)⟩)⟩)⟩)⟩)⟩)⟩)⟩)⟩)⟩)⟩)⟩)⟩)⟩)⟩)⟩)⟩)⟩)⟩)⟩)⟩)⟩)⟩)⟩)⟩)⟩)⟩)⟩)⟩)⟩)⟩)⟩)⟩)⟩)⟩)⟩)⟩)⟩)
theorem wd_25 : ∀ w ∈ WD_25, w ∈ lw_tbl ∧ goodWord w = true := fun w hw => ⟨wm_25 w hw, wg_25 w hw⟩
def WD_26 : List Cond := [Cond.methodLink RX7 290 yX7_pairs, Cond.instanceMethod yX7_pairs, Cond.code yX7_pairs cX7_pairs 4 (some .int), Cond.methodLink RL 184 yX7_status, Cond.instanceMethod yX7_status, Cond.selects RX7 yX7_status yX7_status, Cond.code yX7_status cX7_status 4 (some .int), Cond.constantLong RL 141 4294967295, Cond.fieldLink RJ0 9 "java/lang/String" "value" "[B", Cond.fieldLink RJ0 15 "java/lang/String" "coder" "B"]
theorem wg_26 : ∀ w ∈ WD_26, goodWord w = true := by decide +kernel
set_option maxRecDepth 10000 in
theorem wm_26 : ∀ w ∈ WD_26, w ∈ lw_tbl := (List.forall_mem_cons.mpr ⟨tb_5 _ (List.mem_of_getElem? (i := 229) rfl), (List.forall_mem_cons.mpr ⟨tb_5 _ (List.mem_of_getElem? (i := 231) rfl), (List.forall_mem_cons.mpr ⟨tb_5 _ (List.mem_of_getElem? (i := 232) rfl), (List.forall_mem_cons.mpr ⟨tb_5 _ (List.mem_of_getElem? (i := 233) rfl), (List.forall_mem_cons.mpr ⟨tb_5 _ (List.mem_of_getElem? (i := 234) rfl), (List.forall_mem_cons.mpr ⟨tb_5 _ (List.mem_of_getElem? (i := 235) rfl), (List.forall_mem_cons.mpr ⟨tb_5 _ (List.mem_of_getElem? (i := 236) rfl), (List.forall_mem_cons.mpr ⟨tb_5 _ (List.mem_of_getElem? (i := 237) rfl), (List.forall_mem_cons.mpr ⟨tb_5 _ (List.mem_of_getElem? (i := 238) rfl), (List.forall_mem_cons.mpr ⟨tb_5 _ (List.mem_of_getElem? (i := 239) rfl), (fun _ q => by cases q)⟩)⟩)⟩)⟩)⟩)⟩)⟩)⟩)⟩)⟩)
theorem wd_26 : ∀ w ∈ WD_26, w ∈ lw_tbl ∧ goodWord w = true := fun w hw => ⟨wm_26 w hw, wg_26 w hw⟩
theorem uw_0 : ∀ w ∈ u_ws RX0 TX0 6, w ∈ am_tb := (show ∀ w ∈ [u_lay RX0 TX0 0, u_lay RX0 TX0 1, u_lay RX0 TX0 2, u_lay RX0 TX0 3, u_lay RX0 TX0 4, u_lay RX0 TX0 5], w ∈ am_tb from (List.forall_mem_cons.mpr ⟨(am_tb_mem (wd_2 _ (List.mem_of_getElem? (i := 11) rfl))), (List.forall_mem_cons.mpr ⟨(am_tb_mem (wd_2 _ (List.mem_of_getElem? (i := 12) rfl))), (List.forall_mem_cons.mpr ⟨(am_tb_mem (wd_2 _ (List.mem_of_getElem? (i := 13) rfl))), (List.forall_mem_cons.mpr ⟨(am_tb_mem (wd_2 _ (List.mem_of_getElem? (i := 14) rfl))), (List.forall_mem_cons.mpr ⟨(am_tb_mem (wd_2 _ (List.mem_of_getElem? (i := 15) rfl))), (List.forall_mem_cons.mpr ⟨(am_tb_mem (wd_2 _ (List.mem_of_getElem? (i := 16) rfl))), (fun _ q => by cases q)⟩)⟩)⟩)⟩)⟩)⟩))
theorem fc_0 : ∀ k, k < 6 → (TX0 k).1 = RX0 ∧ (am_ft 0 k = 0 → tyX0 k = .int ∧ (TX0 k).2.2.2 = false) ∧ (am_ft 0 k = 1 → tyX0 k = .boolean ∧ (TX0 k).2.2.2 = false) ∧ (am_ft 0 k = 2 → tyX0 k = .long ∧ (TX0 k).2.2.2 = false) := by decide +kernel
theorem fo_0 {own : String} {ix k : Nat} (hk : k < 6) (hm : Cond.fieldLink own ix RX0 (TX0 k).2.1 (TX0 k).2.2.1 ∈ am_tb) : am_fok own am_tb (ix, 0, k) := Or.inl ⟨show (0 : Nat) < 8 by decide, hk, RX0, TX0, tyX0, rfl, uw_0, tyX0_ok, nmX0, (fc_0 k hk).1, hm, (fc_0 k hk).2.1, (fc_0 k hk).2.2.1, (fc_0 k hk).2.2.2⟩
theorem uw_1 : ∀ w ∈ u_ws RX1 TX1 6, w ∈ am_tb := (show ∀ w ∈ [u_lay RX1 TX1 0, u_lay RX1 TX1 1, u_lay RX1 TX1 2, u_lay RX1 TX1 3, u_lay RX1 TX1 4, u_lay RX1 TX1 5], w ∈ am_tb from (List.forall_mem_cons.mpr ⟨(am_tb_mem (wd_2 _ (List.mem_of_getElem? (i := 38) rfl))), (List.forall_mem_cons.mpr ⟨(am_tb_mem (wd_2 _ (List.mem_of_getElem? (i := 39) rfl))), (List.forall_mem_cons.mpr ⟨(am_tb_mem (wd_3 _ (List.mem_of_getElem? (i := 0) rfl))), (List.forall_mem_cons.mpr ⟨(am_tb_mem (wd_3 _ (List.mem_of_getElem? (i := 1) rfl))), (List.forall_mem_cons.mpr ⟨(am_tb_mem (wd_3 _ (List.mem_of_getElem? (i := 2) rfl))), (List.forall_mem_cons.mpr ⟨(am_tb_mem (wd_3 _ (List.mem_of_getElem? (i := 3) rfl))), (fun _ q => by cases q)⟩)⟩)⟩)⟩)⟩)⟩))
theorem fc_1 : ∀ k, k < 6 → (TX1 k).1 = RX1 ∧ (am_ft 1 k = 0 → tyX1 k = .int ∧ (TX1 k).2.2.2 = false) ∧ (am_ft 1 k = 1 → tyX1 k = .boolean ∧ (TX1 k).2.2.2 = false) ∧ (am_ft 1 k = 2 → tyX1 k = .long ∧ (TX1 k).2.2.2 = false) := by decide +kernel
theorem fo_1 {own : String} {ix k : Nat} (hk : k < 6) (hm : Cond.fieldLink own ix RX1 (TX1 k).2.1 (TX1 k).2.2.1 ∈ am_tb) : am_fok own am_tb (ix, 1, k) := Or.inl ⟨show (1 : Nat) < 8 by decide, hk, RX1, TX1, tyX1, rfl, uw_1, tyX1_ok, nmX1, (fc_1 k hk).1, hm, (fc_1 k hk).2.1, (fc_1 k hk).2.2.1, (fc_1 k hk).2.2.2⟩
theorem uw_2 : ∀ w ∈ u_ws RX2 TX2 2, w ∈ am_tb := (show ∀ w ∈ [u_lay RX2 TX2 0, u_lay RX2 TX2 1], w ∈ am_tb from (List.forall_mem_cons.mpr ⟨(am_tb_mem (wd_2 _ (List.mem_of_getElem? (i := 23) rfl))), (List.forall_mem_cons.mpr ⟨(am_tb_mem (wd_2 _ (List.mem_of_getElem? (i := 24) rfl))), (fun _ q => by cases q)⟩)⟩))
theorem fc_2 : ∀ k, k < 2 → (TX2 k).1 = RX2 ∧ (am_ft 2 k = 0 → tyX2 k = .int ∧ (TX2 k).2.2.2 = false) ∧ (am_ft 2 k = 1 → tyX2 k = .boolean ∧ (TX2 k).2.2.2 = false) ∧ (am_ft 2 k = 2 → tyX2 k = .long ∧ (TX2 k).2.2.2 = false) := by decide +kernel
theorem fo_2 {own : String} {ix k : Nat} (hk : k < 2) (hm : Cond.fieldLink own ix RX2 (TX2 k).2.1 (TX2 k).2.2.1 ∈ am_tb) : am_fok own am_tb (ix, 2, k) := Or.inl ⟨show (2 : Nat) < 8 by decide, hk, RX2, TX2, tyX2, rfl, uw_2, tyX2_ok, nmX2, (fc_2 k hk).1, hm, (fc_2 k hk).2.1, (fc_2 k hk).2.2.1, (fc_2 k hk).2.2.2⟩
theorem uw_3 : ∀ w ∈ u_ws RX3 TX3 3, w ∈ am_tb := (show ∀ w ∈ [u_lay RX3 TX3 0, u_lay RX3 TX3 1, u_lay RX3 TX3 2], w ∈ am_tb from (List.forall_mem_cons.mpr ⟨(am_tb_mem (wd_3 _ (List.mem_of_getElem? (i := 29) rfl))), (List.forall_mem_cons.mpr ⟨(am_tb_mem (wd_3 _ (List.mem_of_getElem? (i := 30) rfl))), (List.forall_mem_cons.mpr ⟨(am_tb_mem (wd_3 _ (List.mem_of_getElem? (i := 31) rfl))), (fun _ q => by cases q)⟩)⟩)⟩))
theorem fc_3 : ∀ k, k < 3 → (TX3 k).1 = RX3 ∧ (am_ft 3 k = 0 → tyX3 k = .int ∧ (TX3 k).2.2.2 = false) ∧ (am_ft 3 k = 1 → tyX3 k = .boolean ∧ (TX3 k).2.2.2 = false) ∧ (am_ft 3 k = 2 → tyX3 k = .long ∧ (TX3 k).2.2.2 = false) := by decide +kernel
theorem fo_3 {own : String} {ix k : Nat} (hk : k < 3) (hm : Cond.fieldLink own ix RX3 (TX3 k).2.1 (TX3 k).2.2.1 ∈ am_tb) : am_fok own am_tb (ix, 3, k) := Or.inl ⟨show (3 : Nat) < 8 by decide, hk, RX3, TX3, tyX3, rfl, uw_3, tyX3_ok, nmX3, (fc_3 k hk).1, hm, (fc_3 k hk).2.1, (fc_3 k hk).2.2.1, (fc_3 k hk).2.2.2⟩
theorem uw_4 : ∀ w ∈ u_ws RX4 TX4 2, w ∈ am_tb := (show ∀ w ∈ [u_lay RX4 TX4 0, u_lay RX4 TX4 1], w ∈ am_tb from (List.forall_mem_cons.mpr ⟨(am_tb_mem (wd_3 _ (List.mem_of_getElem? (i := 9) rfl))), (List.forall_mem_cons.mpr ⟨(am_tb_mem (wd_3 _ (List.mem_of_getElem? (i := 10) rfl))), (fun _ q => by cases q)⟩)⟩))
theorem fc_4 : ∀ k, k < 2 → (TX4 k).1 = RX4 ∧ (am_ft 4 k = 0 → tyX4 k = .int ∧ (TX4 k).2.2.2 = false) ∧ (am_ft 4 k = 1 → tyX4 k = .boolean ∧ (TX4 k).2.2.2 = false) ∧ (am_ft 4 k = 2 → tyX4 k = .long ∧ (TX4 k).2.2.2 = false) := by decide +kernel
theorem fo_4 {own : String} {ix k : Nat} (hk : k < 2) (hm : Cond.fieldLink own ix RX4 (TX4 k).2.1 (TX4 k).2.2.1 ∈ am_tb) : am_fok own am_tb (ix, 4, k) := Or.inl ⟨show (4 : Nat) < 8 by decide, hk, RX4, TX4, tyX4, rfl, uw_4, tyX4_ok, nmX4, (fc_4 k hk).1, hm, (fc_4 k hk).2.1, (fc_4 k hk).2.2.1, (fc_4 k hk).2.2.2⟩
theorem uw_5 : ∀ w ∈ u_ws RX5 TX5 6, w ∈ am_tb := (show ∀ w ∈ [u_lay RX5 TX5 0, u_lay RX5 TX5 1, u_lay RX5 TX5 2, u_lay RX5 TX5 3, u_lay RX5 TX5 4, u_lay RX5 TX5 5], w ∈ am_tb from (List.forall_mem_cons.mpr ⟨(am_tb_mem (wd_3 _ (List.mem_of_getElem? (i := 17) rfl))), (List.forall_mem_cons.mpr ⟨(am_tb_mem (wd_3 _ (List.mem_of_getElem? (i := 18) rfl))), (List.forall_mem_cons.mpr ⟨(am_tb_mem (wd_3 _ (List.mem_of_getElem? (i := 19) rfl))), (List.forall_mem_cons.mpr ⟨(am_tb_mem (wd_3 _ (List.mem_of_getElem? (i := 20) rfl))), (List.forall_mem_cons.mpr ⟨(am_tb_mem (wd_3 _ (List.mem_of_getElem? (i := 21) rfl))), (List.forall_mem_cons.mpr ⟨(am_tb_mem (wd_3 _ (List.mem_of_getElem? (i := 22) rfl))), (fun _ q => by cases q)⟩)⟩)⟩)⟩)⟩)⟩))
theorem fc_5 : ∀ k, k < 6 → (TX5 k).1 = RX5 ∧ (am_ft 5 k = 0 → tyX5 k = .int ∧ (TX5 k).2.2.2 = false) ∧ (am_ft 5 k = 1 → tyX5 k = .boolean ∧ (TX5 k).2.2.2 = false) ∧ (am_ft 5 k = 2 → tyX5 k = .long ∧ (TX5 k).2.2.2 = false) := by decide +kernel
theorem fo_5 {own : String} {ix k : Nat} (hk : k < 6) (hm : Cond.fieldLink own ix RX5 (TX5 k).2.1 (TX5 k).2.2.1 ∈ am_tb) : am_fok own am_tb (ix, 5, k) := Or.inl ⟨show (5 : Nat) < 8 by decide, hk, RX5, TX5, tyX5, rfl, uw_5, tyX5_ok, nmX5, (fc_5 k hk).1, hm, (fc_5 k hk).2.1, (fc_5 k hk).2.2.1, (fc_5 k hk).2.2.2⟩
theorem uw_6 : ∀ w ∈ u_ws RX6 TX6 8, w ∈ am_tb := (show ∀ w ∈ [u_lay RX6 TX6 0, u_lay RX6 TX6 1, u_lay RX6 TX6 2, u_lay RX6 TX6 3, u_lay RX6 TX6 4, u_lay RX6 TX6 5, u_lay RX6 TX6 6, u_lay RX6 TX6 7], w ∈ am_tb from (List.forall_mem_cons.mpr ⟨(am_tb_mem (wd_4 _ (List.mem_of_getElem? (i := 0) rfl))), (List.forall_mem_cons.mpr ⟨(am_tb_mem (wd_4 _ (List.mem_of_getElem? (i := 1) rfl))), (List.forall_mem_cons.mpr ⟨(am_tb_mem (wd_4 _ (List.mem_of_getElem? (i := 2) rfl))), (List.forall_mem_cons.mpr ⟨(am_tb_mem (wd_4 _ (List.mem_of_getElem? (i := 3) rfl))), (List.forall_mem_cons.mpr ⟨(am_tb_mem (wd_4 _ (List.mem_of_getElem? (i := 4) rfl))), (List.forall_mem_cons.mpr ⟨(am_tb_mem (wd_4 _ (List.mem_of_getElem? (i := 5) rfl))), (List.forall_mem_cons.mpr ⟨(am_tb_mem (wd_4 _ (List.mem_of_getElem? (i := 6) rfl))), (List.forall_mem_cons.mpr ⟨(am_tb_mem (wd_4 _ (List.mem_of_getElem? (i := 7) rfl))), (fun _ q => by cases q)⟩)⟩)⟩)⟩)⟩)⟩)⟩)⟩))
theorem fc_6 : ∀ k, k < 8 → (TX6 k).1 = RX6 ∧ (am_ft 6 k = 0 → tyX6 k = .int ∧ (TX6 k).2.2.2 = false) ∧ (am_ft 6 k = 1 → tyX6 k = .boolean ∧ (TX6 k).2.2.2 = false) ∧ (am_ft 6 k = 2 → tyX6 k = .long ∧ (TX6 k).2.2.2 = false) := by decide +kernel
theorem fo_6 {own : String} {ix k : Nat} (hk : k < 8) (hm : Cond.fieldLink own ix RX6 (TX6 k).2.1 (TX6 k).2.2.1 ∈ am_tb) : am_fok own am_tb (ix, 6, k) := Or.inl ⟨show (6 : Nat) < 8 by decide, hk, RX6, TX6, tyX6, rfl, uw_6, tyX6_ok, nmX6, (fc_6 k hk).1, hm, (fc_6 k hk).2.1, (fc_6 k hk).2.2.1, (fc_6 k hk).2.2.2⟩
theorem uw_7 : ∀ w ∈ u_ws RX7 TX7 18, w ∈ am_tb := (show ∀ w ∈ [u_lay RX7 TX7 0, u_lay RX7 TX7 1, u_lay RX7 TX7 2, u_lay RX7 TX7 3, u_lay RX7 TX7 4, u_lay RX7 TX7 5, u_lay RX7 TX7 6, u_lay RX7 TX7 7, u_lay RX7 TX7 8, u_lay RX7 TX7 9, u_lay RX7 TX7 10, u_lay RX7 TX7 11, u_lay RX7 TX7 12, u_lay RX7 TX7 13, u_lay RX7 TX7 14, u_lay RX7 TX7 15, u_lay RX7 TX7 16, u_lay RX7 TX7 17], w ∈ am_tb from (List.forall_mem_cons.mpr ⟨(am_tb_mem (wd_16 _ (List.mem_of_getElem? (i := 33) rfl))), (List.forall_mem_cons.mpr ⟨(am_tb_mem (wd_16 _ (List.mem_of_getElem? (i := 34) rfl))), (List.forall_mem_cons.mpr ⟨(am_tb_mem (wd_16 _ (List.mem_of_getElem? (i := 35) rfl))), (List.forall_mem_cons.mpr ⟨(am_tb_mem (wd_16 _ (List.mem_of_getElem? (i := 36) rfl))), (List.forall_mem_cons.mpr ⟨(am_tb_mem (wd_16 _ (List.mem_of_getElem? (i := 37) rfl))), (List.forall_mem_cons.mpr ⟨(am_tb_mem (wd_16 _ (List.mem_of_getElem? (i := 38) rfl))), (List.forall_mem_cons.mpr ⟨(am_tb_mem (wd_16 _ (List.mem_of_getElem? (i := 39) rfl))), (List.forall_mem_cons.mpr ⟨(am_tb_mem (wd_17 _ (List.mem_of_getElem? (i := 0) rfl))), (List.forall_mem_cons.mpr ⟨(am_tb_mem (wd_17 _ (List.mem_of_getElem? (i := 1) rfl))), (List.forall_mem_cons.mpr ⟨(am_tb_mem (wd_17 _ (List.mem_of_getElem? (i := 2) rfl))), (List.forall_mem_cons.mpr ⟨(am_tb_mem (wd_17 _ (List.mem_of_getElem? (i := 3) rfl))), (List.forall_mem_cons.mpr ⟨(am_tb_mem (wd_17 _ (List.mem_of_getElem? (i := 4) rfl))), (List.forall_mem_cons.mpr ⟨(am_tb_mem (wd_17 _ (List.mem_of_getElem? (i := 5) rfl))), (List.forall_mem_cons.mpr ⟨(am_tb_mem (wd_17 _ (List.mem_of_getElem? (i := 6) rfl))), (List.forall_mem_cons.mpr ⟨(am_tb_mem (wd_17 _ (List.mem_of_getElem? (i := 7) rfl))), (List.forall_mem_cons.mpr ⟨(am_tb_mem (wd_17 _ (List.mem_of_getElem? (i := 8) rfl))), (List.forall_mem_cons.mpr ⟨(am_tb_mem (wd_17 _ (List.mem_of_getElem? (i := 9) rfl))), (List.forall_mem_cons.mpr ⟨(am_tb_mem (wd_17 _ (List.mem_of_getElem? (i := 10) rfl))), (fun _ q => by cases q)⟩)⟩)⟩)⟩)⟩)⟩)⟩)⟩)⟩)⟩)⟩)⟩)⟩)⟩)⟩)⟩)⟩)⟩))
theorem fc_7 : ∀ k, k < 18 → (TX7 k).1 = RX7 ∧ (am_ft 7 k = 0 → tyX7 k = .int ∧ (TX7 k).2.2.2 = false) ∧ (am_ft 7 k = 1 → tyX7 k = .boolean ∧ (TX7 k).2.2.2 = false) ∧ (am_ft 7 k = 2 → tyX7 k = .long ∧ (TX7 k).2.2.2 = false) := by decide +kernel
theorem fo_7 {own : String} {ix k : Nat} (hk : k < 18) (hm : Cond.fieldLink own ix RX7 (TX7 k).2.1 (TX7 k).2.2.1 ∈ am_tb) : am_fok own am_tb (ix, 7, k) := Or.inl ⟨show (7 : Nat) < 8 by decide, hk, RX7, TX7, tyX7, rfl, uw_7, tyX7_ok, nmX7, (fc_7 k hk).1, hm, (fc_7 k hk).2.1, (fc_7 k hk).2.2.1, (fc_7 k hk).2.2.2⟩
def PF_RJ0 : List (Nat × Nat × Nat) := [(9, 16, 0), (15, 16, 1)]
def PK_RJ0 : List (Nat × AV) := []
def PS_RJ0 : List (Nat × AV) := [(38, .inl 1), (1053, .inr (.inr (.inr ())))]
theorem pf_RJ0 : ∀ x ∈ PF_RJ0, am_fok RJ0 am_tb x := (List.forall_mem_cons.mpr ⟨Or.inr ⟨rfl, Or.inl ⟨rfl, (am_tb_mem (wd_26 _ (List.mem_of_getElem? (i := 8) rfl)))⟩⟩, (List.forall_mem_cons.mpr ⟨Or.inr ⟨rfl, Or.inr ⟨rfl, (am_tb_mem (wd_26 _ (List.mem_of_getElem? (i := 9) rfl)))⟩⟩, (fun _ q => by cases q)⟩)⟩)
theorem pk_RJ0 : ∀ x ∈ PK_RJ0, am_kok RJ0 am_tb x := (fun _ q => by cases q)
theorem ps_RJ0 : ∀ x ∈ PS_RJ0, am_sok RJ0 am_tb x := (List.forall_mem_cons.mpr ⟨⟨rfl, (am_tb_mem (wd_13 _ (List.mem_of_getElem? (i := 22) rfl)))⟩, (List.forall_mem_cons.mpr ⟨(am_tb_mem (wd_13 _ (List.mem_of_getElem? (i := 37) rfl))), (fun _ q => by cases q)⟩)⟩)
def PF_RJ1 : List (Nat × Nat × Nat) := []
def PK_RJ1 : List (Nat × AV) := []
def PS_RJ1 : List (Nat × AV) := []
theorem pf_RJ1 : ∀ x ∈ PF_RJ1, am_fok RJ1 am_tb x := (fun _ q => by cases q)
theorem pk_RJ1 : ∀ x ∈ PK_RJ1, am_kok RJ1 am_tb x := (fun _ q => by cases q)
theorem ps_RJ1 : ∀ x ∈ PS_RJ1, am_sok RJ1 am_tb x := (fun _ q => by cases q)
def PF_RJ3 : List (Nat × Nat × Nat) := []
def PK_RJ3 : List (Nat × AV) := []
def PS_RJ3 : List (Nat × AV) := []
theorem pf_RJ3 : ∀ x ∈ PF_RJ3, am_fok RJ3 am_tb x := (fun _ q => by cases q)
theorem pk_RJ3 : ∀ x ∈ PK_RJ3, am_kok RJ3 am_tb x := (fun _ q => by cases q)
theorem ps_RJ3 : ∀ x ∈ PS_RJ3, am_sok RJ3 am_tb x := (fun _ q => by cases q)
def PF_RJ6 : List (Nat × Nat × Nat) := []
def PK_RJ6 : List (Nat × AV) := [(265, .inl 1431655765), (266, .inl 858993459), (267, .inl 252645135)]
def PS_RJ6 : List (Nat × AV) := []
theorem pf_RJ6 : ∀ x ∈ PF_RJ6, am_fok RJ6 am_tb x := (fun _ q => by cases q)
theorem pk_RJ6 : ∀ x ∈ PK_RJ6, am_kok RJ6 am_tb x := (List.forall_mem_cons.mpr ⟨(am_tb_mem (wd_8 _ (List.mem_of_getElem? (i := 7) rfl))), (List.forall_mem_cons.mpr ⟨(am_tb_mem (wd_8 _ (List.mem_of_getElem? (i := 8) rfl))), (List.forall_mem_cons.mpr ⟨(am_tb_mem (wd_8 _ (List.mem_of_getElem? (i := 9) rfl))), (fun _ q => by cases q)⟩)⟩)⟩)
theorem ps_RJ6 : ∀ x ∈ PS_RJ6, am_sok RJ6 am_tb x := (fun _ q => by cases q)
def PF_RJ9 : List (Nat × Nat × Nat) := []
def PK_RJ9 : List (Nat × AV) := []
def PS_RJ9 : List (Nat × AV) := []
theorem pf_RJ9 : ∀ x ∈ PF_RJ9, am_fok RJ9 am_tb x := (fun _ q => by cases q)
theorem pk_RJ9 : ∀ x ∈ PK_RJ9, am_kok RJ9 am_tb x := (fun _ q => by cases q)
theorem ps_RJ9 : ∀ x ∈ PS_RJ9, am_sok RJ9 am_tb x := (fun _ q => by cases q)
def PF_RL : List (Nat × Nat × Nat) := []
def PK_RL : List (Nat × AV) := [(141, .inr (.inl 4294967295))]
def PS_RL : List (Nat × AV) := []
theorem pf_RL : ∀ x ∈ PF_RL, am_fok RL am_tb x := (fun _ q => by cases q)
theorem pk_RL : ∀ x ∈ PK_RL, am_kok RL am_tb x := (List.forall_mem_cons.mpr ⟨(am_tb_mem (wd_26 _ (List.mem_of_getElem? (i := 7) rfl))), (fun _ q => by cases q)⟩)
theorem ps_RL : ∀ x ∈ PS_RL, am_sok RL am_tb x := (fun _ q => by cases q)
def PF_RX0 : List (Nat × Nat × Nat) := [(9, 0, 4), (15, 0, 0), (18, 0, 1), (21, 0, 2), (24, 0, 3), (27, 0, 5)]
def PK_RX0 : List (Nat × AV) := []
def PS_RX0 : List (Nat × AV) := []
theorem pf_RX0 : ∀ x ∈ PF_RX0, am_fok RX0 am_tb x := (List.forall_mem_cons.mpr ⟨fo_0 (by decide) (am_tb_mem (wd_2 _ (List.mem_of_getElem? (i := 5) rfl))), (List.forall_mem_cons.mpr ⟨fo_0 (by decide) (am_tb_mem (wd_1 _ (List.mem_of_getElem? (i := 33) rfl))), (List.forall_mem_cons.mpr ⟨fo_0 (by decide) (am_tb_mem (wd_1 _ (List.mem_of_getElem? (i := 36) rfl))), (List.forall_mem_cons.mpr ⟨fo_0 (by decide) (am_tb_mem (wd_1 _ (List.mem_of_getElem? (i := 39) rfl))), (List.forall_mem_cons.mpr ⟨fo_0 (by decide) (am_tb_mem (wd_2 _ (List.mem_of_getElem? (i := 2) rfl))), (List.forall_mem_cons.mpr ⟨fo_0 (by decide) (am_tb_mem (wd_2 _ (List.mem_of_getElem? (i := 8) rfl))), (fun _ q => by cases q)⟩)⟩)⟩)⟩)⟩)⟩)
theorem pk_RX0 : ∀ x ∈ PK_RX0, am_kok RX0 am_tb x := (fun _ q => by cases q)
theorem ps_RX0 : ∀ x ∈ PS_RX0, am_sok RX0 am_tb x := (fun _ q => by cases q)
def PF_RX1 : List (Nat × Nat × Nat) := [(9, 1, 1), (17, 1, 2), (24, 1, 4), (29, 1, 0), (32, 1, 3), (39, 1, 5), (45, 0, 0), (48, 0, 1), (51, 0, 2), (54, 0, 3), (57, 0, 4), (60, 0, 5), (63, 2, 0), (66, 2, 1)]
def PK_RX1 : List (Nat × AV) := []
def PS_RX1 : List (Nat × AV) := []
theorem pf_RX1 : ∀ x ∈ PF_RX1, am_fok RX1 am_tb x := (List.forall_mem_cons.mpr ⟨fo_1 (by decide) (am_tb_mem (wd_2 _ (List.mem_of_getElem? (i := 27) rfl))), (List.forall_mem_cons.mpr ⟨fo_1 (by decide) (am_tb_mem (wd_2 _ (List.mem_of_getElem? (i := 30) rfl))), (List.forall_mem_cons.mpr ⟨fo_1 (by decide) (am_tb_mem (wd_2 _ (List.mem_of_getElem? (i := 34) rfl))), (List.forall_mem_cons.mpr ⟨fo_1 (by decide) (am_tb_mem (wd_2 _ (List.mem_of_getElem? (i := 25) rfl))), (List.forall_mem_cons.mpr ⟨fo_1 (by decide) (am_tb_mem (wd_2 _ (List.mem_of_getElem? (i := 32) rfl))), (List.forall_mem_cons.mpr ⟨fo_1 (by decide) (am_tb_mem (wd_2 _ (List.mem_of_getElem? (i := 36) rfl))), (List.forall_mem_cons.mpr ⟨fo_0 (by decide) (am_tb_mem (wd_1 _ (List.mem_of_getElem? (i := 35) rfl))), (List.forall_mem_cons.mpr ⟨fo_0 (by decide) (am_tb_mem (wd_1 _ (List.mem_of_getElem? (i := 38) rfl))), (List.forall_mem_cons.mpr ⟨fo_0 (by decide) (am_tb_mem (wd_2 _ (List.mem_of_getElem? (i := 1) rfl))), (List.forall_mem_cons.mpr ⟨fo_0 (by decide) (am_tb_mem (wd_2 _ (List.mem_of_getElem? (i := 4) rfl))), (List.forall_mem_cons.mpr ⟨fo_0 (by decide) (am_tb_mem (wd_2 _ (List.mem_of_getElem? (i := 7) rfl))), (List.forall_mem_cons.mpr ⟨fo_0 (by decide) (am_tb_mem (wd_2 _ (List.mem_of_getElem? (i := 10) rfl))), (List.forall_mem_cons.mpr ⟨fo_2 (by decide) (am_tb_mem (wd_2 _ (List.mem_of_getElem? (i := 18) rfl))), (List.forall_mem_cons.mpr ⟨fo_2 (by decide) (am_tb_mem (wd_2 _ (List.mem_of_getElem? (i := 21) rfl))), (fun _ q => by cases q)⟩)⟩)⟩)⟩)⟩)⟩)⟩)⟩)⟩)⟩)⟩)⟩)⟩)⟩)
theorem pk_RX1 : ∀ x ∈ PK_RX1, am_kok RX1 am_tb x := (fun _ q => by cases q)
theorem ps_RX1 : ∀ x ∈ PS_RX1, am_sok RX1 am_tb x := (fun _ q => by cases q)
def PF_RX2 : List (Nat × Nat × Nat) := [(7, 2, 0), (13, 2, 1)]
def PK_RX2 : List (Nat × AV) := []
def PS_RX2 : List (Nat × AV) := []
theorem pf_RX2 : ∀ x ∈ PF_RX2, am_fok RX2 am_tb x := (List.forall_mem_cons.mpr ⟨fo_2 (by decide) (am_tb_mem (wd_2 _ (List.mem_of_getElem? (i := 17) rfl))), (List.forall_mem_cons.mpr ⟨fo_2 (by decide) (am_tb_mem (wd_2 _ (List.mem_of_getElem? (i := 20) rfl))), (fun _ q => by cases q)⟩)⟩)
theorem pk_RX2 : ∀ x ∈ PK_RX2, am_kok RX2 am_tb x := (fun _ q => by cases q)
theorem ps_RX2 : ∀ x ∈ PS_RX2, am_sok RX2 am_tb x := (fun _ q => by cases q)
def PF_RX3 : List (Nat × Nat × Nat) := [(9, 3, 2), (15, 3, 0), (19, 3, 1)]
def PK_RX3 : List (Nat × AV) := []
def PS_RX3 : List (Nat × AV) := []
theorem pf_RX3 : ∀ x ∈ PF_RX3, am_fok RX3 am_tb x := (List.forall_mem_cons.mpr ⟨fo_3 (by decide) (am_tb_mem (wd_3 _ (List.mem_of_getElem? (i := 27) rfl))), (List.forall_mem_cons.mpr ⟨fo_3 (by decide) (am_tb_mem (wd_3 _ (List.mem_of_getElem? (i := 23) rfl))), (List.forall_mem_cons.mpr ⟨fo_3 (by decide) (am_tb_mem (wd_3 _ (List.mem_of_getElem? (i := 25) rfl))), (fun _ q => by cases q)⟩)⟩)⟩)
theorem pk_RX3 : ∀ x ∈ PK_RX3, am_kok RX3 am_tb x := (fun _ q => by cases q)
theorem ps_RX3 : ∀ x ∈ PS_RX3, am_sok RX3 am_tb x := (fun _ q => by cases q)
def PF_RX4 : List (Nat × Nat × Nat) := [(9, 4, 0), (15, 4, 1)]
def PK_RX4 : List (Nat × AV) := []
def PS_RX4 : List (Nat × AV) := []
theorem pf_RX4 : ∀ x ∈ PF_RX4, am_fok RX4 am_tb x := (List.forall_mem_cons.mpr ⟨fo_4 (by decide) (am_tb_mem (wd_3 _ (List.mem_of_getElem? (i := 4) rfl))), (List.forall_mem_cons.mpr ⟨fo_4 (by decide) (am_tb_mem (wd_3 _ (List.mem_of_getElem? (i := 6) rfl))), (fun _ q => by cases q)⟩)⟩)
theorem pk_RX4 : ∀ x ∈ PK_RX4, am_kok RX4 am_tb x := (fun _ q => by cases q)
theorem ps_RX4 : ∀ x ∈ PS_RX4, am_sok RX4 am_tb x := (fun _ q => by cases q)
def PF_RX5 : List (Nat × Nat × Nat) := [(9, 5, 0), (15, 5, 1), (19, 5, 4), (30, 5, 2), (33, 5, 3), (88, 1, 1), (91, 5, 5), (115, 4, 0), (125, 4, 1)]
def PK_RX5 : List (Nat × AV) := [(44, .inr (.inr (.inl (16, 0)))), (53, .inr (.inr (.inl (16, 1)))), (66, .inr (.inr (.inl (16, 2)))), (72, .inr (.inr (.inl (16, 3)))), (74, .inr (.inr (.inl (16, 4)))), (83, .inr (.inr (.inl (16, 5)))), (98, .inr (.inr (.inl (16, 6)))), (100, .inr (.inr (.inl (16, 7)))), (102, .inr (.inr (.inl (16, 8)))), (104, .inr (.inr (.inl (16, 9)))), (106, .inr (.inr (.inl (16, 10)))), (108, .inr (.inr (.inl (16, 11))))]
def PS_RX5 : List (Nat × AV) := []
theorem pf_RX5 : ∀ x ∈ PF_RX5, am_fok RX5 am_tb x := (List.forall_mem_cons.mpr ⟨fo_5 (by decide) (am_tb_mem (wd_3 _ (List.mem_of_getElem? (i := 11) rfl))), (List.forall_mem_cons.mpr ⟨fo_5 (by decide) (am_tb_mem (wd_3 _ (List.mem_of_getElem? (i := 12) rfl))), (List.forall_mem_cons.mpr ⟨fo_5 (by decide) (am_tb_mem (wd_3 _ (List.mem_of_getElem? (i := 15) rfl))), (List.forall_mem_cons.mpr ⟨fo_5 (by decide) (am_tb_mem (wd_3 _ (List.mem_of_getElem? (i := 13) rfl))), (List.forall_mem_cons.mpr ⟨fo_5 (by decide) (am_tb_mem (wd_3 _ (List.mem_of_getElem? (i := 14) rfl))), (List.forall_mem_cons.mpr ⟨fo_1 (by decide) (am_tb_mem (wd_2 _ (List.mem_of_getElem? (i := 29) rfl))), (List.forall_mem_cons.mpr ⟨fo_5 (by decide) (am_tb_mem (wd_3 _ (List.mem_of_getElem? (i := 16) rfl))), (List.forall_mem_cons.mpr ⟨fo_4 (by decide) (am_tb_mem (wd_3 _ (List.mem_of_getElem? (i := 5) rfl))), (List.forall_mem_cons.mpr ⟨fo_4 (by decide) (am_tb_mem (wd_3 _ (List.mem_of_getElem? (i := 7) rfl))), (fun _ q => by cases q)⟩)⟩)⟩)⟩)⟩)⟩)⟩)⟩)⟩)
theorem pk_RX5 : ∀ x ∈ PK_RX5, am_kok RX5 am_tb x := (List.forall_mem_cons.mpr ⟨(show am_kok RX5 am_tb (44, .inr (.inr (.inl (16, 0)))) from ⟨rfl, by decide, rfl, rfl⟩), (List.forall_mem_cons.mpr ⟨(show am_kok RX5 am_tb (53, .inr (.inr (.inl (16, 1)))) from ⟨rfl, by decide, rfl, rfl⟩), (List.forall_mem_cons.mpr ⟨(show am_kok RX5 am_tb (66, .inr (.inr (.inl (16, 2)))) from ⟨rfl, by decide, rfl, rfl⟩), (List.forall_mem_cons.mpr ⟨(show am_kok RX5 am_tb (72, .inr (.inr (.inl (16, 3)))) from ⟨rfl, by decide, rfl, rfl⟩), (List.forall_mem_cons.mpr ⟨(show am_kok RX5 am_tb (74, .inr (.inr (.inl (16, 4)))) from ⟨rfl, by decide, rfl, rfl⟩), (List.forall_mem_cons.mpr ⟨(show am_kok RX5 am_tb (83, .inr (.inr (.inl (16, 5)))) from ⟨rfl, by decide, rfl, rfl⟩), (List.forall_mem_cons.mpr ⟨(show am_kok RX5 am_tb (98, .inr (.inr (.inl (16, 6)))) from ⟨rfl, by decide, rfl, rfl⟩), (List.forall_mem_cons.mpr ⟨(show am_kok RX5 am_tb (100, .inr (.inr (.inl (16, 7)))) from ⟨rfl, by decide, rfl, rfl⟩), (List.forall_mem_cons.mpr ⟨(show am_kok RX5 am_tb (102, .inr (.inr (.inl (16, 8)))) from ⟨rfl, by decide, rfl, rfl⟩), (List.forall_mem_cons.mpr ⟨(show am_kok RX5 am_tb (104, .inr (.inr (.inl (16, 9)))) from ⟨rfl, by decide, rfl, rfl⟩), (List.forall_mem_cons.mpr ⟨(show am_kok RX5 am_tb (106, .inr (.inr (.inl (16, 10)))) from ⟨rfl, by decide, rfl, rfl⟩), (List.forall_mem_cons.mpr ⟨(show am_kok RX5 am_tb (108, .inr (.inr (.inl (16, 11)))) from ⟨rfl, by decide, rfl, rfl⟩), (fun _ q => by cases q)⟩)⟩)⟩)⟩)⟩)⟩)⟩)⟩)⟩)⟩)⟩)⟩)
theorem ps_RX5 : ∀ x ∈ PS_RX5, am_sok RX5 am_tb x := (fun _ q => by cases q)
def PF_RX6 : List (Nat × Nat × Nat) := [(10, 6, 0), (16, 6, 1), (19, 6, 2), (25, 6, 4), (34, 6, 5), (40, 6, 6), (45, 6, 7), (73, 1, 2), (77, 0, 0), (83, 0, 1), (86, 0, 2), (89, 0, 3), (92, 0, 4), (95, 0, 5), (98, 1, 1), (107, 1, 0), (142, 1, 4), (146, 2, 0), (151, 2, 1), (224, 1, 3), (241, 4, 1), (258, 3, 1), (265, 3, 2), (273, 3, 0), (292, 6, 3), (296, 1, 5)]
def PK_RX6 : List (Nat × AV) := [(56, .inl (-1000000001)), (65, .inl (-1000000002)), (120, .inl (-1000000003)), (124, .inl (-1000000004)), (163, .inl (-1000000005)), (253, .inl (-1000000007)), (264, .inl (-1000000006)), (285, .inr (.inl 99)), (287, .inr (.inl 16))]
def PS_RX6 : List (Nat × AV) := []
theorem pf_RX6 : ∀ x ∈ PF_RX6, am_fok RX6 am_tb x := (List.forall_mem_cons.mpr ⟨fo_6 (by decide) (am_tb_mem (wd_3 _ (List.mem_of_getElem? (i := 32) rfl))), (List.forall_mem_cons.mpr ⟨fo_6 (by decide) (am_tb_mem (wd_3 _ (List.mem_of_getElem? (i := 33) rfl))), (List.forall_mem_cons.mpr ⟨fo_6 (by decide) (am_tb_mem (wd_3 _ (List.mem_of_getElem? (i := 34) rfl))), (List.forall_mem_cons.mpr ⟨fo_6 (by decide) (am_tb_mem (wd_3 _ (List.mem_of_getElem? (i := 36) rfl))), (List.forall_mem_cons.mpr ⟨fo_6 (by decide) (am_tb_mem (wd_3 _ (List.mem_of_getElem? (i := 37) rfl))), (List.forall_mem_cons.mpr ⟨fo_6 (by decide) (am_tb_mem (wd_3 _ (List.mem_of_getElem? (i := 38) rfl))), (List.forall_mem_cons.mpr ⟨fo_6 (by decide) (am_tb_mem (wd_3 _ (List.mem_of_getElem? (i := 39) rfl))), (List.forall_mem_cons.mpr ⟨fo_1 (by decide) (am_tb_mem (wd_2 _ (List.mem_of_getElem? (i := 31) rfl))), (List.forall_mem_cons.mpr ⟨fo_0 (by decide) (am_tb_mem (wd_1 _ (List.mem_of_getElem? (i := 34) rfl))), (List.forall_mem_cons.mpr ⟨fo_0 (by decide) (am_tb_mem (wd_1 _ (List.mem_of_getElem? (i := 37) rfl))), (List.forall_mem_cons.mpr ⟨fo_0 (by decide) (am_tb_mem (wd_2 _ (List.mem_of_getElem? (i := 0) rfl))), (List.forall_mem_cons.mpr ⟨fo_0 (by decide) (am_tb_mem (wd_2 _ (List.mem_of_getElem? (i := 3) rfl))), (List.forall_mem_cons.mpr ⟨fo_0 (by decide) (am_tb_mem (wd_2 _ (List.mem_of_getElem? (i := 6) rfl))), (List.forall_mem_cons.mpr ⟨fo_0 (by decide) (am_tb_mem (wd_2 _ (List.mem_of_getElem? (i := 9) rfl))), (List.forall_mem_cons.mpr ⟨fo_1 (by decide) (am_tb_mem (wd_2 _ (List.mem_of_getElem? (i := 28) rfl))), (List.forall_mem_cons.mpr ⟨fo_1 (by decide) (am_tb_mem (wd_2 _ (List.mem_of_getElem? (i := 26) rfl))), (List.forall_mem_cons.mpr ⟨fo_1 (by decide) (am_tb_mem (wd_2 _ (List.mem_of_getElem? (i := 35) rfl))), (List.forall_mem_cons.mpr ⟨fo_2 (by decide) (am_tb_mem (wd_2 _ (List.mem_of_getElem? (i := 19) rfl))), (List.forall_mem_cons.mpr ⟨fo_2 (by decide) (am_tb_mem (wd_2 _ (List.mem_of_getElem? (i := 22) rfl))), (List.forall_mem_cons.mpr ⟨fo_1 (by decide) (am_tb_mem (wd_2 _ (List.mem_of_getElem? (i := 33) rfl))), (List.forall_mem_cons.mpr ⟨fo_4 (by decide) (am_tb_mem (wd_3 _ (List.mem_of_getElem? (i := 8) rfl))), (List.forall_mem_cons.mpr ⟨fo_3 (by decide) (am_tb_mem (wd_3 _ (List.mem_of_getElem? (i := 26) rfl))), (List.forall_mem_cons.mpr ⟨fo_3 (by decide) (am_tb_mem (wd_3 _ (List.mem_of_getElem? (i := 28) rfl))), (List.forall_mem_cons.mpr ⟨fo_3 (by decide) (am_tb_mem (wd_3 _ (List.mem_of_getElem? (i := 24) rfl))), (List.forall_mem_cons.mpr ⟨fo_6 (by decide) (am_tb_mem (wd_3 _ (List.mem_of_getElem? (i := 35) rfl))), (List.forall_mem_cons.mpr ⟨fo_1 (by decide) (am_tb_mem (wd_2 _ (List.mem_of_getElem? (i := 37) rfl))), (fun _ q => by cases q)⟩)⟩)⟩)⟩)⟩)⟩)⟩)⟩)⟩)⟩)⟩)⟩)⟩)⟩)⟩)⟩)⟩)⟩)⟩)⟩)⟩)⟩)⟩)⟩)⟩)⟩)
theorem pk_RX6 : ∀ x ∈ PK_RX6, am_kok RX6 am_tb x := (List.forall_mem_cons.mpr ⟨(am_tb_mem (wd_4 _ (List.mem_of_getElem? (i := 18) rfl))), (List.forall_mem_cons.mpr ⟨(am_tb_mem (wd_4 _ (List.mem_of_getElem? (i := 26) rfl))), (List.forall_mem_cons.mpr ⟨(am_tb_mem (wd_5 _ (List.mem_of_getElem? (i := 31) rfl))), (List.forall_mem_cons.mpr ⟨(am_tb_mem (wd_6 _ (List.mem_of_getElem? (i := 8) rfl))), (List.forall_mem_cons.mpr ⟨(am_tb_mem (wd_7 _ (List.mem_of_getElem? (i := 34) rfl))), (List.forall_mem_cons.mpr ⟨(am_tb_mem (wd_14 _ (List.mem_of_getElem? (i := 27) rfl))), (List.forall_mem_cons.mpr ⟨(am_tb_mem (wd_15 _ (List.mem_of_getElem? (i := 0) rfl))), (List.forall_mem_cons.mpr ⟨(am_tb_mem (wd_15 _ (List.mem_of_getElem? (i := 20) rfl))), (List.forall_mem_cons.mpr ⟨(am_tb_mem (wd_15 _ (List.mem_of_getElem? (i := 29) rfl))), (fun _ q => by cases q)⟩)⟩)⟩)⟩)⟩)⟩)⟩)⟩)⟩)
theorem ps_RX6 : ∀ x ∈ PS_RX6, am_sok RX6 am_tb x := (fun _ q => by cases q)
theorem pa_RX6 : ∀ x ∈ [((279 : Nat), ())], am_aok RX6 am_tb (am_Rm 1 64) x := (List.forall_mem_cons.mpr ⟨⟨(am_tb_mem (wd_15 _ (List.mem_of_getElem? (i := 13) rfl))), (am_tb_mem (wd_15 _ (List.mem_of_getElem? (i := 15) rfl))), (am_tb_mem (wd_15 _ (List.mem_of_getElem? (i := 14) rfl))), (am_tb_mem (wd_1 _ (List.mem_of_getElem? (i := 32) rfl))), by decide, by decide +kernel⟩, (fun _ q => by cases q)⟩)
def PF_RX7 : List (Nat × Nat × Nat) := [(7, 7, 0), (13, 7, 1), (16, 7, 2), (19, 7, 3), (22, 7, 11), (25, 7, 12), (28, 7, 13), (32, 7, 14), (35, 7, 15), (38, 7, 16), (172, 7, 4), (176, 7, 7), (179, 7, 6), (191, 7, 5), (194, 7, 8), (198, 7, 9), (223, 7, 10), (287, 7, 17)]
def PK_RX7 : List (Nat × AV) := [(41, .inl (-1000000001)), (81, .inl (-1000000002)), (92, .inl (-1000000003)), (100, .inl (-1000000004)), (126, .inl (-1000000005)), (201, .inr (.inl 27)), (203, .inr (.inl 96)), (205, .inr (.inl (-1))), (207, .inr (.inl 115601504)), (213, .inr (.inl 1418437)), (215, .inr (.inl 50684)), (217, .inr (.inl 365666)), (219, .inr (.inl 227126)), (221, .inr (.inl 6411644)), (233, .inr (.inl 131638)), (239, .inr (.inl 555)), (241, .inr (.inl 456399)), (247, .inr (.inl 47)), (255, .inr (.inl 189450486)), (260, .inr (.inl 247172)), (268, .inl (-1000000007)), (269, .inl (-1000000006)), (280, .inr (.inl 99)), (282, .inr (.inl 16))]
def PS_RX7 : List (Nat × AV) := []
theorem pf_RX7 : ∀ x ∈ PF_RX7, am_fok RX7 am_tb x := (List.forall_mem_cons.mpr ⟨fo_7 (by decide) (am_tb_mem (wd_16 _ (List.mem_of_getElem? (i := 15) rfl))), (List.forall_mem_cons.mpr ⟨fo_7 (by decide) (am_tb_mem (wd_16 _ (List.mem_of_getElem? (i := 16) rfl))), (List.forall_mem_cons.mpr ⟨fo_7 (by decide) (am_tb_mem (wd_16 _ (List.mem_of_getElem? (i := 17) rfl))), (List.forall_mem_cons.mpr ⟨fo_7 (by decide) (am_tb_mem (wd_16 _ (List.mem_of_getElem? (i := 18) rfl))), (List.forall_mem_cons.mpr ⟨fo_7 (by decide) (am_tb_mem (wd_16 _ (List.mem_of_getElem? (i := 26) rfl))), (List.forall_mem_cons.mpr ⟨fo_7 (by decide) (am_tb_mem (wd_16 _ (List.mem_of_getElem? (i := 27) rfl))), (List.forall_mem_cons.mpr ⟨fo_7 (by decide) (am_tb_mem (wd_16 _ (List.mem_of_getElem? (i := 28) rfl))), (List.forall_mem_cons.mpr ⟨fo_7 (by decide) (am_tb_mem (wd_16 _ (List.mem_of_getElem? (i := 29) rfl))), (List.forall_mem_cons.mpr ⟨fo_7 (by decide) (am_tb_mem (wd_16 _ (List.mem_of_getElem? (i := 30) rfl))), (List.forall_mem_cons.mpr ⟨fo_7 (by decide) (am_tb_mem (wd_16 _ (List.mem_of_getElem? (i := 31) rfl))), (List.forall_mem_cons.mpr ⟨fo_7 (by decide) (am_tb_mem (wd_16 _ (List.mem_of_getElem? (i := 19) rfl))), (List.forall_mem_cons.mpr ⟨fo_7 (by decide) (am_tb_mem (wd_16 _ (List.mem_of_getElem? (i := 22) rfl))), (List.forall_mem_cons.mpr ⟨fo_7 (by decide) (am_tb_mem (wd_16 _ (List.mem_of_getElem? (i := 21) rfl))), (List.forall_mem_cons.mpr ⟨fo_7 (by decide) (am_tb_mem (wd_16 _ (List.mem_of_getElem? (i := 20) rfl))), (List.forall_mem_cons.mpr ⟨fo_7 (by decide) (am_tb_mem (wd_16 _ (List.mem_of_getElem? (i := 23) rfl))), (List.forall_mem_cons.mpr ⟨fo_7 (by decide) (am_tb_mem (wd_16 _ (List.mem_of_getElem? (i := 24) rfl))), (List.forall_mem_cons.mpr ⟨fo_7 (by decide) (am_tb_mem (wd_16 _ (List.mem_of_getElem? (i := 25) rfl))), (List.forall_mem_cons.mpr ⟨fo_7 (by decide) (am_tb_mem (wd_16 _ (List.mem_of_getElem? (i := 32) rfl))), (fun _ q => by cases q)⟩)⟩)⟩)⟩)⟩)⟩)⟩)⟩)⟩)⟩)⟩)⟩)⟩)⟩)⟩)⟩)⟩)⟩)
theorem pk_RX7 : ∀ x ∈ PK_RX7, am_kok RX7 am_tb x := (List.forall_mem_cons.mpr ⟨(am_tb_mem (wd_17 _ (List.mem_of_getElem? (i := 24) rfl))), (List.forall_mem_cons.mpr ⟨(am_tb_mem (wd_17 _ (List.mem_of_getElem? (i := 28) rfl))), (List.forall_mem_cons.mpr ⟨(am_tb_mem (wd_18 _ (List.mem_of_getElem? (i := 32) rfl))), (List.forall_mem_cons.mpr ⟨(am_tb_mem (wd_19 _ (List.mem_of_getElem? (i := 3) rfl))), (List.forall_mem_cons.mpr ⟨(am_tb_mem (wd_20 _ (List.mem_of_getElem? (i := 6) rfl))), (List.forall_mem_cons.mpr ⟨(am_tb_mem (wd_23 _ (List.mem_of_getElem? (i := 22) rfl))), (List.forall_mem_cons.mpr ⟨(am_tb_mem (wd_23 _ (List.mem_of_getElem? (i := 23) rfl))), (List.forall_mem_cons.mpr ⟨(am_tb_mem (wd_23 _ (List.mem_of_getElem? (i := 24) rfl))), (List.forall_mem_cons.mpr ⟨(am_tb_mem (wd_23 _ (List.mem_of_getElem? (i := 31) rfl))), (List.forall_mem_cons.mpr ⟨(am_tb_mem (wd_23 _ (List.mem_of_getElem? (i := 35) rfl))), (List.forall_mem_cons.mpr ⟨(am_tb_mem (wd_23 _ (List.mem_of_getElem? (i := 36) rfl))), (List.forall_mem_cons.mpr ⟨(am_tb_mem (wd_23 _ (List.mem_of_getElem? (i := 37) rfl))), (List.forall_mem_cons.mpr ⟨(am_tb_mem (wd_23 _ (List.mem_of_getElem? (i := 38) rfl))), (List.forall_mem_cons.mpr ⟨(am_tb_mem (wd_23 _ (List.mem_of_getElem? (i := 39) rfl))), (List.forall_mem_cons.mpr ⟨(am_tb_mem (wd_24 _ (List.mem_of_getElem? (i := 3) rfl))), (List.forall_mem_cons.mpr ⟨(am_tb_mem (wd_24 _ (List.mem_of_getElem? (i := 10) rfl))), (List.forall_mem_cons.mpr ⟨(am_tb_mem (wd_24 _ (List.mem_of_getElem? (i := 11) rfl))), (List.forall_mem_cons.mpr ⟨(am_tb_mem (wd_24 _ (List.mem_of_getElem? (i := 19) rfl))), (List.forall_mem_cons.mpr ⟨(am_tb_mem (wd_24 _ (List.mem_of_getElem? (i := 15) rfl))), (List.forall_mem_cons.mpr ⟨(am_tb_mem (wd_24 _ (List.mem_of_getElem? (i := 20) rfl))), (List.forall_mem_cons.mpr ⟨(am_tb_mem (wd_24 _ (List.mem_of_getElem? (i := 28) rfl))), (List.forall_mem_cons.mpr ⟨(am_tb_mem (wd_24 _ (List.mem_of_getElem? (i := 33) rfl))), (List.forall_mem_cons.mpr ⟨(am_tb_mem (wd_25 _ (List.mem_of_getElem? (i := 11) rfl))), (List.forall_mem_cons.mpr ⟨(am_tb_mem (wd_25 _ (List.mem_of_getElem? (i := 20) rfl))), (fun _ q => by cases q)⟩)⟩)⟩)⟩)⟩)⟩)⟩)⟩)⟩)⟩)⟩)⟩)⟩)⟩)⟩)⟩)⟩)⟩)⟩)⟩)⟩)⟩)⟩)⟩)
theorem ps_RX7 : ∀ x ∈ PS_RX7, am_sok RX7 am_tb x := (fun _ q => by cases q)
end
section
/-! 09.jdk -/
def C_J6_bitCount_0f7a4 : List AC := [(0, .iload_n 0, 1, []), (1, .iload_n 0, 2, []), (2, .iconst 1, 3, []), (3, .iushr, 4, []), (4, .ldc_w 265, 7, []), (7, .iand, 8, []), (8, .isub, 9, []), (9, .istore_n 0, 10, []), (10, .iload_n 0, 11, []), (11, .ldc_w 266, 14, []), (14, .iand, 15, []), (15, .iload_n 0, 16, []), (16, .iconst 2, 17, []), (17, .iushr, 18, []), (18, .ldc_w 266, 21, []), (21, .iand, 22, []), (22, .iadd, 23, []), (23, .istore_n 0, 24, []), (24, .iload_n 0, 25, []), (25, .iload_n 0, 26, []), (26, .iconst 4, 27, []), (27, .iushr, 28, []), (28, .iadd, 29, []), (29, .ldc_w 267, 32, []), (32, .iand, 33, []), (33, .istore_n 0, 34, []), (34, .iload_n 0, 35, []), (35, .iload_n 0, 36, []), (36, .bipush 8, 38, []), (38, .iushr, 39, []), (39, .iadd, 40, []), (40, .istore_n 0, 41, []), (41, .iload_n 0, 42, []), (42, .iload_n 0, 43, []), (43, .bipush 16, 45, []), (45, .iushr, 46, []), (46, .iadd, 47, []), (47, .istore_n 0, 48, []), (48, .iload_n 0, 49, []), (49, .bipush 63, 51, []), (51, .iand, 52, []), (52, .ireturn, 53, [])]
theorem ok_J6_bitCount_0f7a4 : ∀ x ∈ C_J6_bitCount_0f7a4, am_ok cJ6_bitCount_0f7a4 1 x = true := by decide +kernel
noncomputable def P_J6_bitCount_0f7a4 : AP := (PF_RJ6, PK_RJ6, PS_RJ6, [], [], [])
noncomputable def g_J6_bitCount_0f7a4_41 (a1 : Int32) (h : HP) : Option (Int32 × HP) := some ((a1 + ((Int32.toUInt32 a1 >>> (Int32.toUInt32 16 &&& Int32.toUInt32 31)).toInt32)) &&& 63, h)
def pk_J6_bitCount_0f7a4_41 (k : Int32 → HP → Option (Int32 × HP)) : List AV → List AV → HP → Option (Int32 × HP) := fun L st h => match L, st with
  | [.inl a1], [] => k a1 h
  | _, _ => none
theorem pk_J6_bitCount_0f7a4_41_ok {Wp : List AV → List AV → HP → Prop} {r : (Int32 × HP)} {k : Int32 → HP → Option (Int32 × HP)} (hk : ∀ (a1 : Int32) (h : HP), k a1 h = some r → Wp [.inl a1] [] h) : ∀ L st h, pk_J6_bitCount_0f7a4_41 k L st h = some r → Wp L st h := by
  intro L st h q
  unfold pk_J6_bitCount_0f7a4_41 at q
  split at q
  · exact hk _ _ q
  · cases q
noncomputable def g_J6_bitCount_0f7a4_34 (a1 : Int32) (h : HP) : Option (Int32 × HP) := g_J6_bitCount_0f7a4_41 (a1 + ((Int32.toUInt32 a1 >>> (Int32.toUInt32 8 &&& Int32.toUInt32 31)).toInt32)) h
def pk_J6_bitCount_0f7a4_34 (k : Int32 → HP → Option (Int32 × HP)) : List AV → List AV → HP → Option (Int32 × HP) := fun L st h => match L, st with
  | [.inl a1], [] => k a1 h
  | _, _ => none
theorem pk_J6_bitCount_0f7a4_34_ok {Wp : List AV → List AV → HP → Prop} {r : (Int32 × HP)} {k : Int32 → HP → Option (Int32 × HP)} (hk : ∀ (a1 : Int32) (h : HP), k a1 h = some r → Wp [.inl a1] [] h) : ∀ L st h, pk_J6_bitCount_0f7a4_34 k L st h = some r → Wp L st h := by
  intro L st h q
  unfold pk_J6_bitCount_0f7a4_34 at q
  split at q
  · exact hk _ _ q
  · cases q
noncomputable def g_J6_bitCount_0f7a4_24 (a1 : Int32) (h : HP) : Option (Int32 × HP) := g_J6_bitCount_0f7a4_34 ((a1 + ((Int32.toUInt32 a1 >>> (Int32.toUInt32 4 &&& Int32.toUInt32 31)).toInt32)) &&& 252645135) h
def pk_J6_bitCount_0f7a4_24 (k : Int32 → HP → Option (Int32 × HP)) : List AV → List AV → HP → Option (Int32 × HP) := fun L st h => match L, st with
  | [.inl a1], [] => k a1 h
  | _, _ => none
theorem pk_J6_bitCount_0f7a4_24_ok {Wp : List AV → List AV → HP → Prop} {r : (Int32 × HP)} {k : Int32 → HP → Option (Int32 × HP)} (hk : ∀ (a1 : Int32) (h : HP), k a1 h = some r → Wp [.inl a1] [] h) : ∀ L st h, pk_J6_bitCount_0f7a4_24 k L st h = some r → Wp L st h := by
  intro L st h q
  unfold pk_J6_bitCount_0f7a4_24 at q
  split at q
  · exact hk _ _ q
  · cases q
noncomputable def g_J6_bitCount_0f7a4_10 (a1 : Int32) (h : HP) : Option (Int32 × HP) := g_J6_bitCount_0f7a4_24 ((a1 &&& 858993459) + (((Int32.toUInt32 a1 >>> (Int32.toUInt32 2 &&& Int32.toUInt32 31)).toInt32) &&& 858993459)) h
def pk_J6_bitCount_0f7a4_10 (k : Int32 → HP → Option (Int32 × HP)) : List AV → List AV → HP → Option (Int32 × HP) := fun L st h => match L, st with
  | [.inl a1], [] => k a1 h
  | _, _ => none
theorem pk_J6_bitCount_0f7a4_10_ok {Wp : List AV → List AV → HP → Prop} {r : (Int32 × HP)} {k : Int32 → HP → Option (Int32 × HP)} (hk : ∀ (a1 : Int32) (h : HP), k a1 h = some r → Wp [.inl a1] [] h) : ∀ L st h, pk_J6_bitCount_0f7a4_10 k L st h = some r → Wp L st h := by
  intro L st h q
  unfold pk_J6_bitCount_0f7a4_10 at q
  split at q
  · exact hk _ _ q
  · cases q
noncomputable def f_J6_bitCount_0f7a4 (a1 : Int32) (h : HP) : Option (Int32 × HP) := g_J6_bitCount_0f7a4_10 (a1 - (((Int32.toUInt32 a1 >>> (Int32.toUInt32 1 &&& Int32.toUInt32 31)).toInt32) &&& 1431655765)) h
noncomputable def fl_J6_bitCount_0f7a4 : List AV → HP → Option (Int32 × HP) := fun as h => match as with
  | [.inl a1] => f_J6_bitCount_0f7a4 a1 h
  | _ => none
noncomputable def F_J6_bitCount_0f7a4 : AF := .inl fl_J6_bitCount_0f7a4
set_option maxRecDepth 20000 in
theorem w_J6_bitCount_0f7a4_41 {p : Program} {l : Launch} {e : Env} {R : Room} {s : State} {m : MethodId} {args : Array Value} {below : List Frame} {meth : Method} {c : Code} {cells slots : Nat} {G : AG} {Q : (Int32 × HP) → State → Prop} (CX : am_X p l e R s m args below meth c cells slots G 1 cJ6_bitCount_0f7a4 RJ6 am_tb P_J6_bitCount_0f7a4 am_rI Q) {r : (Int32 × HP)} : ∀ (a1 : Int32) (h : HP), g_J6_bitCount_0f7a4_41 a1 h = some r → am_W p l e R s m args below meth c cells slots G 1 (Q r) 41 [.inl a1] [] h := by
  intro a1 h q
  exact am_run_ok CX ok_J6_bitCount_0f7a4 (K := []) (am_K0 (Wp := am_W p l e R s m args below meth c cells slots G 1 (Q r))) 13 41 _ _ _ q
set_option maxRecDepth 20000 in
theorem w_J6_bitCount_0f7a4_34 {p : Program} {l : Launch} {e : Env} {R : Room} {s : State} {m : MethodId} {args : Array Value} {below : List Frame} {meth : Method} {c : Code} {cells slots : Nat} {G : AG} {Q : (Int32 × HP) → State → Prop} (CX : am_X p l e R s m args below meth c cells slots G 1 cJ6_bitCount_0f7a4 RJ6 am_tb P_J6_bitCount_0f7a4 am_rI Q) {r : (Int32 × HP)} : ∀ (a1 : Int32) (h : HP), g_J6_bitCount_0f7a4_34 a1 h = some r → am_W p l e R s m args below meth c cells slots G 1 (Q r) 34 [.inl a1] [] h := by
  intro a1 h q
  exact am_run_ok CX ok_J6_bitCount_0f7a4 (K := [(41, pk_J6_bitCount_0f7a4_41 (g_J6_bitCount_0f7a4_41))]) (am_K1 (Wp := am_W p l e R s m args below meth c cells slots G 1 (Q r)) (pk_J6_bitCount_0f7a4_41_ok (Wp := am_W p l e R s m args below meth c cells slots G 1 (Q r) 41) (w_J6_bitCount_0f7a4_41 CX)) am_K0) 9 34 _ _ _ q
set_option maxRecDepth 20000 in
theorem w_J6_bitCount_0f7a4_24 {p : Program} {l : Launch} {e : Env} {R : Room} {s : State} {m : MethodId} {args : Array Value} {below : List Frame} {meth : Method} {c : Code} {cells slots : Nat} {G : AG} {Q : (Int32 × HP) → State → Prop} (CX : am_X p l e R s m args below meth c cells slots G 1 cJ6_bitCount_0f7a4 RJ6 am_tb P_J6_bitCount_0f7a4 am_rI Q) {r : (Int32 × HP)} : ∀ (a1 : Int32) (h : HP), g_J6_bitCount_0f7a4_24 a1 h = some r → am_W p l e R s m args below meth c cells slots G 1 (Q r) 24 [.inl a1] [] h := by
  intro a1 h q
  exact am_run_ok CX ok_J6_bitCount_0f7a4 (K := [(34, pk_J6_bitCount_0f7a4_34 (g_J6_bitCount_0f7a4_34))]) (am_K1 (Wp := am_W p l e R s m args below meth c cells slots G 1 (Q r)) (pk_J6_bitCount_0f7a4_34_ok (Wp := am_W p l e R s m args below meth c cells slots G 1 (Q r) 34) (w_J6_bitCount_0f7a4_34 CX)) am_K0) 11 24 _ _ _ q
set_option maxRecDepth 20000 in
theorem w_J6_bitCount_0f7a4_10 {p : Program} {l : Launch} {e : Env} {R : Room} {s : State} {m : MethodId} {args : Array Value} {below : List Frame} {meth : Method} {c : Code} {cells slots : Nat} {G : AG} {Q : (Int32 × HP) → State → Prop} (CX : am_X p l e R s m args below meth c cells slots G 1 cJ6_bitCount_0f7a4 RJ6 am_tb P_J6_bitCount_0f7a4 am_rI Q) {r : (Int32 × HP)} : ∀ (a1 : Int32) (h : HP), g_J6_bitCount_0f7a4_10 a1 h = some r → am_W p l e R s m args below meth c cells slots G 1 (Q r) 10 [.inl a1] [] h := by
  intro a1 h q
  exact am_run_ok CX ok_J6_bitCount_0f7a4 (K := [(24, pk_J6_bitCount_0f7a4_24 (g_J6_bitCount_0f7a4_24))]) (am_K1 (Wp := am_W p l e R s m args below meth c cells slots G 1 (Q r)) (pk_J6_bitCount_0f7a4_24_ok (Wp := am_W p l e R s m args below meth c cells slots G 1 (Q r) 24) (w_J6_bitCount_0f7a4_24 CX)) am_K0) 13 10 _ _ _ q
set_option maxRecDepth 20000 in
theorem b_J6_bitCount_0f7a4 (l : Launch) (G : AG) : am_B l G 1 cJ6_bitCount_0f7a4 RJ6 am_tb P_J6_bitCount_0f7a4 am_rI fl_J6_bitCount_0f7a4 := by
  intro p e R s m args below meth c cells slots Q CX as h r q
  unfold fl_J6_bitCount_0f7a4 at q
  split at q
  · exact am_run_ok CX ok_J6_bitCount_0f7a4 (K := [(10, pk_J6_bitCount_0f7a4_10 (g_J6_bitCount_0f7a4_10))]) (am_K1 (Wp := am_W p l e R s m args below meth c cells slots G 1 (Q r)) (pk_J6_bitCount_0f7a4_10_ok (Wp := am_W p l e R s m args below meth c cells slots G 1 (Q r) 10) (w_J6_bitCount_0f7a4_10 CX)) am_K0) 11 0 _ _ _ q
  · cases q
theorem s_J6_bitCount_0f7a4 : ∀ as h x, fl_J6_bitCount_0f7a4 as h = some x → (∀ k, (none : Option Nat) = some k → ∃ (j : Nat) (as' : List AV), as = .inr (.inr (.inl (k, j))) :: as') ∧ (am_l0 as).length ≤ 1 := by
  intro as h x q
  unfold fl_J6_bitCount_0f7a4 at q
  split at q
  · exact ⟨fun k e => (by cases e), Nat.le_of_ble_eq_true rfl⟩
  · cases q
theorem M_J6_bitCount_0f7a4 (l : Launch) (G : AG) : am_M l G yJ6_bitCount_0f7a4 cJ6_bitCount_0f7a4 1 (some .int) 0 0 none F_J6_bitCount_0f7a4 := am_M_of (f := fl_J6_bitCount_0f7a4) (toR := fun x => (some (.inl x.1), x.2)) (P := P_J6_bitCount_0f7a4) (Rr := am_rI) (own := RJ6) (by decide) rfl (fun _ _ => rfl) s_J6_bitCount_0f7a4 am_wrI am_rkI pf_RJ6 pk_RJ6 ps_RJ6 (fun _ q => by cases q) (fun _ q => by cases q) (fun _ q => by cases q) (b_J6_bitCount_0f7a4 l G)
def C_J0_coder_7d493 : List AC := [(0, .getstatic 38, 3, []), (3, .ifCond .eq 10, 6, [13]), (6, .aload_n 0, 7, []), (7, .getfield 15, 10, []), (10, .goto 4, 13, [14]), (13, .iconst 1, 14, []), (14, .ireturn, 15, [])]
theorem ok_J0_coder_7d493 : ∀ x ∈ C_J0_coder_7d493, am_ok cJ0_coder_7d493 1 x = true := by decide +kernel
noncomputable def P_J0_coder_7d493 : AP := (PF_RJ0, PK_RJ0, PS_RJ0, [], [], [])
noncomputable def f_J0_coder_7d493 (a1 : Nat) (h : HP) : Option (Int32 × HP) := some ((Int32.toInt8 0).toInt32, h)
noncomputable def fl_J0_coder_7d493 : List AV → HP → Option (Int32 × HP) := fun as h => match as with
  | [.inr (.inr (.inl (16, a1)))] => f_J0_coder_7d493 a1 h
  | _ => none
noncomputable def F_J0_coder_7d493 : AF := .inl fl_J0_coder_7d493
set_option maxRecDepth 20000 in
theorem b_J0_coder_7d493 (l : Launch) (G : AG) : am_B l G 1 cJ0_coder_7d493 RJ0 am_tb P_J0_coder_7d493 am_rB fl_J0_coder_7d493 := by
  intro p e R s m args below meth c cells slots Q CX as h r q
  unfold fl_J0_coder_7d493 at q
  split at q
  · exact am_run_ok CX ok_J0_coder_7d493 (K := []) (am_K0 (Wp := am_W p l e R s m args below meth c cells slots G 1 (Q r))) 9 0 _ _ _ q
  · cases q
theorem s_J0_coder_7d493 : ∀ as h x, fl_J0_coder_7d493 as h = some x → (∀ k, (some 16 : Option Nat) = some k → ∃ (j : Nat) (as' : List AV), as = .inr (.inr (.inl (k, j))) :: as') ∧ (am_l0 as).length ≤ 1 := by
  intro as h x q
  unfold fl_J0_coder_7d493 at q
  split at q
  · exact ⟨fun k e => by cases e; exact ⟨_, _, rfl⟩, Nat.le_of_ble_eq_true rfl⟩
  · cases q
theorem M_J0_coder_7d493 (l : Launch) (G : AG) : am_M l G yJ0_coder_7d493 cJ0_coder_7d493 1 (some .byte) 0 0 (some 16) F_J0_coder_7d493 := am_M_of (f := fl_J0_coder_7d493) (toR := fun x => (some (.inl x.1), x.2)) (P := P_J0_coder_7d493) (Rr := am_rB) (own := RJ0) (by decide) rfl (fun _ _ => rfl) s_J0_coder_7d493 am_wrI am_rkB pf_RJ0 pk_RJ0 ps_RJ0 (fun _ q => by cases q) (fun _ q => by cases q) (fun _ q => by cases q) (b_J0_coder_7d493 l G)
theorem cv_RJ0_335 (l : Launch) (G : AG) {fr lo : Nat} (h1 : 0 + 1 ≤ fr) (h2 : 8 + (1 + 11) + 0 ≤ lo) : am_cvOK l G RJ0 fr lo (335, 1, F_J0_coder_7d493) := ⟨yJ0_coder_7d493, cJ0_coder_7d493, 1, (some .byte), 0, 0, 16, RJ0, M_J0_coder_7d493 l G, ⟨(am_tb_mem (wd_13 _ (List.mem_of_getElem? (i := 18) rfl))), (am_tb_mem (wd_13 _ (List.mem_of_getElem? (i := 19) rfl))), (am_tb_mem (wd_13 _ (List.mem_of_getElem? (i := 20) rfl))), (am_tb_mem (wd_1 _ (List.mem_of_getElem? (i := 29) rfl))), (am_tb_mem (wd_13 _ (List.mem_of_getElem? (i := 21) rfl)))⟩, ⟨rfl, by decide, by decide, by decide +kernel⟩, Or.inr ⟨rfl, rfl⟩, h1, h2⟩
def C_J0_length_8abf5 : List AC := [(0, .aload_n 0, 1, []), (1, .getfield 9, 4, []), (4, .arraylength, 5, []), (5, .aload_n 0, 6, []), (6, .invokevirtual 335, 9, []), (9, .ishr, 10, []), (10, .ireturn, 11, [])]
theorem ok_J0_length_8abf5 : ∀ x ∈ C_J0_length_8abf5, am_ok cJ0_length_8abf5 1 x = true := by decide +kernel
noncomputable def P_J0_length_8abf5 : AP := (PF_RJ0, PK_RJ0, PS_RJ0, [(335, 1, F_J0_coder_7d493)], [], [])
noncomputable def f_J0_length_8abf5 (a1 : Nat) (h : HP) : Option (Int32 × HP) := (f_J0_coder_7d493 a1 h).bind (fun q_1 => some ((Int32.ofNat (am_bln.getD a1 0)) >>> (q_1.1 &&& 31), q_1.2))
noncomputable def fl_J0_length_8abf5 : List AV → HP → Option (Int32 × HP) := fun as h => match as with
  | [.inr (.inr (.inl (16, a1)))] => f_J0_length_8abf5 a1 h
  | _ => none
noncomputable def F_J0_length_8abf5 : AF := .inl fl_J0_length_8abf5
set_option maxRecDepth 20000 in
theorem b_J0_length_8abf5 (l : Launch) (G : AG) : am_B l G 1 cJ0_length_8abf5 RJ0 am_tb P_J0_length_8abf5 am_rI fl_J0_length_8abf5 := by
  intro p e R s m args below meth c cells slots Q CX as h r q
  unfold fl_J0_length_8abf5 at q
  split at q
  · exact am_run_ok CX ok_J0_length_8abf5 (K := []) (am_K0 (Wp := am_W p l e R s m args below meth c cells slots G 1 (Q r))) 10 0 _ _ _ q
  · cases q
theorem s_J0_length_8abf5 : ∀ as h x, fl_J0_length_8abf5 as h = some x → (∀ k, (some 16 : Option Nat) = some k → ∃ (j : Nat) (as' : List AV), as = .inr (.inr (.inl (k, j))) :: as') ∧ (am_l0 as).length ≤ 1 := by
  intro as h x q
  unfold fl_J0_length_8abf5 at q
  split at q
  · exact ⟨fun k e => by cases e; exact ⟨_, _, rfl⟩, Nat.le_of_ble_eq_true rfl⟩
  · cases q
theorem M_J0_length_8abf5 (l : Launch) (G : AG) : am_M l G yJ0_length_8abf5 cJ0_length_8abf5 1 (some .int) 1 20 (some 16) F_J0_length_8abf5 := am_M_of (f := fl_J0_length_8abf5) (toR := fun x => (some (.inl x.1), x.2)) (P := P_J0_length_8abf5) (Rr := am_rI) (own := RJ0) (by decide) rfl (fun _ _ => rfl) s_J0_length_8abf5 am_wrI am_rkI pf_RJ0 pk_RJ0 ps_RJ0 (List.forall_mem_cons.mpr ⟨cv_RJ0_335 l G (by decide) (by decide), (fun _ q => by cases q)⟩) (fun _ q => by cases q) (fun _ q => by cases q) (b_J0_length_8abf5 l G)
def C_J3_checkIndex_8e157 : List AC := [(0, .iload_n 0, 1, []), (1, .ifCond .lt 8, 4, [9]), (4, .iload_n 0, 5, []), (5, .iload_n 1, 6, []), (6, .if_icmp .lt 10, 9, [16]), (9, .aload_n 2, 10, []), (16, .iload_n 0, 17, []), (17, .ireturn, 18, [])]
theorem ok_J3_checkIndex_8e157 : ∀ x ∈ C_J3_checkIndex_8e157, am_ok cJ3_checkIndex_8e157 3 x = true := by decide +kernel
noncomputable def P_J3_checkIndex_8e157 : AP := (PF_RJ3, PK_RJ3, PS_RJ3, [], [], [])
noncomputable def f_J3_checkIndex_8e157 (a1 : Int32) (a2 : Int32) (h : HP) : Option (Int32 × HP) := if a1 < (0 : Int32) then (none) else (if a1 < a2 then (some (a1, h)) else (none))
noncomputable def fl_J3_checkIndex_8e157 : List AV → HP → Option (Int32 × HP) := fun as h => match as with
  | [.inl a1, .inl a2, .inr (.inr (.inr ()))] => f_J3_checkIndex_8e157 a1 a2 h
  | _ => none
noncomputable def F_J3_checkIndex_8e157 : AF := .inl fl_J3_checkIndex_8e157
set_option maxRecDepth 20000 in
theorem b_J3_checkIndex_8e157 (l : Launch) (G : AG) : am_B l G 3 cJ3_checkIndex_8e157 RJ3 am_tb P_J3_checkIndex_8e157 am_rI fl_J3_checkIndex_8e157 := by
  intro p e R s m args below meth c cells slots Q CX as h r q
  unfold fl_J3_checkIndex_8e157 at q
  split at q
  · exact am_run_ok CX ok_J3_checkIndex_8e157 (K := []) (am_K0 (Wp := am_W p l e R s m args below meth c cells slots G 3 (Q r))) 10 0 _ _ _ q
  · cases q
theorem s_J3_checkIndex_8e157 : ∀ as h x, fl_J3_checkIndex_8e157 as h = some x → (∀ k, (none : Option Nat) = some k → ∃ (j : Nat) (as' : List AV), as = .inr (.inr (.inl (k, j))) :: as') ∧ (am_l0 as).length ≤ 3 := by
  intro as h x q
  unfold fl_J3_checkIndex_8e157 at q
  split at q
  · exact ⟨fun k e => (by cases e), Nat.le_of_ble_eq_true rfl⟩
  · cases q
theorem M_J3_checkIndex_8e157 (l : Launch) (G : AG) : am_M l G yJ3_checkIndex_8e157 cJ3_checkIndex_8e157 3 (some .int) 0 0 none F_J3_checkIndex_8e157 := am_M_of (f := fl_J3_checkIndex_8e157) (toR := fun x => (some (.inl x.1), x.2)) (P := P_J3_checkIndex_8e157) (Rr := am_rI) (own := RJ3) (by decide) rfl (fun _ _ => rfl) s_J3_checkIndex_8e157 am_wrI am_rkI pf_RJ3 pk_RJ3 ps_RJ3 (fun _ q => by cases q) (fun _ q => by cases q) (fun _ q => by cases q) (b_J3_checkIndex_8e157 l G)
theorem cs_RJ0_1059 (l : Launch) (G : AG) {fr lo : Nat} (h1 : 0 + 1 ≤ fr) (h2 : 8 + (3 + 11) + 0 ≤ lo) : am_csOK l G RJ0 fr lo (1059, 3, F_J3_checkIndex_8e157) := Or.inl ⟨yJ3_checkIndex_8e157, cJ3_checkIndex_8e157, 3, (some .int), 0, 0, M_J3_checkIndex_8e157 l G, ⟨(am_tb_mem (wd_13 _ (List.mem_of_getElem? (i := 38) rfl))), (am_tb_mem (wd_13 _ (List.mem_of_getElem? (i := 39) rfl))), (am_tb_mem (wd_1 _ (List.mem_of_getElem? (i := 31) rfl))), (am_tb_mem (wd_14 _ (List.mem_of_getElem? (i := 0) rfl)))⟩, ⟨by decide, by decide, by decide +kernel⟩, h1, h2⟩
def C_J0_checkIndex_df160 : List AC := [(0, .iload_n 0, 1, []), (1, .iload_n 1, 2, []), (2, .getstatic 1053, 5, []), (5, .invokestatic 1059, 8, []), (8, .pop, 9, []), (9, .return_, 10, [])]
theorem ok_J0_checkIndex_df160 : ∀ x ∈ C_J0_checkIndex_df160, am_ok cJ0_checkIndex_df160 2 x = true := by decide +kernel
noncomputable def P_J0_checkIndex_df160 : AP := (PF_RJ0, PK_RJ0, PS_RJ0, [], [(1059, 3, F_J3_checkIndex_8e157)], [])
noncomputable def f_J0_checkIndex_df160 (a1 : Int32) (a2 : Int32) (h : HP) : Option HP := (f_J3_checkIndex_8e157 a1 a2 h).bind (fun q_1 => some q_1.2)
noncomputable def fl_J0_checkIndex_df160 : List AV → HP → Option HP := fun as h => match as with
  | [.inl a1, .inl a2] => f_J0_checkIndex_df160 a1 a2 h
  | _ => none
noncomputable def F_J0_checkIndex_df160 : AF := .inr (.inl fl_J0_checkIndex_df160)
set_option maxRecDepth 20000 in
theorem b_J0_checkIndex_df160 (l : Launch) (G : AG) : am_B l G 2 cJ0_checkIndex_df160 RJ0 am_tb P_J0_checkIndex_df160 am_rV fl_J0_checkIndex_df160 := by
  intro p e R s m args below meth c cells slots Q CX as h r q
  unfold fl_J0_checkIndex_df160 at q
  split at q
  · exact am_run_ok CX ok_J0_checkIndex_df160 (K := []) (am_K0 (Wp := am_W p l e R s m args below meth c cells slots G 2 (Q r))) 9 0 _ _ _ q
  · cases q
theorem s_J0_checkIndex_df160 : ∀ as h x, fl_J0_checkIndex_df160 as h = some x → (∀ k, (none : Option Nat) = some k → ∃ (j : Nat) (as' : List AV), as = .inr (.inr (.inl (k, j))) :: as') ∧ (am_l0 as).length ≤ 2 := by
  intro as h x q
  unfold fl_J0_checkIndex_df160 at q
  split at q
  · exact ⟨fun k e => (by cases e), Nat.le_of_ble_eq_true rfl⟩
  · cases q
theorem M_J0_checkIndex_df160 (l : Launch) (G : AG) : am_M l G yJ0_checkIndex_df160 cJ0_checkIndex_df160 2 none 1 22 none F_J0_checkIndex_df160 := am_M_of (f := fl_J0_checkIndex_df160) (toR := fun x => (none, x)) (P := P_J0_checkIndex_df160) (Rr := am_rV) (own := RJ0) (by decide) rfl (fun _ _ => rfl) s_J0_checkIndex_df160 am_wrV am_rkV pf_RJ0 pk_RJ0 ps_RJ0 (fun _ q => by cases q) (List.forall_mem_cons.mpr ⟨cs_RJ0_1059 l G (by decide) (by decide), (fun _ q => by cases q)⟩) (fun _ q => by cases q) (b_J0_checkIndex_df160 l G)
theorem cs_RJ1_9 (l : Launch) (G : AG) {fr lo : Nat} (h1 : 1 + 1 ≤ fr) (h2 : 8 + (2 + 11) + 22 ≤ lo) : am_csOK l G RJ1 fr lo (9, 2, F_J0_checkIndex_df160) := Or.inl ⟨yJ0_checkIndex_df160, cJ0_checkIndex_df160, 2, none, 1, 22, M_J0_checkIndex_df160 l G, ⟨(am_tb_mem (wd_13 _ (List.mem_of_getElem? (i := 34) rfl))), (am_tb_mem (wd_13 _ (List.mem_of_getElem? (i := 35) rfl))), (am_tb_mem (wd_1 _ (List.mem_of_getElem? (i := 29) rfl))), (am_tb_mem (wd_13 _ (List.mem_of_getElem? (i := 36) rfl)))⟩, ⟨by decide, by decide, by decide +kernel⟩, h1, h2⟩
def C_J1_charAt_3b067 : List AC := [(0, .iload_n 1, 1, []), (1, .aload_n 0, 2, []), (2, .arraylength, 3, []), (3, .invokestatic 9, 6, []), (6, .aload_n 0, 7, []), (7, .iload_n 1, 8, []), (8, .baload, 9, []), (9, .sipush 255, 12, []), (12, .iand, 13, []), (13, .i2c, 14, []), (14, .ireturn, 15, [])]
theorem ok_J1_charAt_3b067 : ∀ x ∈ C_J1_charAt_3b067, am_ok cJ1_charAt_3b067 2 x = true := by decide +kernel
noncomputable def P_J1_charAt_3b067 : AP := (PF_RJ1, PK_RJ1, PS_RJ1, [], [(9, 2, F_J0_checkIndex_df160)], [])
noncomputable def f_J1_charAt_3b067 (a1 : Nat) (a2 : Int32) (h : HP) : Option (Int32 × HP) := (f_J0_checkIndex_df160 a2 (Int32.ofNat (am_bln.getD a1 0)) h).bind (fun q_1 => (am_ix a2 (am_bln.getD a1 0)).bind (fun k_2 => some ((Int32.toUInt32 ((Int32.toUInt32 (((am_byt.getD a1 []).getD k_2 0) &&& 255) % 65536).toInt32)).toUInt16.toUInt32.toInt32, q_1)))
noncomputable def fl_J1_charAt_3b067 : List AV → HP → Option (Int32 × HP) := fun as h => match as with
  | [.inr (.inr (.inl (17, a1))), .inl a2] => f_J1_charAt_3b067 a1 a2 h
  | _ => none
noncomputable def F_J1_charAt_3b067 : AF := .inl fl_J1_charAt_3b067
set_option maxRecDepth 20000 in
theorem b_J1_charAt_3b067 (l : Launch) (G : AG) : am_B l G 2 cJ1_charAt_3b067 RJ1 am_tb P_J1_charAt_3b067 am_rC fl_J1_charAt_3b067 := by
  intro p e R s m args below meth c cells slots Q CX as h r q
  unfold fl_J1_charAt_3b067 at q
  split at q
  · exact am_run_ok CX ok_J1_charAt_3b067 (K := []) (am_K0 (Wp := am_W p l e R s m args below meth c cells slots G 2 (Q r))) 14 0 _ _ _ q
  · cases q
theorem s_J1_charAt_3b067 : ∀ as h x, fl_J1_charAt_3b067 as h = some x → (∀ k, (none : Option Nat) = some k → ∃ (j : Nat) (as' : List AV), as = .inr (.inr (.inl (k, j))) :: as') ∧ (am_l0 as).length ≤ 2 := by
  intro as h x q
  unfold fl_J1_charAt_3b067 at q
  split at q
  · exact ⟨fun k e => (by cases e), Nat.le_of_ble_eq_true rfl⟩
  · cases q
theorem M_J1_charAt_3b067 (l : Launch) (G : AG) : am_M l G yJ1_charAt_3b067 cJ1_charAt_3b067 2 (some .char) 2 43 none F_J1_charAt_3b067 := am_M_of (f := fl_J1_charAt_3b067) (toR := fun x => (some (.inl x.1), x.2)) (P := P_J1_charAt_3b067) (Rr := am_rC) (own := RJ1) (by decide) rfl (fun _ _ => rfl) s_J1_charAt_3b067 am_wrI am_rkC pf_RJ1 pk_RJ1 ps_RJ1 (fun _ q => by cases q) (List.forall_mem_cons.mpr ⟨cs_RJ1_9 l G (by decide) (by decide), (fun _ q => by cases q)⟩) (fun _ q => by cases q) (b_J1_charAt_3b067 l G)
def C_J0_isLatin1_aae02 : List AC := [(0, .getstatic 38, 3, []), (3, .ifCond .eq 14, 6, [17]), (6, .aload_n 0, 7, []), (7, .getfield 15, 10, []), (10, .ifCond .ne 7, 13, [17]), (13, .iconst 1, 14, []), (14, .goto 4, 17, [18]), (17, .iconst 0, 18, []), (18, .ireturn, 19, [])]
theorem ok_J0_isLatin1_aae02 : ∀ x ∈ C_J0_isLatin1_aae02, am_ok cJ0_isLatin1_aae02 1 x = true := by decide +kernel
noncomputable def P_J0_isLatin1_aae02 : AP := (PF_RJ0, PK_RJ0, PS_RJ0, [], [], [])
noncomputable def f_J0_isLatin1_aae02 (a1 : Nat) (h : HP) : Option (Int32 × HP) := some (1, h)
noncomputable def fl_J0_isLatin1_aae02 : List AV → HP → Option (Int32 × HP) := fun as h => match as with
  | [.inr (.inr (.inl (16, a1)))] => f_J0_isLatin1_aae02 a1 h
  | _ => none
noncomputable def F_J0_isLatin1_aae02 : AF := .inl fl_J0_isLatin1_aae02
set_option maxRecDepth 20000 in
theorem b_J0_isLatin1_aae02 (l : Launch) (G : AG) : am_B l G 1 cJ0_isLatin1_aae02 RJ0 am_tb P_J0_isLatin1_aae02 am_rZ fl_J0_isLatin1_aae02 := by
  intro p e R s m args below meth c cells slots Q CX as h r q
  unfold fl_J0_isLatin1_aae02 at q
  split at q
  · exact am_run_ok CX ok_J0_isLatin1_aae02 (K := []) (am_K0 (Wp := am_W p l e R s m args below meth c cells slots G 1 (Q r))) 11 0 _ _ _ q
  · cases q
theorem s_J0_isLatin1_aae02 : ∀ as h x, fl_J0_isLatin1_aae02 as h = some x → (∀ k, (some 16 : Option Nat) = some k → ∃ (j : Nat) (as' : List AV), as = .inr (.inr (.inl (k, j))) :: as') ∧ (am_l0 as).length ≤ 1 := by
  intro as h x q
  unfold fl_J0_isLatin1_aae02 at q
  split at q
  · exact ⟨fun k e => by cases e; exact ⟨_, _, rfl⟩, Nat.le_of_ble_eq_true rfl⟩
  · cases q
theorem M_J0_isLatin1_aae02 (l : Launch) (G : AG) : am_M l G yJ0_isLatin1_aae02 cJ0_isLatin1_aae02 1 (some .boolean) 0 0 (some 16) F_J0_isLatin1_aae02 := am_M_of (f := fl_J0_isLatin1_aae02) (toR := fun x => (some (.inl x.1), x.2)) (P := P_J0_isLatin1_aae02) (Rr := am_rZ) (own := RJ0) (by decide) rfl (fun _ _ => rfl) s_J0_isLatin1_aae02 am_wrI am_rkZ pf_RJ0 pk_RJ0 ps_RJ0 (fun _ q => by cases q) (fun _ q => by cases q) (fun _ q => by cases q) (b_J0_isLatin1_aae02 l G)
theorem cv_RJ0_492 (l : Launch) (G : AG) {fr lo : Nat} (h1 : 0 + 1 ≤ fr) (h2 : 8 + (1 + 11) + 0 ≤ lo) : am_cvOK l G RJ0 fr lo (492, 1, F_J0_isLatin1_aae02) := ⟨yJ0_isLatin1_aae02, cJ0_isLatin1_aae02, 1, (some .boolean), 0, 0, 16, RJ0, M_J0_isLatin1_aae02 l G, ⟨(am_tb_mem (wd_13 _ (List.mem_of_getElem? (i := 27) rfl))), (am_tb_mem (wd_13 _ (List.mem_of_getElem? (i := 28) rfl))), (am_tb_mem (wd_13 _ (List.mem_of_getElem? (i := 29) rfl))), (am_tb_mem (wd_1 _ (List.mem_of_getElem? (i := 29) rfl))), (am_tb_mem (wd_13 _ (List.mem_of_getElem? (i := 30) rfl)))⟩, ⟨rfl, by decide, by decide, by decide +kernel⟩, Or.inr ⟨rfl, rfl⟩, h1, h2⟩
theorem cs_RJ0_495 (l : Launch) (G : AG) {fr lo : Nat} (h1 : 2 + 1 ≤ fr) (h2 : 8 + (2 + 11) + 43 ≤ lo) : am_csOK l G RJ0 fr lo (495, 2, F_J1_charAt_3b067) := Or.inl ⟨yJ1_charAt_3b067, cJ1_charAt_3b067, 2, (some .char), 2, 43, M_J1_charAt_3b067 l G, ⟨(am_tb_mem (wd_13 _ (List.mem_of_getElem? (i := 31) rfl))), (am_tb_mem (wd_13 _ (List.mem_of_getElem? (i := 32) rfl))), (am_tb_mem (wd_1 _ (List.mem_of_getElem? (i := 30) rfl))), (am_tb_mem (wd_13 _ (List.mem_of_getElem? (i := 33) rfl)))⟩, ⟨by decide, by decide, by decide +kernel⟩, h1, h2⟩
def C_J0_charAt_5068e : List AC := [(0, .aload_n 0, 1, []), (1, .invokevirtual 492, 4, []), (4, .ifCond .eq 12, 7, [16]), (7, .aload_n 0, 8, []), (8, .getfield 9, 11, []), (11, .iload_n 1, 12, []), (12, .invokestatic 495, 15, []), (15, .ireturn, 16, []), (16, .aload_n 0, 17, []), (17, .getfield 9, 20, []), (20, .iload_n 1, 21, []), (21, .invokestatic 498, 24, [])]
theorem ok_J0_charAt_5068e : ∀ x ∈ C_J0_charAt_5068e, am_ok cJ0_charAt_5068e 2 x = true := by decide +kernel
noncomputable def P_J0_charAt_5068e : AP := (PF_RJ0, PK_RJ0, PS_RJ0, [(492, 1, F_J0_isLatin1_aae02)], [(495, 2, F_J1_charAt_3b067)], [])
noncomputable def f_J0_charAt_5068e (a1 : Nat) (a2 : Int32) (h : HP) : Option (Int32 × HP) := (f_J0_isLatin1_aae02 a1 h).bind (fun q_1 => if q_1.1 = (0 : Int32) then (none) else ((f_J1_charAt_3b067 a1 a2 q_1.2).bind (fun q_2 => some ((Int32.toUInt32 q_2.1).toUInt16.toUInt32.toInt32, q_2.2))))
noncomputable def fl_J0_charAt_5068e : List AV → HP → Option (Int32 × HP) := fun as h => match as with
  | [.inr (.inr (.inl (16, a1))), .inl a2] => f_J0_charAt_5068e a1 a2 h
  | _ => none
noncomputable def F_J0_charAt_5068e : AF := .inl fl_J0_charAt_5068e
set_option maxRecDepth 20000 in
theorem b_J0_charAt_5068e (l : Launch) (G : AG) : am_B l G 2 cJ0_charAt_5068e RJ0 am_tb P_J0_charAt_5068e am_rC fl_J0_charAt_5068e := by
  intro p e R s m args below meth c cells slots Q CX as h r q
  unfold fl_J0_charAt_5068e at q
  split at q
  · exact am_run_ok CX ok_J0_charAt_5068e (K := []) (am_K0 (Wp := am_W p l e R s m args below meth c cells slots G 2 (Q r))) 11 0 _ _ _ q
  · cases q
theorem s_J0_charAt_5068e : ∀ as h x, fl_J0_charAt_5068e as h = some x → (∀ k, (some 16 : Option Nat) = some k → ∃ (j : Nat) (as' : List AV), as = .inr (.inr (.inl (k, j))) :: as') ∧ (am_l0 as).length ≤ 2 := by
  intro as h x q
  unfold fl_J0_charAt_5068e at q
  split at q
  · exact ⟨fun k e => by cases e; exact ⟨_, _, rfl⟩, Nat.le_of_ble_eq_true rfl⟩
  · cases q
theorem M_J0_charAt_5068e (l : Launch) (G : AG) : am_M l G yJ0_charAt_5068e cJ0_charAt_5068e 2 (some .char) 3 64 (some 16) F_J0_charAt_5068e := am_M_of (f := fl_J0_charAt_5068e) (toR := fun x => (some (.inl x.1), x.2)) (P := P_J0_charAt_5068e) (Rr := am_rC) (own := RJ0) (by decide) rfl (fun _ _ => rfl) s_J0_charAt_5068e am_wrI am_rkC pf_RJ0 pk_RJ0 ps_RJ0 (List.forall_mem_cons.mpr ⟨cv_RJ0_492 l G (by decide) (by decide), (fun _ q => by cases q)⟩) (List.forall_mem_cons.mpr ⟨cs_RJ0_495 l G (by decide) (by decide), (fun _ q => by cases q)⟩) (fun _ q => by cases q) (b_J0_charAt_5068e l G)
end
section
/-! 10.parts -/
def C_X0_becomes : List AC := [(0, .aload_n 0, 1, []), (1, .aload_n 1, 2, []), (2, .getfield 15, 5, []), (5, .putfield 15, 8, []), (8, .aload_n 0, 9, []), (9, .aload_n 1, 10, []), (10, .getfield 18, 13, []), (13, .putfield 18, 16, []), (16, .aload_n 0, 17, []), (17, .aload_n 1, 18, []), (18, .getfield 21, 21, []), (21, .putfield 21, 24, []), (24, .aload_n 0, 25, []), (25, .aload_n 1, 26, []), (26, .getfield 24, 29, []), (29, .putfield 24, 32, []), (32, .aload_n 0, 33, []), (33, .aload_n 1, 34, []), (34, .getfield 9, 37, []), (37, .putfield 9, 40, []), (40, .aload_n 0, 41, []), (41, .aload_n 1, 42, []), (42, .getfield 27, 45, []), (45, .putfield 27, 48, []), (48, .return_, 49, [])]
theorem ok_X0_becomes : ∀ x ∈ C_X0_becomes, am_ok cX0_becomes 2 x = true := by decide +kernel
noncomputable def P_X0_becomes : AP := (PF_RX0, PK_RX0, PS_RX0, [], [], [])
noncomputable def f_X0_becomes (a1 : Nat) (a2 : Nat) (h : HP) : Option HP := some (h_wI (h_wI (h_wI (h_wI (h_wI (h_wI h 0 a1 0 (h_rI h 0 a2 0)) 0 a1 1 (h_rI (h_wI h 0 a1 0 (h_rI h 0 a2 0)) 0 a2 1)) 0 a1 2 (h_rI (h_wI (h_wI h 0 a1 0 (h_rI h 0 a2 0)) 0 a1 1 (h_rI (h_wI h 0 a1 0 (h_rI h 0 a2 0)) 0 a2 1)) 0 a2 2)) 0 a1 3 (h_rI (h_wI (h_wI (h_wI h 0 a1 0 (h_rI h 0 a2 0)) 0 a1 1 (h_rI (h_wI h 0 a1 0 (h_rI h 0 a2 0)) 0 a2 1)) 0 a1 2 (h_rI (h_wI (h_wI h 0 a1 0 (h_rI h 0 a2 0)) 0 a1 1 (h_rI (h_wI h 0 a1 0 (h_rI h 0 a2 0)) 0 a2 1)) 0 a2 2)) 0 a2 3)) 0 a1 4 (h_rI (h_wI (h_wI (h_wI (h_wI h 0 a1 0 (h_rI h 0 a2 0)) 0 a1 1 (h_rI (h_wI h 0 a1 0 (h_rI h 0 a2 0)) 0 a2 1)) 0 a1 2 (h_rI (h_wI (h_wI h 0 a1 0 (h_rI h 0 a2 0)) 0 a1 1 (h_rI (h_wI h 0 a1 0 (h_rI h 0 a2 0)) 0 a2 1)) 0 a2 2)) 0 a1 3 (h_rI (h_wI (h_wI (h_wI h 0 a1 0 (h_rI h 0 a2 0)) 0 a1 1 (h_rI (h_wI h 0 a1 0 (h_rI h 0 a2 0)) 0 a2 1)) 0 a1 2 (h_rI (h_wI (h_wI h 0 a1 0 (h_rI h 0 a2 0)) 0 a1 1 (h_rI (h_wI h 0 a1 0 (h_rI h 0 a2 0)) 0 a2 1)) 0 a2 2)) 0 a2 3)) 0 a2 4)) 0 a1 5 (h_rI (h_wI (h_wI (h_wI (h_wI (h_wI h 0 a1 0 (h_rI h 0 a2 0)) 0 a1 1 (h_rI (h_wI h 0 a1 0 (h_rI h 0 a2 0)) 0 a2 1)) 0 a1 2 (h_rI (h_wI (h_wI h 0 a1 0 (h_rI h 0 a2 0)) 0 a1 1 (h_rI (h_wI h 0 a1 0 (h_rI h 0 a2 0)) 0 a2 1)) 0 a2 2)) 0 a1 3 (h_rI (h_wI (h_wI (h_wI h 0 a1 0 (h_rI h 0 a2 0)) 0 a1 1 (h_rI (h_wI h 0 a1 0 (h_rI h 0 a2 0)) 0 a2 1)) 0 a1 2 (h_rI (h_wI (h_wI h 0 a1 0 (h_rI h 0 a2 0)) 0 a1 1 (h_rI (h_wI h 0 a1 0 (h_rI h 0 a2 0)) 0 a2 1)) 0 a2 2)) 0 a2 3)) 0 a1 4 (h_rI (h_wI (h_wI (h_wI (h_wI h 0 a1 0 (h_rI h 0 a2 0)) 0 a1 1 (h_rI (h_wI h 0 a1 0 (h_rI h 0 a2 0)) 0 a2 1)) 0 a1 2 (h_rI (h_wI (h_wI h 0 a1 0 (h_rI h 0 a2 0)) 0 a1 1 (h_rI (h_wI h 0 a1 0 (h_rI h 0 a2 0)) 0 a2 1)) 0 a2 2)) 0 a1 3 (h_rI (h_wI (h_wI (h_wI h 0 a1 0 (h_rI h 0 a2 0)) 0 a1 1 (h_rI (h_wI h 0 a1 0 (h_rI h 0 a2 0)) 0 a2 1)) 0 a1 2 (h_rI (h_wI (h_wI h 0 a1 0 (h_rI h 0 a2 0)) 0 a1 1 (h_rI (h_wI h 0 a1 0 (h_rI h 0 a2 0)) 0 a2 1)) 0 a2 2)) 0 a2 3)) 0 a2 4)) 0 a2 5))
noncomputable def fl_X0_becomes : List AV → HP → Option HP := fun as h => match as with
  | [.inr (.inr (.inl (0, a1))), .inr (.inr (.inl (0, a2)))] => f_X0_becomes a1 a2 h
  | _ => none
noncomputable def F_X0_becomes : AF := .inr (.inl fl_X0_becomes)
set_option maxRecDepth 20000 in
theorem b_X0_becomes (l : Launch) (G : AG) : am_B l G 2 cX0_becomes RX0 am_tb P_X0_becomes am_rV fl_X0_becomes := by
  intro p e R s m args below meth c cells slots Q CX as h r q
  unfold fl_X0_becomes at q
  split at q
  · exact am_run_ok CX ok_X0_becomes (K := []) (am_K0 (Wp := am_W p l e R s m args below meth c cells slots G 2 (Q r))) 28 0 _ _ _ q
  · cases q
theorem s_X0_becomes : ∀ as h x, fl_X0_becomes as h = some x → (∀ k, (some 0 : Option Nat) = some k → ∃ (j : Nat) (as' : List AV), as = .inr (.inr (.inl (k, j))) :: as') ∧ (am_l0 as).length ≤ 2 := by
  intro as h x q
  unfold fl_X0_becomes at q
  split at q
  · exact ⟨fun k e => by cases e; exact ⟨_, _, rfl⟩, Nat.le_of_ble_eq_true rfl⟩
  · cases q
theorem M_X0_becomes (l : Launch) (G : AG) : am_M l G yX0_becomes cX0_becomes 2 none 0 0 (some 0) F_X0_becomes := am_M_of (f := fl_X0_becomes) (toR := fun x => (none, x)) (P := P_X0_becomes) (Rr := am_rV) (own := RX0) (by decide) rfl (fun _ _ => rfl) s_X0_becomes am_wrV am_rkV pf_RX0 pk_RX0 ps_RX0 (fun _ q => by cases q) (fun _ q => by cases q) (fun _ q => by cases q) (b_X0_becomes l G)
def C_X0_isLent : List AC := [(0, .aload_n 0, 1, []), (1, .getfield 9, 4, []), (4, .iconst (-1), 5, []), (5, .if_icmp .eq 7, 8, [12]), (8, .iconst 1, 9, []), (9, .goto 4, 12, [13]), (12, .iconst 0, 13, []), (13, .ireturn, 14, [])]
theorem ok_X0_isLent : ∀ x ∈ C_X0_isLent, am_ok cX0_isLent 1 x = true := by decide +kernel
noncomputable def P_X0_isLent : AP := (PF_RX0, PK_RX0, PS_RX0, [], [], [])
noncomputable def f_X0_isLent (a1 : Nat) (h : HP) : Option (Int32 × HP) := if h_rI h 0 a1 4 = ((-1) : Int32) then (some (0, h)) else (some (1, h))
noncomputable def fl_X0_isLent : List AV → HP → Option (Int32 × HP) := fun as h => match as with
  | [.inr (.inr (.inl (0, a1)))] => f_X0_isLent a1 h
  | _ => none
noncomputable def F_X0_isLent : AF := .inl fl_X0_isLent
set_option maxRecDepth 20000 in
theorem b_X0_isLent (l : Launch) (G : AG) : am_B l G 1 cX0_isLent RX0 am_tb P_X0_isLent am_rZ fl_X0_isLent := by
  intro p e R s m args below meth c cells slots Q CX as h r q
  unfold fl_X0_isLent at q
  split at q
  · exact am_run_ok CX ok_X0_isLent (K := []) (am_K0 (Wp := am_W p l e R s m args below meth c cells slots G 1 (Q r))) 10 0 _ _ _ q
  · cases q
theorem s_X0_isLent : ∀ as h x, fl_X0_isLent as h = some x → (∀ k, (some 0 : Option Nat) = some k → ∃ (j : Nat) (as' : List AV), as = .inr (.inr (.inl (k, j))) :: as') ∧ (am_l0 as).length ≤ 1 := by
  intro as h x q
  unfold fl_X0_isLent at q
  split at q
  · exact ⟨fun k e => by cases e; exact ⟨_, _, rfl⟩, Nat.le_of_ble_eq_true rfl⟩
  · cases q
theorem M_X0_isLent (l : Launch) (G : AG) : am_M l G yX0_isLent cX0_isLent 1 (some .boolean) 0 0 (some 0) F_X0_isLent := am_M_of (f := fl_X0_isLent) (toR := fun x => (some (.inl x.1), x.2)) (P := P_X0_isLent) (Rr := am_rZ) (own := RX0) (by decide) rfl (fun _ _ => rfl) s_X0_isLent am_wrI am_rkZ pf_RX0 pk_RX0 ps_RX0 (fun _ q => by cases q) (fun _ q => by cases q) (fun _ q => by cases q) (b_X0_isLent l G)
def C_X0_isLate : List AC := [(0, .aload_n 0, 1, []), (1, .getfield 9, 4, []), (4, .iconst (-1), 5, []), (5, .if_icmp .eq 15, 8, [20]), (8, .aload_n 0, 9, []), (9, .getfield 27, 12, []), (12, .iload_n 1, 13, []), (13, .if_icmp .le 7, 16, [20]), (16, .iconst 1, 17, []), (17, .goto 4, 20, [21]), (20, .iconst 0, 21, []), (21, .ireturn, 22, [])]
theorem ok_X0_isLate : ∀ x ∈ C_X0_isLate, am_ok cX0_isLate 2 x = true := by decide +kernel
noncomputable def P_X0_isLate : AP := (PF_RX0, PK_RX0, PS_RX0, [], [], [])
noncomputable def f_X0_isLate (a1 : Nat) (a2 : Int32) (h : HP) : Option (Int32 × HP) := if h_rI h 0 a1 4 = ((-1) : Int32) then (some (0, h)) else (if h_rI h 0 a1 5 ≤ a2 then (some (0, h)) else (some (1, h)))
noncomputable def fl_X0_isLate : List AV → HP → Option (Int32 × HP) := fun as h => match as with
  | [.inr (.inr (.inl (0, a1))), .inl a2] => f_X0_isLate a1 a2 h
  | _ => none
noncomputable def F_X0_isLate : AF := .inl fl_X0_isLate
set_option maxRecDepth 20000 in
theorem b_X0_isLate (l : Launch) (G : AG) : am_B l G 2 cX0_isLate RX0 am_tb P_X0_isLate am_rZ fl_X0_isLate := by
  intro p e R s m args below meth c cells slots Q CX as h r q
  unfold fl_X0_isLate at q
  split at q
  · exact am_run_ok CX ok_X0_isLate (K := []) (am_K0 (Wp := am_W p l e R s m args below meth c cells slots G 2 (Q r))) 14 0 _ _ _ q
  · cases q
theorem s_X0_isLate : ∀ as h x, fl_X0_isLate as h = some x → (∀ k, (some 0 : Option Nat) = some k → ∃ (j : Nat) (as' : List AV), as = .inr (.inr (.inl (k, j))) :: as') ∧ (am_l0 as).length ≤ 2 := by
  intro as h x q
  unfold fl_X0_isLate at q
  split at q
  · exact ⟨fun k e => by cases e; exact ⟨_, _, rfl⟩, Nat.le_of_ble_eq_true rfl⟩
  · cases q
theorem M_X0_isLate (l : Launch) (G : AG) : am_M l G yX0_isLate cX0_isLate 2 (some .boolean) 0 0 (some 0) F_X0_isLate := am_M_of (f := fl_X0_isLate) (toR := fun x => (some (.inl x.1), x.2)) (P := P_X0_isLate) (Rr := am_rZ) (own := RX0) (by decide) rfl (fun _ _ => rfl) s_X0_isLate am_wrI am_rkZ pf_RX0 pk_RX0 ps_RX0 (fun _ q => by cases q) (fun _ q => by cases q) (fun _ q => by cases q) (b_X0_isLate l G)
def C_X0_isOfKind : List AC := [(0, .iload_n 1, 1, []), (1, .tableswitch 73 0 2 #[27, 29, 51], 28, [74, 28, 30, 52]), (28, .iconst 1, 29, []), (29, .ireturn, 30, []), (30, .aload_n 0, 31, []), (31, .getfield 15, 34, []), (34, .iconst 1, 35, []), (35, .if_icmp .eq 11, 38, [46]), (38, .aload_n 0, 39, []), (39, .getfield 15, 42, []), (42, .iconst 4, 43, []), (43, .if_icmp .ne 7, 46, [50]), (46, .iconst 1, 47, []), (47, .goto 4, 50, [51]), (50, .iconst 0, 51, []), (51, .ireturn, 52, []), (52, .aload_n 0, 53, []), (53, .getfield 15, 56, []), (56, .iconst 2, 57, []), (57, .if_icmp .eq 11, 60, [68]), (60, .aload_n 0, 61, []), (61, .getfield 15, 64, []), (64, .iconst 5, 65, []), (65, .if_icmp .ne 7, 68, [72]), (68, .iconst 1, 69, []), (69, .goto 4, 72, [73]), (72, .iconst 0, 73, []), (73, .ireturn, 74, []), (74, .aload_n 0, 75, []), (75, .getfield 15, 78, []), (78, .iload_n 1, 79, []), (79, .if_icmp .ne 7, 82, [86]), (82, .iconst 1, 83, []), (83, .goto 4, 86, [87]), (86, .iconst 0, 87, []), (87, .ireturn, 88, [])]
theorem ok_X0_isOfKind : ∀ x ∈ C_X0_isOfKind, am_ok cX0_isOfKind 2 x = true := by decide +kernel
noncomputable def P_X0_isOfKind : AP := (PF_RX0, PK_RX0, PS_RX0, [], [], [])
noncomputable def f_X0_isOfKind (a1 : Nat) (a2 : Int32) (h : HP) : Option (Int32 × HP) := if a2 = 0 then (some (1, h)) else (if a2 = 1 then (if h_rI h 0 a1 0 = (1 : Int32) then (some (1, h)) else (if h_rI h 0 a1 0 = (4 : Int32) then (some (1, h)) else (some (0, h)))) else (if a2 = 2 then (if h_rI h 0 a1 0 = (2 : Int32) then (some (1, h)) else (if h_rI h 0 a1 0 = (5 : Int32) then (some (1, h)) else (some (0, h)))) else (if h_rI h 0 a1 0 = a2 then (some (1, h)) else (some (0, h)))))
noncomputable def fl_X0_isOfKind : List AV → HP → Option (Int32 × HP) := fun as h => match as with
  | [.inr (.inr (.inl (0, a1))), .inl a2] => f_X0_isOfKind a1 a2 h
  | _ => none
noncomputable def F_X0_isOfKind : AF := .inl fl_X0_isOfKind
set_option maxRecDepth 20000 in
theorem b_X0_isOfKind (l : Launch) (G : AG) : am_B l G 2 cX0_isOfKind RX0 am_tb P_X0_isOfKind am_rZ fl_X0_isOfKind := by
  intro p e R s m args below meth c cells slots Q CX as h r q
  unfold fl_X0_isOfKind at q
  split at q
  · exact am_run_ok CX ok_X0_isOfKind (K := []) (am_K0 (Wp := am_W p l e R s m args below meth c cells slots G 2 (Q r))) 16 0 _ _ _ q
  · cases q
theorem s_X0_isOfKind : ∀ as h x, fl_X0_isOfKind as h = some x → (∀ k, (some 0 : Option Nat) = some k → ∃ (j : Nat) (as' : List AV), as = .inr (.inr (.inl (k, j))) :: as') ∧ (am_l0 as).length ≤ 2 := by
  intro as h x q
  unfold fl_X0_isOfKind at q
  split at q
  · exact ⟨fun k e => by cases e; exact ⟨_, _, rfl⟩, Nat.le_of_ble_eq_true rfl⟩
  · cases q
theorem M_X0_isOfKind (l : Launch) (G : AG) : am_M l G yX0_isOfKind cX0_isOfKind 2 (some .boolean) 0 0 (some 0) F_X0_isOfKind := am_M_of (f := fl_X0_isOfKind) (toR := fun x => (some (.inl x.1), x.2)) (P := P_X0_isOfKind) (Rr := am_rZ) (own := RX0) (by decide) rfl (fun _ _ => rfl) s_X0_isOfKind am_wrI am_rkZ pf_RX0 pk_RX0 ps_RX0 (fun _ q => by cases q) (fun _ q => by cases q) (fun _ q => by cases q) (b_X0_isOfKind l G)
def C_X0_isPairOf : List AC := [(0, .aload_n 0, 1, []), (1, .getfield 18, 4, []), (4, .aload_n 1, 5, []), (5, .getfield 18, 8, []), (8, .if_icmp .ne 14, 11, [22]), (11, .aload_n 0, 12, []), (12, .getfield 21, 15, []), (15, .aload_n 1, 16, []), (16, .getfield 21, 19, []), (19, .if_icmp .eq 25, 22, [44]), (22, .aload_n 0, 23, []), (23, .getfield 18, 26, []), (26, .aload_n 1, 27, []), (27, .getfield 21, 30, []), (30, .if_icmp .ne 18, 33, [48]), (33, .aload_n 0, 34, []), (34, .getfield 21, 37, []), (37, .aload_n 1, 38, []), (38, .getfield 18, 41, []), (41, .if_icmp .ne 7, 44, [48]), (44, .iconst 1, 45, []), (45, .goto 4, 48, [49]), (48, .iconst 0, 49, []), (49, .ireturn, 50, [])]
theorem ok_X0_isPairOf : ∀ x ∈ C_X0_isPairOf, am_ok cX0_isPairOf 2 x = true := by decide +kernel
noncomputable def P_X0_isPairOf : AP := (PF_RX0, PK_RX0, PS_RX0, [], [], [])
noncomputable def g_X0_isPairOf_22 (a1 : Nat) (a2 : Nat) (h : HP) : Option (Int32 × HP) := if h_rI h 0 a1 1 = h_rI h 0 a2 2 then (if h_rI h 0 a1 2 = h_rI h 0 a2 1 then (some (1, h)) else (some (0, h))) else (some (0, h))
def pk_X0_isPairOf_22 (k : Nat → Nat → HP → Option (Int32 × HP)) : List AV → List AV → HP → Option (Int32 × HP) := fun L st h => match L, st with
  | [.inr (.inr (.inl (0, a1))), .inr (.inr (.inl (0, a2)))], [] => k a1 a2 h
  | _, _ => none
theorem pk_X0_isPairOf_22_ok {Wp : List AV → List AV → HP → Prop} {r : (Int32 × HP)} {k : Nat → Nat → HP → Option (Int32 × HP)} (hk : ∀ (a1 : Nat) (a2 : Nat) (h : HP), k a1 a2 h = some r → Wp [.inr (.inr (.inl (0, a1))), .inr (.inr (.inl (0, a2)))] [] h) : ∀ L st h, pk_X0_isPairOf_22 k L st h = some r → Wp L st h := by
  intro L st h q
  unfold pk_X0_isPairOf_22 at q
  split at q
  · exact hk _ _ _ q
  · cases q
noncomputable def f_X0_isPairOf (a1 : Nat) (a2 : Nat) (h : HP) : Option (Int32 × HP) := if h_rI h 0 a1 1 = h_rI h 0 a2 1 then (if h_rI h 0 a1 2 = h_rI h 0 a2 2 then (some (1, h)) else (g_X0_isPairOf_22 a1 a2 h)) else (g_X0_isPairOf_22 a1 a2 h)
noncomputable def fl_X0_isPairOf : List AV → HP → Option (Int32 × HP) := fun as h => match as with
  | [.inr (.inr (.inl (0, a1))), .inr (.inr (.inl (0, a2)))] => f_X0_isPairOf a1 a2 h
  | _ => none
noncomputable def F_X0_isPairOf : AF := .inl fl_X0_isPairOf
set_option maxRecDepth 20000 in
theorem w_X0_isPairOf_22 {p : Program} {l : Launch} {e : Env} {R : Room} {s : State} {m : MethodId} {args : Array Value} {below : List Frame} {meth : Method} {c : Code} {cells slots : Nat} {G : AG} {Q : (Int32 × HP) → State → Prop} (CX : am_X p l e R s m args below meth c cells slots G 2 cX0_isPairOf RX0 am_tb P_X0_isPairOf am_rZ Q) {r : (Int32 × HP)} : ∀ (a1 : Nat) (a2 : Nat) (h : HP), g_X0_isPairOf_22 a1 a2 h = some r → am_W p l e R s m args below meth c cells slots G 2 (Q r) 22 [.inr (.inr (.inl (0, a1))), .inr (.inr (.inl (0, a2)))] [] h := by
  intro a1 a2 h q
  exact am_run_ok CX ok_X0_isPairOf (K := []) (am_K0 (Wp := am_W p l e R s m args below meth c cells slots G 2 (Q r))) 16 22 _ _ _ q
set_option maxRecDepth 20000 in
theorem b_X0_isPairOf (l : Launch) (G : AG) : am_B l G 2 cX0_isPairOf RX0 am_tb P_X0_isPairOf am_rZ fl_X0_isPairOf := by
  intro p e R s m args below meth c cells slots Q CX as h r q
  unfold fl_X0_isPairOf at q
  split at q
  · exact am_run_ok CX ok_X0_isPairOf (K := [(22, pk_X0_isPairOf_22 (g_X0_isPairOf_22))]) (am_K1 (Wp := am_W p l e R s m args below meth c cells slots G 2 (Q r)) (pk_X0_isPairOf_22_ok (Wp := am_W p l e R s m args below meth c cells slots G 2 (Q r) 22) (w_X0_isPairOf_22 CX)) am_K0) 16 0 _ _ _ q
  · cases q
theorem s_X0_isPairOf : ∀ as h x, fl_X0_isPairOf as h = some x → (∀ k, (some 0 : Option Nat) = some k → ∃ (j : Nat) (as' : List AV), as = .inr (.inr (.inl (k, j))) :: as') ∧ (am_l0 as).length ≤ 2 := by
  intro as h x q
  unfold fl_X0_isPairOf at q
  split at q
  · exact ⟨fun k e => by cases e; exact ⟨_, _, rfl⟩, Nat.le_of_ble_eq_true rfl⟩
  · cases q
theorem M_X0_isPairOf (l : Launch) (G : AG) : am_M l G yX0_isPairOf cX0_isPairOf 2 (some .boolean) 0 0 (some 0) F_X0_isPairOf := am_M_of (f := fl_X0_isPairOf) (toR := fun x => (some (.inl x.1), x.2)) (P := P_X0_isPairOf) (Rr := am_rZ) (own := RX0) (by decide) rfl (fun _ _ => rfl) s_X0_isPairOf am_wrI am_rkZ pf_RX0 pk_RX0 ps_RX0 (fun _ q => by cases q) (fun _ q => by cases q) (fun _ q => by cases q) (b_X0_isPairOf l G)
theorem cv_RX0_30 (l : Launch) (G : AG) {fr lo : Nat} (h1 : 0 + 1 ≤ fr) (h2 : 8 + (2 + 11) + 0 ≤ lo) : am_cvOK l G RX0 fr lo (30, 2, F_X0_isLate) := ⟨yX0_isLate, cX0_isLate, 2, (some .boolean), 0, 0, 0, RX0, M_X0_isLate l G, ⟨(am_tb_mem (wd_5 _ (List.mem_of_getElem? (i := 7) rfl))), (am_tb_mem (wd_5 _ (List.mem_of_getElem? (i := 0) rfl))), (am_tb_mem (wd_5 _ (List.mem_of_getElem? (i := 1) rfl))), (am_tb_mem (wd_1 _ (List.mem_of_getElem? (i := 21) rfl))), (am_tb_mem (wd_5 _ (List.mem_of_getElem? (i := 2) rfl)))⟩, ⟨rfl, by decide, by decide, by decide +kernel⟩, Or.inl ⟨by decide, rfl⟩, h1, h2⟩
def C_X0_end : List AC := [(0, .aload_n 0, 1, []), (1, .iload_n 1, 2, []), (2, .invokevirtual 30, 5, []), (5, .ifCond .eq 12, 8, [17]), (8, .aload_n 0, 9, []), (9, .getfield 27, 12, []), (12, .iload_n 1, 13, []), (13, .isub, 14, []), (14, .goto 4, 17, [18]), (17, .iconst 0, 18, []), (18, .istore_n 2, 19, []), (19, .aload_n 0, 20, []), (20, .getfield 15, 23, []), (23, .tableswitch 46 2 5 #[29, 46, 41, 29], 52, [69, 52, 69, 64, 52]), (52, .aload_n 0, 53, []), (53, .getfield 21, 56, []), (56, .iconst 2, 57, []), (57, .iload_n 2, 58, []), (58, .imul, 59, []), (59, .iadd, 60, []), (60, .bipush 16, 62, []), (62, .irem, 63, []), (63, .ireturn, 64, []), (64, .aload_n 0, 65, []), (65, .getfield 21, 68, []), (68, .ireturn, 69, []), (69, .aload_n 0, 70, []), (70, .getfield 21, 73, []), (73, .iload_n 2, 74, []), (74, .iadd, 75, []), (75, .bipush 16, 77, []), (77, .irem, 78, []), (78, .ireturn, 79, [])]
theorem ok_X0_end : ∀ x ∈ C_X0_end, am_ok cX0_end 3 x = true := by decide +kernel
noncomputable def P_X0_end : AP := (PF_RX0, PK_RX0, PS_RX0, [(30, 2, F_X0_isLate)], [], [])
noncomputable def g_X0_end_18 (a1 : Nat) (a2 : Int32) (h : HP) : Option (Int32 × HP) := if h_rI h 0 a1 0 = 2 then (some (((h_rI h 0 a1 2) + (2 * a2)) - ((h_rI h 0 a1 2) + (2 * a2)) / 16 * 16, h)) else (if h_rI h 0 a1 0 = 3 then (some (((h_rI h 0 a1 2) + a2) - ((h_rI h 0 a1 2) + a2) / 16 * 16, h)) else (if h_rI h 0 a1 0 = 4 then (some (h_rI h 0 a1 2, h)) else (if h_rI h 0 a1 0 = 5 then (some (((h_rI h 0 a1 2) + (2 * a2)) - ((h_rI h 0 a1 2) + (2 * a2)) / 16 * 16, h)) else (some (((h_rI h 0 a1 2) + a2) - ((h_rI h 0 a1 2) + a2) / 16 * 16, h)))))
def pk_X0_end_18 (k : Nat → Int32 → HP → Option (Int32 × HP)) : List AV → List AV → HP → Option (Int32 × HP) := fun L st h => match L, st with
  | [.inr (.inr (.inl (0, a1))), .inl _, .inr (.inr (.inr ()))], [.inl a2] => k a1 a2 h
  | _, _ => none
theorem pk_X0_end_18_ok {Wp : List AV → List AV → HP → Prop} {r : (Int32 × HP)} {k : Nat → Int32 → HP → Option (Int32 × HP)} (hk : ∀ (a1 : Nat) (a2 : Int32) (w1 : Int32) (h : HP), k a1 a2 h = some r → Wp [.inr (.inr (.inl (0, a1))), .inl w1, .inr (.inr (.inr ()))] [.inl a2] h) : ∀ L st h, pk_X0_end_18 k L st h = some r → Wp L st h := by
  intro L st h q
  unfold pk_X0_end_18 at q
  split at q
  · exact hk _ _ _ _ q
  · cases q
noncomputable def f_X0_end (a1 : Nat) (a2 : Int32) (h : HP) : Option (Int32 × HP) := (f_X0_isLate a1 a2 h).bind (fun q_1 => if q_1.1 = (0 : Int32) then (g_X0_end_18 a1 0 q_1.2) else (g_X0_end_18 a1 ((h_rI q_1.2 0 a1 5) - a2) q_1.2))
noncomputable def fl_X0_end : List AV → HP → Option (Int32 × HP) := fun as h => match as with
  | [.inr (.inr (.inl (0, a1))), .inl a2] => f_X0_end a1 a2 h
  | _ => none
noncomputable def F_X0_end : AF := .inl fl_X0_end
set_option maxRecDepth 20000 in
theorem w_X0_end_18 {p : Program} {l : Launch} {e : Env} {R : Room} {s : State} {m : MethodId} {args : Array Value} {below : List Frame} {meth : Method} {c : Code} {cells slots : Nat} {G : AG} {Q : (Int32 × HP) → State → Prop} (CX : am_X p l e R s m args below meth c cells slots G 3 cX0_end RX0 am_tb P_X0_end am_rI Q) {r : (Int32 × HP)} : ∀ (a1 : Nat) (a2 : Int32) (w1 : Int32) (h : HP), g_X0_end_18 a1 a2 h = some r → am_W p l e R s m args below meth c cells slots G 3 (Q r) 18 [.inr (.inr (.inl (0, a1))), .inl w1, .inr (.inr (.inr ()))] [.inl a2] h := by
  intro a1 a2 w1 h q
  exact am_run_ok CX ok_X0_end (K := []) (am_K0 (Wp := am_W p l e R s m args below meth c cells slots G 3 (Q r))) 16 18 _ _ _ q
set_option maxRecDepth 20000 in
theorem b_X0_end (l : Launch) (G : AG) : am_B l G 3 cX0_end RX0 am_tb P_X0_end am_rI fl_X0_end := by
  intro p e R s m args below meth c cells slots Q CX as h r q
  unfold fl_X0_end at q
  split at q
  · exact am_run_ok CX ok_X0_end (K := [(18, pk_X0_end_18 (g_X0_end_18))]) (am_K1 (Wp := am_W p l e R s m args below meth c cells slots G 3 (Q r)) (pk_X0_end_18_ok (Wp := am_W p l e R s m args below meth c cells slots G 3 (Q r) 18) (w_X0_end_18 CX)) am_K0) 12 0 _ _ _ q
  · cases q
theorem s_X0_end : ∀ as h x, fl_X0_end as h = some x → (∀ k, (some 0 : Option Nat) = some k → ∃ (j : Nat) (as' : List AV), as = .inr (.inr (.inl (k, j))) :: as') ∧ (am_l0 as).length ≤ 3 := by
  intro as h x q
  unfold fl_X0_end at q
  split at q
  · exact ⟨fun k e => by cases e; exact ⟨_, _, rfl⟩, Nat.le_of_ble_eq_true rfl⟩
  · cases q
theorem M_X0_end (l : Launch) (G : AG) : am_M l G yX0_end cX0_end 3 (some .int) 1 21 (some 0) F_X0_end := am_M_of (f := fl_X0_end) (toR := fun x => (some (.inl x.1), x.2)) (P := P_X0_end) (Rr := am_rI) (own := RX0) (by decide) rfl (fun _ _ => rfl) s_X0_end am_wrI am_rkI pf_RX0 pk_RX0 ps_RX0 (List.forall_mem_cons.mpr ⟨cv_RX0_30 l G (by decide) (by decide), (fun _ q => by cases q)⟩) (fun _ q => by cases q) (fun _ q => by cases q) (b_X0_end l G)
def C_X0_isOpposite : List AC := [(0, .iload_n 1, 1, []), (1, .aload_n 0, 2, []), (2, .getfield 18, 5, []), (5, .bipush 8, 7, []), (7, .iadd, 8, []), (8, .bipush 16, 10, []), (10, .irem, 11, []), (11, .if_icmp .ne 7, 14, [18]), (14, .iconst 1, 15, []), (15, .goto 4, 18, [19]), (18, .iconst 0, 19, []), (19, .ireturn, 20, [])]
theorem ok_X0_isOpposite : ∀ x ∈ C_X0_isOpposite, am_ok cX0_isOpposite 2 x = true := by decide +kernel
noncomputable def P_X0_isOpposite : AP := (PF_RX0, PK_RX0, PS_RX0, [], [], [])
noncomputable def f_X0_isOpposite (a1 : Nat) (a2 : Int32) (h : HP) : Option (Int32 × HP) := if a2 = ((h_rI h 0 a1 1) + 8) - ((h_rI h 0 a1 1) + 8) / 16 * 16 then (some (1, h)) else (some (0, h))
noncomputable def fl_X0_isOpposite : List AV → HP → Option (Int32 × HP) := fun as h => match as with
  | [.inr (.inr (.inl (0, a1))), .inl a2] => f_X0_isOpposite a1 a2 h
  | _ => none
noncomputable def F_X0_isOpposite : AF := .inl fl_X0_isOpposite
set_option maxRecDepth 20000 in
theorem b_X0_isOpposite (l : Launch) (G : AG) : am_B l G 2 cX0_isOpposite RX0 am_tb P_X0_isOpposite am_rZ fl_X0_isOpposite := by
  intro p e R s m args below meth c cells slots Q CX as h r q
  unfold fl_X0_isOpposite at q
  split at q
  · exact am_run_ok CX ok_X0_isOpposite (K := []) (am_K0 (Wp := am_W p l e R s m args below meth c cells slots G 2 (Q r))) 14 0 _ _ _ q
  · cases q
theorem s_X0_isOpposite : ∀ as h x, fl_X0_isOpposite as h = some x → (∀ k, (some 0 : Option Nat) = some k → ∃ (j : Nat) (as' : List AV), as = .inr (.inr (.inl (k, j))) :: as') ∧ (am_l0 as).length ≤ 2 := by
  intro as h x q
  unfold fl_X0_isOpposite at q
  split at q
  · exact ⟨fun k e => by cases e; exact ⟨_, _, rfl⟩, Nat.le_of_ble_eq_true rfl⟩
  · cases q
theorem M_X0_isOpposite (l : Launch) (G : AG) : am_M l G yX0_isOpposite cX0_isOpposite 2 (some .boolean) 0 0 (some 0) F_X0_isOpposite := am_M_of (f := fl_X0_isOpposite) (toR := fun x => (some (.inl x.1), x.2)) (P := P_X0_isOpposite) (Rr := am_rZ) (own := RX0) (by decide) rfl (fun _ _ => rfl) s_X0_isOpposite am_wrI am_rkZ pf_RX0 pk_RX0 ps_RX0 (fun _ q => by cases q) (fun _ q => by cases q) (fun _ q => by cases q) (b_X0_isOpposite l G)
theorem cv_RX0_34 (l : Launch) (G : AG) {fr lo : Nat} (h1 : 1 + 1 ≤ fr) (h2 : 8 + (3 + 11) + 21 ≤ lo) : am_cvOK l G RX0 fr lo (34, 2, F_X0_end) := ⟨yX0_end, cX0_end, 3, (some .int), 1, 21, 0, RX0, M_X0_end l G, ⟨(am_tb_mem (wd_6 _ (List.mem_of_getElem? (i := 4) rfl))), (am_tb_mem (wd_5 _ (List.mem_of_getElem? (i := 4) rfl))), (am_tb_mem (wd_5 _ (List.mem_of_getElem? (i := 5) rfl))), (am_tb_mem (wd_1 _ (List.mem_of_getElem? (i := 21) rfl))), (am_tb_mem (wd_5 _ (List.mem_of_getElem? (i := 6) rfl)))⟩, ⟨rfl, by decide, by decide, by decide +kernel⟩, Or.inl ⟨by decide, rfl⟩, h1, h2⟩
theorem cv_RX0_38 (l : Launch) (G : AG) {fr lo : Nat} (h1 : 0 + 1 ≤ fr) (h2 : 8 + (2 + 11) + 0 ≤ lo) : am_cvOK l G RX0 fr lo (38, 2, F_X0_isOpposite) := ⟨yX0_isOpposite, cX0_isOpposite, 2, (some .boolean), 0, 0, 0, RX0, M_X0_isOpposite l G, ⟨(am_tb_mem (wd_6 _ (List.mem_of_getElem? (i := 5) rfl))), (am_tb_mem (wd_6 _ (List.mem_of_getElem? (i := 6) rfl))), (am_tb_mem (wd_0 _ (List.mem_of_getElem? (i := 1) rfl))), (am_tb_mem (wd_1 _ (List.mem_of_getElem? (i := 21) rfl))), (am_tb_mem (wd_6 _ (List.mem_of_getElem? (i := 7) rfl)))⟩, ⟨rfl, by decide, by decide, by decide +kernel⟩, Or.inl ⟨by decide, rfl⟩, h1, h2⟩
def C_X0_opensIn : List AC := [(0, .iload_n 1, 1, []), (1, .aload_n 0, 2, []), (2, .getfield 18, 5, []), (5, .if_icmp .ne 7, 8, [12]), (8, .iconst 1, 9, []), (9, .goto 4, 12, [13]), (12, .iconst 0, 13, []), (13, .istore 4, 15, []), (15, .iload_n 1, 16, []), (16, .aload_n 0, 17, []), (17, .iload_n 3, 18, []), (18, .invokevirtual 34, 21, []), (21, .if_icmp .ne 7, 24, [28]), (24, .iconst 1, 25, []), (25, .goto 4, 28, [29]), (28, .iconst 0, 29, []), (29, .istore 5, 31, []), (31, .iload 4, 33, []), (33, .ifCond .ne 8, 36, [41]), (36, .iload 5, 38, []), (38, .ifCond .eq 16, 41, [54]), (41, .aload_n 0, 42, []), (42, .getfield 24, 45, []), (45, .bipush 99, 47, []), (47, .if_icmp .ge 7, 50, [54]), (50, .iconst 1, 51, []), (51, .goto 4, 54, [55]), (54, .iconst 0, 55, []), (55, .istore 6, 57, []), (57, .iload 6, 59, []), (59, .ifCond .eq 16, 62, [75]), (62, .aload_n 0, 63, []), (63, .getfield 24, 66, []), (66, .bipush 50, 68, []), (68, .if_icmp .ge 7, 71, [75]), (71, .iconst 1, 72, []), (72, .goto 4, 75, [76]), (75, .iconst 0, 76, []), (76, .istore 7, 78, []), (78, .iload 6, 80, []), (80, .ifCond .eq 12, 83, [92]), (83, .iload 4, 85, []), (85, .ifCond .eq 7, 88, [92]), (88, .iconst 1, 89, []), (89, .goto 4, 92, [93]), (92, .iconst 0, 93, []), (93, .istore 8, 95, []), (95, .aload_n 0, 96, []), (96, .getfield 15, 99, []), (99, .tableswitch 122 1 5 #[33, 36, 39, 61, 89], 132, [221, 132, 135, 138, 160, 188]), (132, .iload 7, 134, []), (134, .ireturn, 135, []), (135, .iload 8, 137, []), (137, .ireturn, 138, []), (138, .iload 6, 140, []), (140, .ifCond .eq 18, 143, [158]), (143, .iload 4, 145, []), (145, .ifCond .ne 9, 148, [154]), (148, .iload_n 2, 149, []), (149, .iconst 2, 150, []), (150, .irem, 151, []), (151, .ifCond .ne 7, 154, [158]), (154, .iconst 1, 155, []), (155, .goto 4, 158, [159]), (158, .iconst 0, 159, []), (159, .ireturn, 160, []), (160, .iload 7, 162, []), (162, .ifCond .ne 20, 165, [182]), (165, .aload_n 0, 166, []), (166, .iload_n 1, 167, []), (167, .invokevirtual 38, 170, []), (170, .ifCond .eq 16, 173, [186]), (173, .aload_n 0, 174, []), (174, .getfield 24, 177, []), (177, .bipush 10, 179, []), (179, .if_icmp .ge 7, 182, [186]), (182, .iconst 1, 183, []), (183, .goto 4, 186, [187]), (186, .iconst 0, 187, []), (187, .ireturn, 188, []), (188, .iload 8, 190, []), (190, .ifCond .ne 25, 193, [215]), (193, .iload 5, 195, []), (195, .ifCond .eq 24, 198, [219]), (198, .aload_n 0, 199, []), (199, .iload_n 3, 200, []), (200, .invokevirtual 30, 203, []), (203, .ifCond .eq 16, 206, [219]), (206, .aload_n 0, 207, []), (207, .getfield 24, 210, []), (210, .bipush 99, 212, []), (212, .if_icmp .ge 7, 215, [219]), (215, .iconst 1, 216, []), (216, .goto 4, 219, [220]), (219, .iconst 0, 220, []), (220, .ireturn, 221, []), (221, .iload 6, 223, []), (223, .ireturn, 224, [])]
theorem ok_X0_opensIn : ∀ x ∈ C_X0_opensIn, am_ok cX0_opensIn 9 x = true := by decide +kernel
noncomputable def P_X0_opensIn : AP := (PF_RX0, PK_RX0, PS_RX0, [(30, 2, F_X0_isLate), (34, 2, F_X0_end), (38, 2, F_X0_isOpposite)], [], [])
noncomputable def g_X0_opensIn_93 (a1 : Nat) (a2 : Int32) (a3 : Int32) (a4 : Int32) (a5 : Int32) (a6 : Int32) (a7 : Int32) (a8 : Int32) (a9 : Int32) (h : HP) : Option (Int32 × HP) := if h_rI h 0 a1 0 = 1 then (some (a8 &&& 1, h)) else (if h_rI h 0 a1 0 = 2 then (some (a9 &&& 1, h)) else (if h_rI h 0 a1 0 = 3 then (if a7 = (0 : Int32) then (some (0, h)) else (if a5 = (0 : Int32) then (if a3 - a3 / 2 * 2 = (0 : Int32) then (some (1, h)) else (some (0, h))) else (some (1, h)))) else (if h_rI h 0 a1 0 = 4 then (if a8 = (0 : Int32) then ((f_X0_isOpposite a1 a2 h).bind (fun q_1 => if q_1.1 = (0 : Int32) then (some (0, q_1.2)) else (if (10 : Int32) ≤ h_rI q_1.2 0 a1 3 then (some (0, q_1.2)) else (some (1, q_1.2))))) else (some (1, h))) else (if h_rI h 0 a1 0 = 5 then (if a9 = (0 : Int32) then (if a6 = (0 : Int32) then (some (0, h)) else ((f_X0_isLate a1 a4 h).bind (fun q_2 => if q_2.1 = (0 : Int32) then (some (0, q_2.2)) else (if (99 : Int32) ≤ h_rI q_2.2 0 a1 3 then (some (0, q_2.2)) else (some (1, q_2.2)))))) else (some (1, h))) else (some (a7 &&& 1, h))))))
def pk_X0_opensIn_93 (k : Nat → Int32 → Int32 → Int32 → Int32 → Int32 → Int32 → Int32 → Int32 → HP → Option (Int32 × HP)) : List AV → List AV → HP → Option (Int32 × HP) := fun L st h => match L, st with
  | [.inr (.inr (.inl (0, a1))), .inl a2, .inl a3, .inl a4, .inl a5, .inl a6, .inl a7, .inl a8, .inr (.inr (.inr ()))], [.inl a9] => k a1 a2 a3 a4 a5 a6 a7 a8 a9 h
  | _, _ => none
theorem pk_X0_opensIn_93_ok {Wp : List AV → List AV → HP → Prop} {r : (Int32 × HP)} {k : Nat → Int32 → Int32 → Int32 → Int32 → Int32 → Int32 → Int32 → Int32 → HP → Option (Int32 × HP)} (hk : ∀ (a1 : Nat) (a2 : Int32) (a3 : Int32) (a4 : Int32) (a5 : Int32) (a6 : Int32) (a7 : Int32) (a8 : Int32) (a9 : Int32) (h : HP), k a1 a2 a3 a4 a5 a6 a7 a8 a9 h = some r → Wp [.inr (.inr (.inl (0, a1))), .inl a2, .inl a3, .inl a4, .inl a5, .inl a6, .inl a7, .inl a8, .inr (.inr (.inr ()))] [.inl a9] h) : ∀ L st h, pk_X0_opensIn_93 k L st h = some r → Wp L st h := by
  intro L st h q
  unfold pk_X0_opensIn_93 at q
  split at q
  · exact hk _ _ _ _ _ _ _ _ _ _ q
  · cases q
noncomputable def g_X0_opensIn_76 (a1 : Nat) (a2 : Int32) (a3 : Int32) (a4 : Int32) (a5 : Int32) (a6 : Int32) (a7 : Int32) (a8 : Int32) (h : HP) : Option (Int32 × HP) := if a7 = (0 : Int32) then (g_X0_opensIn_93 a1 a2 a3 a4 a5 a6 a7 a8 0 h) else (if a5 = (0 : Int32) then (g_X0_opensIn_93 a1 a2 a3 a4 a5 a6 a7 a8 0 h) else (g_X0_opensIn_93 a1 a2 a3 a4 a5 a6 a7 a8 1 h))
def pk_X0_opensIn_76 (k : Nat → Int32 → Int32 → Int32 → Int32 → Int32 → Int32 → Int32 → HP → Option (Int32 × HP)) : List AV → List AV → HP → Option (Int32 × HP) := fun L st h => match L, st with
  | [.inr (.inr (.inl (0, a1))), .inl a2, .inl a3, .inl a4, .inl a5, .inl a6, .inl a7, .inr (.inr (.inr ())), .inr (.inr (.inr ()))], [.inl a8] => k a1 a2 a3 a4 a5 a6 a7 a8 h
  | _, _ => none
theorem pk_X0_opensIn_76_ok {Wp : List AV → List AV → HP → Prop} {r : (Int32 × HP)} {k : Nat → Int32 → Int32 → Int32 → Int32 → Int32 → Int32 → Int32 → HP → Option (Int32 × HP)} (hk : ∀ (a1 : Nat) (a2 : Int32) (a3 : Int32) (a4 : Int32) (a5 : Int32) (a6 : Int32) (a7 : Int32) (a8 : Int32) (h : HP), k a1 a2 a3 a4 a5 a6 a7 a8 h = some r → Wp [.inr (.inr (.inl (0, a1))), .inl a2, .inl a3, .inl a4, .inl a5, .inl a6, .inl a7, .inr (.inr (.inr ())), .inr (.inr (.inr ()))] [.inl a8] h) : ∀ L st h, pk_X0_opensIn_76 k L st h = some r → Wp L st h := by
  intro L st h q
  unfold pk_X0_opensIn_76 at q
  split at q
  · exact hk _ _ _ _ _ _ _ _ _ q
  · cases q
noncomputable def g_X0_opensIn_55 (a1 : Nat) (a2 : Int32) (a3 : Int32) (a4 : Int32) (a5 : Int32) (a6 : Int32) (a7 : Int32) (h : HP) : Option (Int32 × HP) := if a7 = (0 : Int32) then (g_X0_opensIn_76 a1 a2 a3 a4 a5 a6 a7 0 h) else (if (50 : Int32) ≤ h_rI h 0 a1 3 then (g_X0_opensIn_76 a1 a2 a3 a4 a5 a6 a7 0 h) else (g_X0_opensIn_76 a1 a2 a3 a4 a5 a6 a7 1 h))
def pk_X0_opensIn_55 (k : Nat → Int32 → Int32 → Int32 → Int32 → Int32 → Int32 → HP → Option (Int32 × HP)) : List AV → List AV → HP → Option (Int32 × HP) := fun L st h => match L, st with
  | [.inr (.inr (.inl (0, a1))), .inl a2, .inl a3, .inl a4, .inl a5, .inl a6, .inr (.inr (.inr ())), .inr (.inr (.inr ())), .inr (.inr (.inr ()))], [.inl a7] => k a1 a2 a3 a4 a5 a6 a7 h
  | _, _ => none
theorem pk_X0_opensIn_55_ok {Wp : List AV → List AV → HP → Prop} {r : (Int32 × HP)} {k : Nat → Int32 → Int32 → Int32 → Int32 → Int32 → Int32 → HP → Option (Int32 × HP)} (hk : ∀ (a1 : Nat) (a2 : Int32) (a3 : Int32) (a4 : Int32) (a5 : Int32) (a6 : Int32) (a7 : Int32) (h : HP), k a1 a2 a3 a4 a5 a6 a7 h = some r → Wp [.inr (.inr (.inl (0, a1))), .inl a2, .inl a3, .inl a4, .inl a5, .inl a6, .inr (.inr (.inr ())), .inr (.inr (.inr ())), .inr (.inr (.inr ()))] [.inl a7] h) : ∀ L st h, pk_X0_opensIn_55 k L st h = some r → Wp L st h := by
  intro L st h q
  unfold pk_X0_opensIn_55 at q
  split at q
  · exact hk _ _ _ _ _ _ _ _ q
  · cases q
noncomputable def g_X0_opensIn_41 (a1 : Nat) (a2 : Int32) (a3 : Int32) (a4 : Int32) (a5 : Int32) (a6 : Int32) (h : HP) : Option (Int32 × HP) := if (99 : Int32) ≤ h_rI h 0 a1 3 then (g_X0_opensIn_55 a1 a2 a3 a4 a5 a6 0 h) else (g_X0_opensIn_55 a1 a2 a3 a4 a5 a6 1 h)
def pk_X0_opensIn_41 (k : Nat → Int32 → Int32 → Int32 → Int32 → Int32 → HP → Option (Int32 × HP)) : List AV → List AV → HP → Option (Int32 × HP) := fun L st h => match L, st with
  | [.inr (.inr (.inl (0, a1))), .inl a2, .inl a3, .inl a4, .inl a5, .inl a6, .inr (.inr (.inr ())), .inr (.inr (.inr ())), .inr (.inr (.inr ()))], [] => k a1 a2 a3 a4 a5 a6 h
  | _, _ => none
theorem pk_X0_opensIn_41_ok {Wp : List AV → List AV → HP → Prop} {r : (Int32 × HP)} {k : Nat → Int32 → Int32 → Int32 → Int32 → Int32 → HP → Option (Int32 × HP)} (hk : ∀ (a1 : Nat) (a2 : Int32) (a3 : Int32) (a4 : Int32) (a5 : Int32) (a6 : Int32) (h : HP), k a1 a2 a3 a4 a5 a6 h = some r → Wp [.inr (.inr (.inl (0, a1))), .inl a2, .inl a3, .inl a4, .inl a5, .inl a6, .inr (.inr (.inr ())), .inr (.inr (.inr ())), .inr (.inr (.inr ()))] [] h) : ∀ L st h, pk_X0_opensIn_41 k L st h = some r → Wp L st h := by
  intro L st h q
  unfold pk_X0_opensIn_41 at q
  split at q
  · exact hk _ _ _ _ _ _ _ q
  · cases q
noncomputable def g_X0_opensIn_29 (a1 : Nat) (a2 : Int32) (a3 : Int32) (a4 : Int32) (a5 : Int32) (a6 : Int32) (h : HP) : Option (Int32 × HP) := if a5 = (0 : Int32) then (if a6 = (0 : Int32) then (g_X0_opensIn_55 a1 a2 a3 a4 a5 a6 0 h) else (g_X0_opensIn_41 a1 a2 a3 a4 a5 a6 h)) else (g_X0_opensIn_41 a1 a2 a3 a4 a5 a6 h)
def pk_X0_opensIn_29 (k : Nat → Int32 → Int32 → Int32 → Int32 → Int32 → HP → Option (Int32 × HP)) : List AV → List AV → HP → Option (Int32 × HP) := fun L st h => match L, st with
  | [.inr (.inr (.inl (0, a1))), .inl a2, .inl a3, .inl a4, .inl a5, .inr (.inr (.inr ())), .inr (.inr (.inr ())), .inr (.inr (.inr ())), .inr (.inr (.inr ()))], [.inl a6] => k a1 a2 a3 a4 a5 a6 h
  | _, _ => none
theorem pk_X0_opensIn_29_ok {Wp : List AV → List AV → HP → Prop} {r : (Int32 × HP)} {k : Nat → Int32 → Int32 → Int32 → Int32 → Int32 → HP → Option (Int32 × HP)} (hk : ∀ (a1 : Nat) (a2 : Int32) (a3 : Int32) (a4 : Int32) (a5 : Int32) (a6 : Int32) (h : HP), k a1 a2 a3 a4 a5 a6 h = some r → Wp [.inr (.inr (.inl (0, a1))), .inl a2, .inl a3, .inl a4, .inl a5, .inr (.inr (.inr ())), .inr (.inr (.inr ())), .inr (.inr (.inr ())), .inr (.inr (.inr ()))] [.inl a6] h) : ∀ L st h, pk_X0_opensIn_29 k L st h = some r → Wp L st h := by
  intro L st h q
  unfold pk_X0_opensIn_29 at q
  split at q
  · exact hk _ _ _ _ _ _ _ q
  · cases q
noncomputable def g_X0_opensIn_13 (a1 : Nat) (a2 : Int32) (a3 : Int32) (a4 : Int32) (a5 : Int32) (h : HP) : Option (Int32 × HP) := (f_X0_end a1 a4 h).bind (fun q_1 => if a2 = q_1.1 then (g_X0_opensIn_29 a1 a2 a3 a4 a5 1 q_1.2) else (g_X0_opensIn_29 a1 a2 a3 a4 a5 0 q_1.2))
def pk_X0_opensIn_13 (k : Nat → Int32 → Int32 → Int32 → Int32 → HP → Option (Int32 × HP)) : List AV → List AV → HP → Option (Int32 × HP) := fun L st h => match L, st with
  | [.inr (.inr (.inl (0, a1))), .inl a2, .inl a3, .inl a4, .inr (.inr (.inr ())), .inr (.inr (.inr ())), .inr (.inr (.inr ())), .inr (.inr (.inr ())), .inr (.inr (.inr ()))], [.inl a5] => k a1 a2 a3 a4 a5 h
  | _, _ => none
theorem pk_X0_opensIn_13_ok {Wp : List AV → List AV → HP → Prop} {r : (Int32 × HP)} {k : Nat → Int32 → Int32 → Int32 → Int32 → HP → Option (Int32 × HP)} (hk : ∀ (a1 : Nat) (a2 : Int32) (a3 : Int32) (a4 : Int32) (a5 : Int32) (h : HP), k a1 a2 a3 a4 a5 h = some r → Wp [.inr (.inr (.inl (0, a1))), .inl a2, .inl a3, .inl a4, .inr (.inr (.inr ())), .inr (.inr (.inr ())), .inr (.inr (.inr ())), .inr (.inr (.inr ())), .inr (.inr (.inr ()))] [.inl a5] h) : ∀ L st h, pk_X0_opensIn_13 k L st h = some r → Wp L st h := by
  intro L st h q
  unfold pk_X0_opensIn_13 at q
  split at q
  · exact hk _ _ _ _ _ _ q
  · cases q
noncomputable def f_X0_opensIn (a1 : Nat) (a2 : Int32) (a3 : Int32) (a4 : Int32) (h : HP) : Option (Int32 × HP) := if a2 = h_rI h 0 a1 1 then (g_X0_opensIn_13 a1 a2 a3 a4 1 h) else (g_X0_opensIn_13 a1 a2 a3 a4 0 h)
noncomputable def fl_X0_opensIn : List AV → HP → Option (Int32 × HP) := fun as h => match as with
  | [.inr (.inr (.inl (0, a1))), .inl a2, .inl a3, .inl a4] => f_X0_opensIn a1 a2 a3 a4 h
  | _ => none
noncomputable def F_X0_opensIn : AF := .inl fl_X0_opensIn
set_option maxRecDepth 20000 in
theorem w_X0_opensIn_93 {p : Program} {l : Launch} {e : Env} {R : Room} {s : State} {m : MethodId} {args : Array Value} {below : List Frame} {meth : Method} {c : Code} {cells slots : Nat} {G : AG} {Q : (Int32 × HP) → State → Prop} (CX : am_X p l e R s m args below meth c cells slots G 9 cX0_opensIn RX0 am_tb P_X0_opensIn am_rZ Q) {r : (Int32 × HP)} : ∀ (a1 : Nat) (a2 : Int32) (a3 : Int32) (a4 : Int32) (a5 : Int32) (a6 : Int32) (a7 : Int32) (a8 : Int32) (a9 : Int32) (h : HP), g_X0_opensIn_93 a1 a2 a3 a4 a5 a6 a7 a8 a9 h = some r → am_W p l e R s m args below meth c cells slots G 9 (Q r) 93 [.inr (.inr (.inl (0, a1))), .inl a2, .inl a3, .inl a4, .inl a5, .inl a6, .inl a7, .inl a8, .inr (.inr (.inr ()))] [.inl a9] h := by
  intro a1 a2 a3 a4 a5 a6 a7 a8 a9 h q
  exact am_run_ok CX ok_X0_opensIn (K := []) (am_K0 (Wp := am_W p l e R s m args below meth c cells slots G 9 (Q r))) 22 93 _ _ _ q
set_option maxRecDepth 20000 in
theorem w_X0_opensIn_76 {p : Program} {l : Launch} {e : Env} {R : Room} {s : State} {m : MethodId} {args : Array Value} {below : List Frame} {meth : Method} {c : Code} {cells slots : Nat} {G : AG} {Q : (Int32 × HP) → State → Prop} (CX : am_X p l e R s m args below meth c cells slots G 9 cX0_opensIn RX0 am_tb P_X0_opensIn am_rZ Q) {r : (Int32 × HP)} : ∀ (a1 : Nat) (a2 : Int32) (a3 : Int32) (a4 : Int32) (a5 : Int32) (a6 : Int32) (a7 : Int32) (a8 : Int32) (h : HP), g_X0_opensIn_76 a1 a2 a3 a4 a5 a6 a7 a8 h = some r → am_W p l e R s m args below meth c cells slots G 9 (Q r) 76 [.inr (.inr (.inl (0, a1))), .inl a2, .inl a3, .inl a4, .inl a5, .inl a6, .inl a7, .inr (.inr (.inr ())), .inr (.inr (.inr ()))] [.inl a8] h := by
  intro a1 a2 a3 a4 a5 a6 a7 a8 h q
  exact am_run_ok CX ok_X0_opensIn (K := [(93, pk_X0_opensIn_93 (g_X0_opensIn_93))]) (am_K1 (Wp := am_W p l e R s m args below meth c cells slots G 9 (Q r)) (pk_X0_opensIn_93_ok (Wp := am_W p l e R s m args below meth c cells slots G 9 (Q r) 93) (w_X0_opensIn_93 CX)) am_K0) 10 76 _ _ _ q
set_option maxRecDepth 20000 in
theorem w_X0_opensIn_55 {p : Program} {l : Launch} {e : Env} {R : Room} {s : State} {m : MethodId} {args : Array Value} {below : List Frame} {meth : Method} {c : Code} {cells slots : Nat} {G : AG} {Q : (Int32 × HP) → State → Prop} (CX : am_X p l e R s m args below meth c cells slots G 9 cX0_opensIn RX0 am_tb P_X0_opensIn am_rZ Q) {r : (Int32 × HP)} : ∀ (a1 : Nat) (a2 : Int32) (a3 : Int32) (a4 : Int32) (a5 : Int32) (a6 : Int32) (a7 : Int32) (h : HP), g_X0_opensIn_55 a1 a2 a3 a4 a5 a6 a7 h = some r → am_W p l e R s m args below meth c cells slots G 9 (Q r) 55 [.inr (.inr (.inl (0, a1))), .inl a2, .inl a3, .inl a4, .inl a5, .inl a6, .inr (.inr (.inr ())), .inr (.inr (.inr ())), .inr (.inr (.inr ()))] [.inl a7] h := by
  intro a1 a2 a3 a4 a5 a6 a7 h q
  exact am_run_ok CX ok_X0_opensIn (K := [(76, pk_X0_opensIn_76 (g_X0_opensIn_76))]) (am_K1 (Wp := am_W p l e R s m args below meth c cells slots G 9 (Q r)) (pk_X0_opensIn_76_ok (Wp := am_W p l e R s m args below meth c cells slots G 9 (Q r) 76) (w_X0_opensIn_76 CX)) am_K0) 12 55 _ _ _ q
set_option maxRecDepth 20000 in
theorem w_X0_opensIn_41 {p : Program} {l : Launch} {e : Env} {R : Room} {s : State} {m : MethodId} {args : Array Value} {below : List Frame} {meth : Method} {c : Code} {cells slots : Nat} {G : AG} {Q : (Int32 × HP) → State → Prop} (CX : am_X p l e R s m args below meth c cells slots G 9 cX0_opensIn RX0 am_tb P_X0_opensIn am_rZ Q) {r : (Int32 × HP)} : ∀ (a1 : Nat) (a2 : Int32) (a3 : Int32) (a4 : Int32) (a5 : Int32) (a6 : Int32) (h : HP), g_X0_opensIn_41 a1 a2 a3 a4 a5 a6 h = some r → am_W p l e R s m args below meth c cells slots G 9 (Q r) 41 [.inr (.inr (.inl (0, a1))), .inl a2, .inl a3, .inl a4, .inl a5, .inl a6, .inr (.inr (.inr ())), .inr (.inr (.inr ())), .inr (.inr (.inr ()))] [] h := by
  intro a1 a2 a3 a4 a5 a6 h q
  exact am_run_ok CX ok_X0_opensIn (K := [(55, pk_X0_opensIn_55 (g_X0_opensIn_55))]) (am_K1 (Wp := am_W p l e R s m args below meth c cells slots G 9 (Q r)) (pk_X0_opensIn_55_ok (Wp := am_W p l e R s m args below meth c cells slots G 9 (Q r) 55) (w_X0_opensIn_55 CX)) am_K0) 9 41 _ _ _ q
set_option maxRecDepth 20000 in
theorem w_X0_opensIn_29 {p : Program} {l : Launch} {e : Env} {R : Room} {s : State} {m : MethodId} {args : Array Value} {below : List Frame} {meth : Method} {c : Code} {cells slots : Nat} {G : AG} {Q : (Int32 × HP) → State → Prop} (CX : am_X p l e R s m args below meth c cells slots G 9 cX0_opensIn RX0 am_tb P_X0_opensIn am_rZ Q) {r : (Int32 × HP)} : ∀ (a1 : Nat) (a2 : Int32) (a3 : Int32) (a4 : Int32) (a5 : Int32) (a6 : Int32) (h : HP), g_X0_opensIn_29 a1 a2 a3 a4 a5 a6 h = some r → am_W p l e R s m args below meth c cells slots G 9 (Q r) 29 [.inr (.inr (.inl (0, a1))), .inl a2, .inl a3, .inl a4, .inl a5, .inr (.inr (.inr ())), .inr (.inr (.inr ())), .inr (.inr (.inr ())), .inr (.inr (.inr ()))] [.inl a6] h := by
  intro a1 a2 a3 a4 a5 a6 h q
  exact am_run_ok CX ok_X0_opensIn (K := [(41, pk_X0_opensIn_41 (g_X0_opensIn_41)), (55, pk_X0_opensIn_55 (g_X0_opensIn_55))]) (am_K1 (Wp := am_W p l e R s m args below meth c cells slots G 9 (Q r)) (pk_X0_opensIn_41_ok (Wp := am_W p l e R s m args below meth c cells slots G 9 (Q r) 41) (w_X0_opensIn_41 CX)) (am_K1 (Wp := am_W p l e R s m args below meth c cells slots G 9 (Q r)) (pk_X0_opensIn_55_ok (Wp := am_W p l e R s m args below meth c cells slots G 9 (Q r) 55) (w_X0_opensIn_55 CX)) am_K0)) 9 29 _ _ _ q
set_option maxRecDepth 20000 in
theorem w_X0_opensIn_13 {p : Program} {l : Launch} {e : Env} {R : Room} {s : State} {m : MethodId} {args : Array Value} {below : List Frame} {meth : Method} {c : Code} {cells slots : Nat} {G : AG} {Q : (Int32 × HP) → State → Prop} (CX : am_X p l e R s m args below meth c cells slots G 9 cX0_opensIn RX0 am_tb P_X0_opensIn am_rZ Q) {r : (Int32 × HP)} : ∀ (a1 : Nat) (a2 : Int32) (a3 : Int32) (a4 : Int32) (a5 : Int32) (h : HP), g_X0_opensIn_13 a1 a2 a3 a4 a5 h = some r → am_W p l e R s m args below meth c cells slots G 9 (Q r) 13 [.inr (.inr (.inl (0, a1))), .inl a2, .inl a3, .inl a4, .inr (.inr (.inr ())), .inr (.inr (.inr ())), .inr (.inr (.inr ())), .inr (.inr (.inr ())), .inr (.inr (.inr ()))] [.inl a5] h := by
  intro a1 a2 a3 a4 a5 h q
  exact am_run_ok CX ok_X0_opensIn (K := [(29, pk_X0_opensIn_29 (g_X0_opensIn_29))]) (am_K1 (Wp := am_W p l e R s m args below meth c cells slots G 9 (Q r)) (pk_X0_opensIn_29_ok (Wp := am_W p l e R s m args below meth c cells slots G 9 (Q r) 29) (w_X0_opensIn_29 CX)) am_K0) 11 13 _ _ _ q
set_option maxRecDepth 20000 in
theorem b_X0_opensIn (l : Launch) (G : AG) : am_B l G 9 cX0_opensIn RX0 am_tb P_X0_opensIn am_rZ fl_X0_opensIn := by
  intro p e R s m args below meth c cells slots Q CX as h r q
  unfold fl_X0_opensIn at q
  split at q
  · exact am_run_ok CX ok_X0_opensIn (K := [(13, pk_X0_opensIn_13 (g_X0_opensIn_13))]) (am_K1 (Wp := am_W p l e R s m args below meth c cells slots G 9 (Q r)) (pk_X0_opensIn_13_ok (Wp := am_W p l e R s m args below meth c cells slots G 9 (Q r) 13) (w_X0_opensIn_13 CX)) am_K0) 9 0 _ _ _ q
  · cases q
theorem s_X0_opensIn : ∀ as h x, fl_X0_opensIn as h = some x → (∀ k, (some 0 : Option Nat) = some k → ∃ (j : Nat) (as' : List AV), as = .inr (.inr (.inl (k, j))) :: as') ∧ (am_l0 as).length ≤ 9 := by
  intro as h x q
  unfold fl_X0_opensIn at q
  split at q
  · exact ⟨fun k e => by cases e; exact ⟨_, _, rfl⟩, Nat.le_of_ble_eq_true rfl⟩
  · cases q
theorem M_X0_opensIn (l : Launch) (G : AG) : am_M l G yX0_opensIn cX0_opensIn 9 (some .boolean) 2 43 (some 0) F_X0_opensIn := am_M_of (f := fl_X0_opensIn) (toR := fun x => (some (.inl x.1), x.2)) (P := P_X0_opensIn) (Rr := am_rZ) (own := RX0) (by decide) rfl (fun _ _ => rfl) s_X0_opensIn am_wrI am_rkZ pf_RX0 pk_RX0 ps_RX0 (List.forall_mem_cons.mpr ⟨cv_RX0_30 l G (by decide) (by decide), (List.forall_mem_cons.mpr ⟨cv_RX0_34 l G (by decide) (by decide), (List.forall_mem_cons.mpr ⟨cv_RX0_38 l G (by decide) (by decide), (fun _ q => by cases q)⟩)⟩)⟩) (fun _ q => by cases q) (fun _ q => by cases q) (b_X0_opensIn l G)
def C_X0_ledTo : List AC := [(0, .aload_n 0, 1, []), (1, .iload_n 2, 2, []), (2, .invokevirtual 34, 5, []), (5, .istore_n 3, 6, []), (6, .iload_n 1, 7, []), (7, .iload_n 3, 8, []), (8, .if_icmp .ne 10, 11, [18]), (11, .aload_n 0, 12, []), (12, .getfield 18, 15, []), (15, .goto 4, 18, [19]), (18, .iload_n 3, 19, []), (19, .ireturn, 20, [])]
theorem ok_X0_ledTo : ∀ x ∈ C_X0_ledTo, am_ok cX0_ledTo 4 x = true := by decide +kernel
noncomputable def P_X0_ledTo : AP := (PF_RX0, PK_RX0, PS_RX0, [(34, 2, F_X0_end)], [], [])
noncomputable def f_X0_ledTo (a1 : Nat) (a2 : Int32) (a3 : Int32) (h : HP) : Option (Int32 × HP) := (f_X0_end a1 a3 h).bind (fun q_1 => if a2 = q_1.1 then (some (h_rI q_1.2 0 a1 1, q_1.2)) else (some (q_1.1, q_1.2)))
noncomputable def fl_X0_ledTo : List AV → HP → Option (Int32 × HP) := fun as h => match as with
  | [.inr (.inr (.inl (0, a1))), .inl a2, .inl a3] => f_X0_ledTo a1 a2 a3 h
  | _ => none
noncomputable def F_X0_ledTo : AF := .inl fl_X0_ledTo
set_option maxRecDepth 20000 in
theorem b_X0_ledTo (l : Launch) (G : AG) : am_B l G 4 cX0_ledTo RX0 am_tb P_X0_ledTo am_rI fl_X0_ledTo := by
  intro p e R s m args below meth c cells slots Q CX as h r q
  unfold fl_X0_ledTo at q
  split at q
  · exact am_run_ok CX ok_X0_ledTo (K := []) (am_K0 (Wp := am_W p l e R s m args below meth c cells slots G 4 (Q r))) 14 0 _ _ _ q
  · cases q
theorem s_X0_ledTo : ∀ as h x, fl_X0_ledTo as h = some x → (∀ k, (some 0 : Option Nat) = some k → ∃ (j : Nat) (as' : List AV), as = .inr (.inr (.inl (k, j))) :: as') ∧ (am_l0 as).length ≤ 4 := by
  intro as h x q
  unfold fl_X0_ledTo at q
  split at q
  · exact ⟨fun k e => by cases e; exact ⟨_, _, rfl⟩, Nat.le_of_ble_eq_true rfl⟩
  · cases q
theorem M_X0_ledTo (l : Launch) (G : AG) : am_M l G yX0_ledTo cX0_ledTo 4 (some .int) 2 43 (some 0) F_X0_ledTo := am_M_of (f := fl_X0_ledTo) (toR := fun x => (some (.inl x.1), x.2)) (P := P_X0_ledTo) (Rr := am_rI) (own := RX0) (by decide) rfl (fun _ _ => rfl) s_X0_ledTo am_wrI am_rkI pf_RX0 pk_RX0 ps_RX0 (List.forall_mem_cons.mpr ⟨cv_RX0_34 l G (by decide) (by decide), (fun _ q => by cases q)⟩) (fun _ q => by cases q) (fun _ q => by cases q) (b_X0_ledTo l G)
def C_X0_wears : List AC := [(0, .aload_n 0, 1, []), (1, .getfield 15, 4, []), (4, .tableswitch 48 2 5 #[32, 34, 36, 34], 36, [52, 36, 38, 40, 38]), (36, .iconst 2, 37, []), (37, .ireturn, 38, []), (38, .iconst 3, 39, []), (39, .ireturn, 40, []), (40, .iload_n 1, 41, []), (41, .iconst 3, 42, []), (42, .irem, 43, []), (43, .ifCond .ne 7, 46, [50]), (46, .iconst 0, 47, []), (47, .goto 4, 50, [51]), (50, .iconst 1, 51, []), (51, .ireturn, 52, []), (52, .iconst 1, 53, []), (53, .ireturn, 54, [])]
theorem ok_X0_wears : ∀ x ∈ C_X0_wears, am_ok cX0_wears 2 x = true := by decide +kernel
noncomputable def P_X0_wears : AP := (PF_RX0, PK_RX0, PS_RX0, [], [], [])
noncomputable def f_X0_wears (a1 : Nat) (a2 : Int32) (h : HP) : Option (Int32 × HP) := if h_rI h 0 a1 0 = 2 then (some (2, h)) else (if h_rI h 0 a1 0 = 3 then (some (3, h)) else (if h_rI h 0 a1 0 = 4 then (if a2 - a2 / 3 * 3 = (0 : Int32) then (some (0, h)) else (some (1, h))) else (if h_rI h 0 a1 0 = 5 then (some (3, h)) else (some (1, h)))))
noncomputable def fl_X0_wears : List AV → HP → Option (Int32 × HP) := fun as h => match as with
  | [.inr (.inr (.inl (0, a1))), .inl a2] => f_X0_wears a1 a2 h
  | _ => none
noncomputable def F_X0_wears : AF := .inl fl_X0_wears
set_option maxRecDepth 20000 in
theorem b_X0_wears (l : Launch) (G : AG) : am_B l G 2 cX0_wears RX0 am_tb P_X0_wears am_rI fl_X0_wears := by
  intro p e R s m args below meth c cells slots Q CX as h r q
  unfold fl_X0_wears at q
  split at q
  · exact am_run_ok CX ok_X0_wears (K := []) (am_K0 (Wp := am_W p l e R s m args below meth c cells slots G 2 (Q r))) 13 0 _ _ _ q
  · cases q
theorem s_X0_wears : ∀ as h x, fl_X0_wears as h = some x → (∀ k, (some 0 : Option Nat) = some k → ∃ (j : Nat) (as' : List AV), as = .inr (.inr (.inl (k, j))) :: as') ∧ (am_l0 as).length ≤ 2 := by
  intro as h x q
  unfold fl_X0_wears at q
  split at q
  · exact ⟨fun k e => by cases e; exact ⟨_, _, rfl⟩, Nat.le_of_ble_eq_true rfl⟩
  · cases q
theorem M_X0_wears (l : Launch) (G : AG) : am_M l G yX0_wears cX0_wears 2 (some .int) 0 0 (some 0) F_X0_wears := am_M_of (f := fl_X0_wears) (toR := fun x => (some (.inl x.1), x.2)) (P := P_X0_wears) (Rr := am_rI) (own := RX0) (by decide) rfl (fun _ _ => rfl) s_X0_wears am_wrI am_rkI pf_RX0 pk_RX0 ps_RX0 (fun _ q => by cases q) (fun _ q => by cases q) (fun _ q => by cases q) (b_X0_wears l G)
theorem cv_RX0_41 (l : Launch) (G : AG) {fr lo : Nat} (h1 : 0 + 1 ≤ fr) (h2 : 8 + (2 + 11) + 0 ≤ lo) : am_cvOK l G RX0 fr lo (41, 2, F_X0_wears) := ⟨yX0_wears, cX0_wears, 2, (some .int), 0, 0, 0, RX0, M_X0_wears l G, ⟨(am_tb_mem (wd_8 _ (List.mem_of_getElem? (i := 29) rfl))), (am_tb_mem (wd_5 _ (List.mem_of_getElem? (i := 9) rfl))), (am_tb_mem (wd_5 _ (List.mem_of_getElem? (i := 10) rfl))), (am_tb_mem (wd_1 _ (List.mem_of_getElem? (i := 21) rfl))), (am_tb_mem (wd_5 _ (List.mem_of_getElem? (i := 11) rfl)))⟩, ⟨rfl, by decide, by decide, by decide +kernel⟩, Or.inl ⟨by decide, rfl⟩, h1, h2⟩
theorem cs_RX0_44 (l : Launch) (G : AG) {fr lo : Nat} (h1 : 1 ≤ fr) (h2 : 21 ≤ lo) : am_csOK l G RX0 fr lo (44, 2, F_J9_min_7cf53) := Or.inr (Or.inr ⟨rfl, ⟨(am_tb_mem (wd_8 _ (List.mem_of_getElem? (i := 30) rfl))), (am_tb_mem (wd_8 _ (List.mem_of_getElem? (i := 31) rfl))), (am_tb_mem (wd_1 _ (List.mem_of_getElem? (i := 28) rfl))), (am_tb_mem (wd_8 _ (List.mem_of_getElem? (i := 32) rfl)))⟩, h1, h2⟩)
def C_X0_wearOnce : List AC := [(0, .aload_n 0, 1, []), (1, .bipush 99, 3, []), (3, .aload_n 0, 4, []), (4, .getfield 24, 7, []), (7, .aload_n 0, 8, []), (8, .iload_n 1, 9, []), (9, .invokevirtual 41, 12, []), (12, .iadd, 13, []), (13, .invokestatic 44, 16, []), (16, .putfield 24, 19, []), (19, .return_, 20, [])]
theorem ok_X0_wearOnce : ∀ x ∈ C_X0_wearOnce, am_ok cX0_wearOnce 2 x = true := by decide +kernel
noncomputable def P_X0_wearOnce : AP := (PF_RX0, PK_RX0, PS_RX0, [(41, 2, F_X0_wears)], [(44, 2, F_J9_min_7cf53)], [])
noncomputable def f_X0_wearOnce (a1 : Nat) (a2 : Int32) (h : HP) : Option HP := (f_X0_wears a1 a2 h).bind (fun q_1 => (f_J9_min_7cf53 99 ((h_rI h 0 a1 3) + q_1.1) q_1.2).bind (fun q_2 => some (h_wI q_2.2 0 a1 3 q_2.1)))
noncomputable def fl_X0_wearOnce : List AV → HP → Option HP := fun as h => match as with
  | [.inr (.inr (.inl (0, a1))), .inl a2] => f_X0_wearOnce a1 a2 h
  | _ => none
noncomputable def F_X0_wearOnce : AF := .inr (.inl fl_X0_wearOnce)
set_option maxRecDepth 20000 in
theorem b_X0_wearOnce (l : Launch) (G : AG) : am_B l G 2 cX0_wearOnce RX0 am_tb P_X0_wearOnce am_rV fl_X0_wearOnce := by
  intro p e R s m args below meth c cells slots Q CX as h r q
  unfold fl_X0_wearOnce at q
  split at q
  · exact am_run_ok CX ok_X0_wearOnce (K := []) (am_K0 (Wp := am_W p l e R s m args below meth c cells slots G 2 (Q r))) 14 0 _ _ _ q
  · cases q
theorem s_X0_wearOnce : ∀ as h x, fl_X0_wearOnce as h = some x → (∀ k, (some 0 : Option Nat) = some k → ∃ (j : Nat) (as' : List AV), as = .inr (.inr (.inl (k, j))) :: as') ∧ (am_l0 as).length ≤ 2 := by
  intro as h x q
  unfold fl_X0_wearOnce at q
  split at q
  · exact ⟨fun k e => by cases e; exact ⟨_, _, rfl⟩, Nat.le_of_ble_eq_true rfl⟩
  · cases q
theorem M_X0_wearOnce (l : Launch) (G : AG) : am_M l G yX0_wearOnce cX0_wearOnce 2 none 1 21 (some 0) F_X0_wearOnce := am_M_of (f := fl_X0_wearOnce) (toR := fun x => (none, x)) (P := P_X0_wearOnce) (Rr := am_rV) (own := RX0) (by decide) rfl (fun _ _ => rfl) s_X0_wearOnce am_wrV am_rkV pf_RX0 pk_RX0 ps_RX0 (List.forall_mem_cons.mpr ⟨cv_RX0_41 l G (by decide) (by decide), (fun _ q => by cases q)⟩) (List.forall_mem_cons.mpr ⟨cs_RX0_44 l G (by decide) (by decide), (fun _ q => by cases q)⟩) (fun _ q => by cases q) (b_X0_wearOnce l G)
def C_X2_becomes : List AC := [(0, .aload_n 0, 1, []), (1, .aload_n 1, 2, []), (2, .getfield 7, 5, []), (5, .putfield 7, 8, []), (8, .aload_n 0, 9, []), (9, .aload_n 1, 10, []), (10, .getfield 13, 13, []), (13, .putfield 13, 16, []), (16, .return_, 17, [])]
theorem ok_X2_becomes : ∀ x ∈ C_X2_becomes, am_ok cX2_becomes 2 x = true := by decide +kernel
noncomputable def P_X2_becomes : AP := (PF_RX2, PK_RX2, PS_RX2, [], [], [])
noncomputable def f_X2_becomes (a1 : Nat) (a2 : Nat) (h : HP) : Option HP := some (h_wI (h_wI h 2 a1 0 (h_rI h 2 a2 0)) 2 a1 1 (h_rI (h_wI h 2 a1 0 (h_rI h 2 a2 0)) 2 a2 1))
noncomputable def fl_X2_becomes : List AV → HP → Option HP := fun as h => match as with
  | [.inr (.inr (.inl (2, a1))), .inr (.inr (.inl (2, a2)))] => f_X2_becomes a1 a2 h
  | _ => none
noncomputable def F_X2_becomes : AF := .inr (.inl fl_X2_becomes)
set_option maxRecDepth 20000 in
theorem b_X2_becomes (l : Launch) (G : AG) : am_B l G 2 cX2_becomes RX2 am_tb P_X2_becomes am_rV fl_X2_becomes := by
  intro p e R s m args below meth c cells slots Q CX as h r q
  unfold fl_X2_becomes at q
  split at q
  · exact am_run_ok CX ok_X2_becomes (K := []) (am_K0 (Wp := am_W p l e R s m args below meth c cells slots G 2 (Q r))) 12 0 _ _ _ q
  · cases q
theorem s_X2_becomes : ∀ as h x, fl_X2_becomes as h = some x → (∀ k, (some 2 : Option Nat) = some k → ∃ (j : Nat) (as' : List AV), as = .inr (.inr (.inl (k, j))) :: as') ∧ (am_l0 as).length ≤ 2 := by
  intro as h x q
  unfold fl_X2_becomes at q
  split at q
  · exact ⟨fun k e => by cases e; exact ⟨_, _, rfl⟩, Nat.le_of_ble_eq_true rfl⟩
  · cases q
theorem M_X2_becomes (l : Launch) (G : AG) : am_M l G yX2_becomes cX2_becomes 2 none 0 0 (some 2) F_X2_becomes := am_M_of (f := fl_X2_becomes) (toR := fun x => (none, x)) (P := P_X2_becomes) (Rr := am_rV) (own := RX2) (by decide) rfl (fun _ _ => rfl) s_X2_becomes am_wrV am_rkV pf_RX2 pk_RX2 ps_RX2 (fun _ q => by cases q) (fun _ q => by cases q) (fun _ q => by cases q) (b_X2_becomes l G)
def C_X3_start : List AC := [(0, .aload_n 0, 1, []), (1, .iload_n 1, 2, []), (2, .putfield 15, 5, []), (5, .aload_n 0, 6, []), (6, .iload_n 2, 7, []), (7, .putfield 19, 10, []), (10, .iconst 0, 11, []), (11, .istore_n 3, 12, []), (12, .iload_n 3, 13, []), (13, .bipush 40, 15, []), (15, .if_icmp .ge 16, 18, [31]), (18, .aload_n 0, 19, []), (19, .getfield 9, 22, []), (22, .iload_n 3, 23, []), (23, .lconst 0, 24, []), (24, .lastore, 25, []), (25, .iinc 3 1, 28, []), (28, .goto (-16), 31, [12]), (31, .return_, 32, [])]
theorem ok_X3_start : ∀ x ∈ C_X3_start, am_ok cX3_start 4 x = true := by decide +kernel
noncomputable def P_X3_start : AP := (PF_RX3, PK_RX3, PS_RX3, [], [], [])
noncomputable def g_X3_start_12  : Nat → Nat → Int32 → HP → Option HP
  | 0, _, _, _ => none
  | n + 1, a1, a2, h => if (40 : Int32) ≤ a2 then (some h) else ((am_ix a2 40).bind (fun k_1 => g_X3_start_12 n a1 (a2 + 1) (h_wJ h 12 a1 k_1 0)))
def pk_X3_start_12 (k : Nat → Int32 → HP → Option HP) : List AV → List AV → HP → Option HP := fun L st h => match L, st with
  | [.inr (.inr (.inl (3, a1))), .inl _, .inl _, .inl a2], [] => k a1 a2 h
  | _, _ => none
theorem pk_X3_start_12_ok {Wp : List AV → List AV → HP → Prop} {r : HP} {k : Nat → Int32 → HP → Option HP} (hk : ∀ (a1 : Nat) (a2 : Int32) (w1 : Int32) (w2 : Int32) (h : HP), k a1 a2 h = some r → Wp [.inr (.inr (.inl (3, a1))), .inl w1, .inl w2, .inl a2] [] h) : ∀ L st h, pk_X3_start_12 k L st h = some r → Wp L st h := by
  intro L st h q
  unfold pk_X3_start_12 at q
  split at q
  · exact hk _ _ _ _ _ q
  · cases q
noncomputable def f_X3_start (a1 : Nat) (a2 : Int32) (a3 : Int32) (h : HP) : Option HP := g_X3_start_12 am_fu a1 0 (h_wI (h_wI h 3 a1 0 a2) 3 a1 1 a3)
noncomputable def fl_X3_start : List AV → HP → Option HP := fun as h => match as with
  | [.inr (.inr (.inl (3, a1))), .inl a2, .inl a3] => f_X3_start a1 a2 a3 h
  | _ => none
noncomputable def F_X3_start : AF := .inr (.inl fl_X3_start)
set_option maxRecDepth 20000 in
theorem w_X3_start_12 {p : Program} {l : Launch} {e : Env} {R : Room} {s : State} {m : MethodId} {args : Array Value} {below : List Frame} {meth : Method} {c : Code} {cells slots : Nat} {G : AG} {Q : HP → State → Prop} (CX : am_X p l e R s m args below meth c cells slots G 4 cX3_start RX3 am_tb P_X3_start am_rV Q) {r : HP} : ∀ (n : Nat) (a1 : Nat) (a2 : Int32) (w1 : Int32) (w2 : Int32) (h : HP), g_X3_start_12 n a1 a2 h = some r → am_W p l e R s m args below meth c cells slots G 4 (Q r) 12 [.inr (.inr (.inl (3, a1))), .inl w1, .inl w2, .inl a2] [] h := by
  intro n
  induction n with
  | zero =>
    intro a1 a2 w1 w2 h q
    have q9 : (none : Option HP) = some r := q
    cases q9
  | succ n ih =>
    intro a1 a2 w1 w2 h q
    exact am_run_ok CX ok_X3_start (K := [(12, pk_X3_start_12 (g_X3_start_12 n))]) (am_K1 (Wp := am_W p l e R s m args below meth c cells slots G 4 (Q r)) (pk_X3_start_12_ok (Wp := am_W p l e R s m args below meth c cells slots G 4 (Q r) 12) ih) am_K0) 13 12 _ _ _ q
set_option maxRecDepth 20000 in
theorem b_X3_start (l : Launch) (G : AG) : am_B l G 4 cX3_start RX3 am_tb P_X3_start am_rV fl_X3_start := by
  intro p e R s m args below meth c cells slots Q CX as h r q
  unfold fl_X3_start at q
  split at q
  · exact am_run_ok CX ok_X3_start (K := [(12, pk_X3_start_12 (g_X3_start_12 am_fu))]) (am_K1 (Wp := am_W p l e R s m args below meth c cells slots G 4 (Q r)) (pk_X3_start_12_ok (Wp := am_W p l e R s m args below meth c cells slots G 4 (Q r) 12) (w_X3_start_12 CX am_fu)) am_K0) 11 0 _ _ _ q
  · cases q
theorem s_X3_start : ∀ as h x, fl_X3_start as h = some x → (∀ k, (some 3 : Option Nat) = some k → ∃ (j : Nat) (as' : List AV), as = .inr (.inr (.inl (k, j))) :: as') ∧ (am_l0 as).length ≤ 4 := by
  intro as h x q
  unfold fl_X3_start at q
  split at q
  · exact ⟨fun k e => by cases e; exact ⟨_, _, rfl⟩, Nat.le_of_ble_eq_true rfl⟩
  · cases q
theorem M_X3_start (l : Launch) (G : AG) : am_M l G yX3_start cX3_start 4 none 0 0 (some 3) F_X3_start := am_M_of (f := fl_X3_start) (toR := fun x => (none, x)) (P := P_X3_start) (Rr := am_rV) (own := RX3) (by decide) rfl (fun _ _ => rfl) s_X3_start am_wrV am_rkV pf_RX3 pk_RX3 ps_RX3 (fun _ q => by cases q) (fun _ q => by cases q) (fun _ q => by cases q) (b_X3_start l G)
def C_X3_isMissing : List AC := [(0, .aload_n 0, 1, []), (1, .getfield 15, 4, []), (4, .ifCond .ne 7, 7, [11]), (7, .iconst 1, 8, []), (8, .goto 4, 11, [12]), (11, .iconst 0, 12, []), (12, .ireturn, 13, [])]
theorem ok_X3_isMissing : ∀ x ∈ C_X3_isMissing, am_ok cX3_isMissing 1 x = true := by decide +kernel
noncomputable def P_X3_isMissing : AP := (PF_RX3, PK_RX3, PS_RX3, [], [], [])
noncomputable def f_X3_isMissing (a1 : Nat) (h : HP) : Option (Int32 × HP) := if h_rI h 3 a1 0 = (0 : Int32) then (some (1, h)) else (some (0, h))
noncomputable def fl_X3_isMissing : List AV → HP → Option (Int32 × HP) := fun as h => match as with
  | [.inr (.inr (.inl (3, a1)))] => f_X3_isMissing a1 h
  | _ => none
noncomputable def F_X3_isMissing : AF := .inl fl_X3_isMissing
set_option maxRecDepth 20000 in
theorem b_X3_isMissing (l : Launch) (G : AG) : am_B l G 1 cX3_isMissing RX3 am_tb P_X3_isMissing am_rZ fl_X3_isMissing := by
  intro p e R s m args below meth c cells slots Q CX as h r q
  unfold fl_X3_isMissing at q
  split at q
  · exact am_run_ok CX ok_X3_isMissing (K := []) (am_K0 (Wp := am_W p l e R s m args below meth c cells slots G 1 (Q r))) 9 0 _ _ _ q
  · cases q
theorem s_X3_isMissing : ∀ as h x, fl_X3_isMissing as h = some x → (∀ k, (some 3 : Option Nat) = some k → ∃ (j : Nat) (as' : List AV), as = .inr (.inr (.inl (k, j))) :: as') ∧ (am_l0 as).length ≤ 1 := by
  intro as h x q
  unfold fl_X3_isMissing at q
  split at q
  · exact ⟨fun k e => by cases e; exact ⟨_, _, rfl⟩, Nat.le_of_ble_eq_true rfl⟩
  · cases q
theorem M_X3_isMissing (l : Launch) (G : AG) : am_M l G yX3_isMissing cX3_isMissing 1 (some .boolean) 0 0 (some 3) F_X3_isMissing := am_M_of (f := fl_X3_isMissing) (toR := fun x => (some (.inl x.1), x.2)) (P := P_X3_isMissing) (Rr := am_rZ) (own := RX3) (by decide) rfl (fun _ _ => rfl) s_X3_isMissing am_wrI am_rkZ pf_RX3 pk_RX3 ps_RX3 (fun _ q => by cases q) (fun _ q => by cases q) (fun _ q => by cases q) (b_X3_isMissing l G)
def C_X3_put : List AC := [(0, .iload_n 1, 1, []), (1, .ifCond .lt 11, 4, [12]), (4, .iload_n 1, 5, []), (5, .aload_n 0, 6, []), (6, .getfield 19, 9, []), (9, .if_icmp .lt 4, 12, [13]), (12, .return_, 13, []), (13, .aload_n 0, 14, []), (14, .getfield 15, 17, []), (17, .bipush 8, 19, []), (19, .if_icmp .ne 16, 22, [35]), (22, .aload_n 0, 23, []), (23, .getfield 9, 26, []), (26, .iload_n 1, 27, []), (27, .lload_n 2, 28, []), (28, .l2i, 29, []), (29, .i2b, 30, []), (30, .i2l, 31, []), (31, .lastore, 32, []), (32, .goto 32, 35, [64]), (35, .aload_n 0, 36, []), (36, .getfield 15, 39, []), (39, .bipush 16, 41, []), (41, .if_icmp .ne 16, 44, [57]), (44, .aload_n 0, 45, []), (45, .getfield 9, 48, []), (48, .iload_n 1, 49, []), (49, .lload_n 2, 50, []), (50, .l2i, 51, []), (51, .i2s, 52, []), (52, .i2l, 53, []), (53, .lastore, 54, []), (54, .goto 10, 57, [64]), (57, .aload_n 0, 58, []), (58, .getfield 9, 61, []), (61, .iload_n 1, 62, []), (62, .lload_n 2, 63, []), (63, .lastore, 64, []), (64, .return_, 65, [])]
theorem ok_X3_put : ∀ x ∈ C_X3_put, am_ok cX3_put 4 x = true := by decide +kernel
noncomputable def P_X3_put : AP := (PF_RX3, PK_RX3, PS_RX3, [], [], [])
noncomputable def f_X3_put (a1 : Nat) (a2 : Int32) (a3 : Int64) (h : HP) : Option HP := if a2 < (0 : Int32) then (some h) else (if a2 < h_rI h 3 a1 1 then (if h_rI h 3 a1 0 = (8 : Int32) then ((am_ix a2 40).bind (fun k_3 => some (h_wJ h 12 a1 k_3 (Int32.toInt64 ((Int32.toInt8 (Int64.toInt32 a3)).toInt32))))) else (if h_rI h 3 a1 0 = (16 : Int32) then ((am_ix a2 40).bind (fun k_2 => some (h_wJ h 12 a1 k_2 (Int32.toInt64 ((Int32.toInt16 (Int64.toInt32 a3)).toInt32))))) else ((am_ix a2 40).bind (fun k_1 => some (h_wJ h 12 a1 k_1 a3))))) else (some h))
noncomputable def fl_X3_put : List AV → HP → Option HP := fun as h => match as with
  | [.inr (.inr (.inl (3, a1))), .inl a2, .inr (.inl a3)] => f_X3_put a1 a2 a3 h
  | _ => none
noncomputable def F_X3_put : AF := .inr (.inl fl_X3_put)
set_option maxRecDepth 20000 in
theorem b_X3_put (l : Launch) (G : AG) : am_B l G 4 cX3_put RX3 am_tb P_X3_put am_rV fl_X3_put := by
  intro p e R s m args below meth c cells slots Q CX as h r q
  unfold fl_X3_put at q
  split at q
  · exact am_run_ok CX ok_X3_put (K := []) (am_K0 (Wp := am_W p l e R s m args below meth c cells slots G 4 (Q r))) 27 0 _ _ _ q
  · cases q
theorem s_X3_put : ∀ as h x, fl_X3_put as h = some x → (∀ k, (some 3 : Option Nat) = some k → ∃ (j : Nat) (as' : List AV), as = .inr (.inr (.inl (k, j))) :: as') ∧ (am_l0 as).length ≤ 4 := by
  intro as h x q
  unfold fl_X3_put at q
  split at q
  · exact ⟨fun k e => by cases e; exact ⟨_, _, rfl⟩, Nat.le_of_ble_eq_true rfl⟩
  · cases q
theorem M_X3_put (l : Launch) (G : AG) : am_M l G yX3_put cX3_put 4 none 0 0 (some 3) F_X3_put := am_M_of (f := fl_X3_put) (toR := fun x => (none, x)) (P := P_X3_put) (Rr := am_rV) (own := RX3) (by decide) rfl (fun _ _ => rfl) s_X3_put am_wrV am_rkV pf_RX3 pk_RX3 ps_RX3 (fun _ q => by cases q) (fun _ q => by cases q) (fun _ q => by cases q) (b_X3_put l G)
def C_X3_hasPart : List AC := [(0, .iload_n 1, 1, []), (1, .ifCond .lt 29, 4, [30]), (4, .iload_n 2, 5, []), (5, .ifCond .lt 25, 8, [30]), (8, .iload_n 2, 9, []), (9, .aload_n 0, 10, []), (10, .getfield 19, 13, []), (13, .if_icmp .gt 17, 16, [30]), (16, .iload_n 1, 17, []), (17, .aload_n 0, 18, []), (18, .getfield 19, 21, []), (21, .iload_n 2, 22, []), (22, .isub, 23, []), (23, .if_icmp .gt 7, 26, [30]), (26, .iconst 1, 27, []), (27, .goto 4, 30, [31]), (30, .iconst 0, 31, []), (31, .ireturn, 32, [])]
theorem ok_X3_hasPart : ∀ x ∈ C_X3_hasPart, am_ok cX3_hasPart 3 x = true := by decide +kernel
noncomputable def P_X3_hasPart : AP := (PF_RX3, PK_RX3, PS_RX3, [], [], [])
noncomputable def f_X3_hasPart (a1 : Nat) (a2 : Int32) (a3 : Int32) (h : HP) : Option (Int32 × HP) := if a2 < (0 : Int32) then (some (0, h)) else (if a3 < (0 : Int32) then (some (0, h)) else (if h_rI h 3 a1 1 < a3 then (some (0, h)) else (if (h_rI h 3 a1 1) - a3 < a2 then (some (0, h)) else (some (1, h)))))
noncomputable def fl_X3_hasPart : List AV → HP → Option (Int32 × HP) := fun as h => match as with
  | [.inr (.inr (.inl (3, a1))), .inl a2, .inl a3] => f_X3_hasPart a1 a2 a3 h
  | _ => none
noncomputable def F_X3_hasPart : AF := .inl fl_X3_hasPart
set_option maxRecDepth 20000 in
theorem b_X3_hasPart (l : Launch) (G : AG) : am_B l G 3 cX3_hasPart RX3 am_tb P_X3_hasPart am_rZ fl_X3_hasPart := by
  intro p e R s m args below meth c cells slots Q CX as h r q
  unfold fl_X3_hasPart at q
  split at q
  · exact am_run_ok CX ok_X3_hasPart (K := []) (am_K0 (Wp := am_W p l e R s m args below meth c cells slots G 3 (Q r))) 20 0 _ _ _ q
  · cases q
theorem s_X3_hasPart : ∀ as h x, fl_X3_hasPart as h = some x → (∀ k, (some 3 : Option Nat) = some k → ∃ (j : Nat) (as' : List AV), as = .inr (.inr (.inl (k, j))) :: as') ∧ (am_l0 as).length ≤ 3 := by
  intro as h x q
  unfold fl_X3_hasPart at q
  split at q
  · exact ⟨fun k e => by cases e; exact ⟨_, _, rfl⟩, Nat.le_of_ble_eq_true rfl⟩
  · cases q
theorem M_X3_hasPart (l : Launch) (G : AG) : am_M l G yX3_hasPart cX3_hasPart 3 (some .boolean) 0 0 (some 3) F_X3_hasPart := am_M_of (f := fl_X3_hasPart) (toR := fun x => (some (.inl x.1), x.2)) (P := P_X3_hasPart) (Rr := am_rZ) (own := RX3) (by decide) rfl (fun _ _ => rfl) s_X3_hasPart am_wrI am_rkZ pf_RX3 pk_RX3 ps_RX3 (fun _ q => by cases q) (fun _ q => by cases q) (fun _ q => by cases q) (b_X3_hasPart l G)
def C_X4_hasPlaceFor : List AC := [(0, .aload_n 0, 1, []), (1, .getfield 15, 4, []), (4, .iload_n 1, 5, []), (5, .iadd, 6, []), (6, .bipush 120, 8, []), (8, .if_icmp .gt 7, 11, [15]), (11, .iconst 1, 12, []), (12, .goto 4, 15, [16]), (15, .iconst 0, 16, []), (16, .ireturn, 17, [])]
theorem ok_X4_hasPlaceFor : ∀ x ∈ C_X4_hasPlaceFor, am_ok cX4_hasPlaceFor 2 x = true := by decide +kernel
noncomputable def P_X4_hasPlaceFor : AP := (PF_RX4, PK_RX4, PS_RX4, [], [], [])
noncomputable def f_X4_hasPlaceFor (a1 : Int32) (h : HP) : Option (Int32 × HP) := if (120 : Int32) < (h_rI h 4 0 1) + a1 then (some (0, h)) else (some (1, h))
noncomputable def fl_X4_hasPlaceFor : List AV → HP → Option (Int32 × HP) := fun as h => match as with
  | [.inr (.inr (.inl (4, 0))), .inl a1] => f_X4_hasPlaceFor a1 h
  | _ => none
noncomputable def F_X4_hasPlaceFor : AF := .inl fl_X4_hasPlaceFor
set_option maxRecDepth 20000 in
theorem b_X4_hasPlaceFor (l : Launch) (G : AG) : am_B l G 2 cX4_hasPlaceFor RX4 am_tb P_X4_hasPlaceFor am_rZ fl_X4_hasPlaceFor := by
  intro p e R s m args below meth c cells slots Q CX as h r q
  unfold fl_X4_hasPlaceFor at q
  split at q
  · exact am_run_ok CX ok_X4_hasPlaceFor (K := []) (am_K0 (Wp := am_W p l e R s m args below meth c cells slots G 2 (Q r))) 12 0 _ _ _ q
  · cases q
theorem s_X4_hasPlaceFor : ∀ as h x, fl_X4_hasPlaceFor as h = some x → (∀ k, (some 4 : Option Nat) = some k → ∃ (j : Nat) (as' : List AV), as = .inr (.inr (.inl (k, j))) :: as') ∧ (am_l0 as).length ≤ 2 := by
  intro as h x q
  unfold fl_X4_hasPlaceFor at q
  split at q
  · exact ⟨fun k e => by cases e; exact ⟨_, _, rfl⟩, Nat.le_of_ble_eq_true rfl⟩
  · cases q
theorem M_X4_hasPlaceFor (l : Launch) (G : AG) : am_M l G yX4_hasPlaceFor cX4_hasPlaceFor 2 (some .boolean) 0 0 (some 4) F_X4_hasPlaceFor := am_M_of (f := fl_X4_hasPlaceFor) (toR := fun x => (some (.inl x.1), x.2)) (P := P_X4_hasPlaceFor) (Rr := am_rZ) (own := RX4) (by decide) rfl (fun _ _ => rfl) s_X4_hasPlaceFor am_wrI am_rkZ pf_RX4 pk_RX4 ps_RX4 (fun _ q => by cases q) (fun _ q => by cases q) (fun _ q => by cases q) (b_X4_hasPlaceFor l G)
def C_X4_add : List AC := [(0, .aload_n 0, 1, []), (1, .getfield 9, 4, []), (4, .aload_n 0, 5, []), (5, .getfield 15, 8, []), (8, .iload_n 1, 9, []), (9, .iastore, 10, []), (10, .aload_n 0, 11, []), (11, .dup, 12, []), (12, .getfield 15, 15, []), (15, .iconst 1, 16, []), (16, .iadd, 17, []), (17, .putfield 15, 20, []), (20, .return_, 21, [])]
theorem ok_X4_add : ∀ x ∈ C_X4_add, am_ok cX4_add 2 x = true := by decide +kernel
noncomputable def P_X4_add : AP := (PF_RX4, PK_RX4, PS_RX4, [], [], [])
noncomputable def f_X4_add (a1 : Int32) (h : HP) : Option HP := (am_ix (h_rI h 4 0 1) 120).bind (fun k_1 => some (h_wI (h_wI h 11 0 k_1 a1) 4 0 1 ((h_rI (h_wI h 11 0 k_1 a1) 4 0 1) + 1)))
noncomputable def fl_X4_add : List AV → HP → Option HP := fun as h => match as with
  | [.inr (.inr (.inl (4, 0))), .inl a1] => f_X4_add a1 h
  | _ => none
noncomputable def F_X4_add : AF := .inr (.inl fl_X4_add)
set_option maxRecDepth 20000 in
theorem b_X4_add (l : Launch) (G : AG) : am_B l G 2 cX4_add RX4 am_tb P_X4_add am_rV fl_X4_add := by
  intro p e R s m args below meth c cells slots Q CX as h r q
  unfold fl_X4_add at q
  split at q
  · exact am_run_ok CX ok_X4_add (K := []) (am_K0 (Wp := am_W p l e R s m args below meth c cells slots G 2 (Q r))) 16 0 _ _ _ q
  · cases q
theorem s_X4_add : ∀ as h x, fl_X4_add as h = some x → (∀ k, (some 4 : Option Nat) = some k → ∃ (j : Nat) (as' : List AV), as = .inr (.inr (.inl (k, j))) :: as') ∧ (am_l0 as).length ≤ 2 := by
  intro as h x q
  unfold fl_X4_add at q
  split at q
  · exact ⟨fun k e => by cases e; exact ⟨_, _, rfl⟩, Nat.le_of_ble_eq_true rfl⟩
  · cases q
theorem M_X4_add (l : Launch) (G : AG) : am_M l G yX4_add cX4_add 2 none 0 0 (some 4) F_X4_add := am_M_of (f := fl_X4_add) (toR := fun x => (none, x)) (P := P_X4_add) (Rr := am_rV) (own := RX4) (by decide) rfl (fun _ _ => rfl) s_X4_add am_wrV am_rkV pf_RX4 pk_RX4 ps_RX4 (fun _ q => by cases q) (fun _ q => by cases q) (fun _ q => by cases q) (b_X4_add l G)
def C_X4_clear : List AC := [(0, .aload_n 0, 1, []), (1, .getfield 15, 4, []), (4, .istore_n 1, 5, []), (5, .aload_n 0, 6, []), (6, .iconst 0, 7, []), (7, .putfield 15, 10, []), (10, .iload_n 1, 11, []), (11, .ireturn, 12, [])]
theorem ok_X4_clear : ∀ x ∈ C_X4_clear, am_ok cX4_clear 2 x = true := by decide +kernel
noncomputable def P_X4_clear : AP := (PF_RX4, PK_RX4, PS_RX4, [], [], [])
noncomputable def f_X4_clear  (h : HP) : Option (Int32 × HP) := some (h_rI h 4 0 1, h_wI h 4 0 1 0)
noncomputable def fl_X4_clear : List AV → HP → Option (Int32 × HP) := fun as h => match as with
  | [.inr (.inr (.inl (4, 0)))] => f_X4_clear h
  | _ => none
noncomputable def F_X4_clear : AF := .inl fl_X4_clear
set_option maxRecDepth 20000 in
theorem b_X4_clear (l : Launch) (G : AG) : am_B l G 2 cX4_clear RX4 am_tb P_X4_clear am_rI fl_X4_clear := by
  intro p e R s m args below meth c cells slots Q CX as h r q
  unfold fl_X4_clear at q
  split at q
  · exact am_run_ok CX ok_X4_clear (K := []) (am_K0 (Wp := am_W p l e R s m args below meth c cells slots G 2 (Q r))) 11 0 _ _ _ q
  · cases q
theorem s_X4_clear : ∀ as h x, fl_X4_clear as h = some x → (∀ k, (some 4 : Option Nat) = some k → ∃ (j : Nat) (as' : List AV), as = .inr (.inr (.inl (k, j))) :: as') ∧ (am_l0 as).length ≤ 2 := by
  intro as h x q
  unfold fl_X4_clear at q
  split at q
  · exact ⟨fun k e => by cases e; exact ⟨_, _, rfl⟩, Nat.le_of_ble_eq_true rfl⟩
  · cases q
theorem M_X4_clear (l : Launch) (G : AG) : am_M l G yX4_clear cX4_clear 2 (some .int) 0 0 (some 4) F_X4_clear := am_M_of (f := fl_X4_clear) (toR := fun x => (some (.inl x.1), x.2)) (P := P_X4_clear) (Rr := am_rI) (own := RX4) (by decide) rfl (fun _ _ => rfl) s_X4_clear am_wrI am_rkI pf_RX4 pk_RX4 ps_RX4 (fun _ q => by cases q) (fun _ q => by cases q) (fun _ q => by cases q) (b_X4_clear l G)
end
