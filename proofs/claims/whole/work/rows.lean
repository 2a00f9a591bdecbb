section
-- ===== PART A: goes FIRST, ahead of the names: the tables' words, and 'selects' of the private methods out of them =====
/-- a private method of a class that the tables say can be made, by its rows of tables_1 -/
def lw_okq (q : MethodName × Nat) : Prop := (q.1.cls ≠ "java/lang/invoke/MethodHandle" ∧ q.1.cls ≠ "java/lang/invoke/VarHandle") ∧ Cond.instantiable q.1.cls q.2 ∈ tables_1 ∧ Cond.privateMethod q.1 ∈ tables_1 ∧ Cond.instanceMethod q.1 ∈ tables_1
theorem lw_p0 : lw_okq (⟨"ShadowTailor$TextReader", "readNumbers", "(LShadowTailor$Text;II)I"⟩, 1) := ⟨⟨by decide +kernel, by decide +kernel⟩, List.mem_of_getElem? (i := 46) (by decide +kernel), List.mem_of_getElem? (i := 377) (by decide +kernel), List.mem_of_getElem? (i := 378) (by decide +kernel)⟩
theorem lw_p1 : lw_okq (⟨"ShadowTailor$TextReader", "addItem", "(LShadowTailor$Shop;C)Z"⟩, 1) := ⟨⟨by decide +kernel, by decide +kernel⟩, List.mem_of_getElem? (i := 46) (by decide +kernel), List.mem_of_getElem? (i := 384) (by decide +kernel), List.mem_of_getElem? (i := 385) (by decide +kernel)⟩
theorem lw_p2 : lw_okq (⟨"ShadowTailor", "isPerson", "(I)Z"⟩, 9) := ⟨⟨by decide +kernel, by decide +kernel⟩, List.mem_of_getElem? (i := 22) (by decide +kernel), List.mem_of_getElem? (i := 479) (by decide +kernel), List.mem_of_getElem? (i := 480) (by decide +kernel)⟩
theorem lw_p3 : lw_okq (⟨"ShadowTailor", "standersAt", "(II)I"⟩, 9) := ⟨⟨by decide +kernel, by decide +kernel⟩, List.mem_of_getElem? (i := 22) (by decide +kernel), List.mem_of_getElem? (i := 545) (by decide +kernel), List.mem_of_getElem? (i := 546) (by decide +kernel)⟩
theorem lw_p4 : lw_okq (⟨"ShadowTailor$Changes", "dropOldest", "()V"⟩, 3) := ⟨⟨by decide +kernel, by decide +kernel⟩, List.mem_of_getElem? (i := 57) (by decide +kernel), List.mem_of_getElem? (i := 575) (by decide +kernel), List.mem_of_getElem? (i := 576) (by decide +kernel)⟩
theorem lw_p5 : lw_okq (⟨"ShadowTailor$Sightings", "fits", "(LShadowTailor$Street;I)Z"⟩, 3) := ⟨⟨by decide +kernel, by decide +kernel⟩, List.mem_of_getElem? (i := 117) (by decide +kernel), List.mem_of_getElem? (i := 645) (by decide +kernel), List.mem_of_getElem? (i := 646) (by decide +kernel)⟩
theorem lw_p6 : lw_okq (⟨"ShadowTailor$Cutting", "seekFrom", "(LShadowTailor$Stock;III)V"⟩, 7) := ⟨⟨by decide +kernel, by decide +kernel⟩, List.mem_of_getElem? (i := 134) (by decide +kernel), List.mem_of_getElem? (i := 666) (by decide +kernel), List.mem_of_getElem? (i := 667) (by decide +kernel)⟩
theorem lw_p7 : lw_okq (⟨"ShadowTailor$Cutting", "lackingLength", "(LShadowTailor$Stock;)I"⟩, 7) := ⟨⟨by decide +kernel, by decide +kernel⟩, List.mem_of_getElem? (i := 134) (by decide +kernel), List.mem_of_getElem? (i := 670) (by decide +kernel), List.mem_of_getElem? (i := 671) (by decide +kernel)⟩
theorem lw_p8 : lw_okq (⟨"ShadowTailor$Cutting", "take", "(LShadowTailor$Stock;II)V"⟩, 7) := ⟨⟨by decide +kernel, by decide +kernel⟩, List.mem_of_getElem? (i := 134) (by decide +kernel), List.mem_of_getElem? (i := 675) (by decide +kernel), List.mem_of_getElem? (i := 676) (by decide +kernel)⟩
theorem lw_p9 : lw_okq (⟨"ShadowTailor$Timetable", "seekFrom", "(LShadowTailor$Stock;IIIII)V"⟩, 6) := ⟨⟨by decide +kernel, by decide +kernel⟩, List.mem_of_getElem? (i := 167) (by decide +kernel), List.mem_of_getElem? (i := 695) (by decide +kernel), List.mem_of_getElem? (i := 696) (by decide +kernel)⟩
theorem lw_p10 : lw_okq (⟨"ShadowTailor$Timetable", "take", "(LShadowTailor$Stock;II)V"⟩, 6) := ⟨⟨by decide +kernel, by decide +kernel⟩, List.mem_of_getElem? (i := 167) (by decide +kernel), List.mem_of_getElem? (i := 699) (by decide +kernel), List.mem_of_getElem? (i := 700) (by decide +kernel)⟩
theorem lw_p11 : lw_okq (⟨"ShadowTailorModel", "readItem", "()Z"⟩, 38) := ⟨⟨by decide +kernel, by decide +kernel⟩, List.mem_of_getElem? (i := 773) (by decide +kernel), List.mem_of_getElem? (i := 912) (by decide +kernel), List.mem_of_getElem? (i := 913) (by decide +kernel)⟩
theorem lw_p12 : lw_okq (⟨"ShadowTailorModel", "letterAt", "(I)I"⟩, 38) := ⟨⟨by decide +kernel, by decide +kernel⟩, List.mem_of_getElem? (i := 773) (by decide +kernel), List.mem_of_getElem? (i := 916) (by decide +kernel), List.mem_of_getElem? (i := 917) (by decide +kernel)⟩
theorem lw_p13 : lw_okq (⟨"ShadowTailorModel", "readPersonOf", "()Z"⟩, 38) := ⟨⟨by decide +kernel, by decide +kernel⟩, List.mem_of_getElem? (i := 773) (by decide +kernel), List.mem_of_getElem? (i := 920) (by decide +kernel), List.mem_of_getElem? (i := 921) (by decide +kernel)⟩
theorem lw_p14 : lw_okq (⟨"ShadowTailorModel", "readNumbers", "(I)Z"⟩, 38) := ⟨⟨by decide +kernel, by decide +kernel⟩, List.mem_of_getElem? (i := 773) (by decide +kernel), List.mem_of_getElem? (i := 924) (by decide +kernel), List.mem_of_getElem? (i := 925) (by decide +kernel)⟩
theorem lw_p15 : lw_okq (⟨"ShadowTailorModel", "isTold", "(III)Z"⟩, 38) := ⟨⟨by decide +kernel, by decide +kernel⟩, List.mem_of_getElem? (i := 773) (by decide +kernel), List.mem_of_getElem? (i := 931) (by decide +kernel), List.mem_of_getElem? (i := 932) (by decide +kernel)⟩
def lw_privs_1 : List (MethodName × Nat) := [(⟨"ShadowTailor$TextReader", "readNumbers", "(LShadowTailor$Text;II)I"⟩, 1), (⟨"ShadowTailor$TextReader", "addItem", "(LShadowTailor$Shop;C)Z"⟩, 1), (⟨"ShadowTailor", "isPerson", "(I)Z"⟩, 9), (⟨"ShadowTailor", "standersAt", "(II)I"⟩, 9), (⟨"ShadowTailor$Changes", "dropOldest", "()V"⟩, 3), (⟨"ShadowTailor$Sightings", "fits", "(LShadowTailor$Street;I)Z"⟩, 3), (⟨"ShadowTailor$Cutting", "seekFrom", "(LShadowTailor$Stock;III)V"⟩, 7), (⟨"ShadowTailor$Cutting", "lackingLength", "(LShadowTailor$Stock;)I"⟩, 7), (⟨"ShadowTailor$Cutting", "take", "(LShadowTailor$Stock;II)V"⟩, 7), (⟨"ShadowTailor$Timetable", "seekFrom", "(LShadowTailor$Stock;IIIII)V"⟩, 6), (⟨"ShadowTailor$Timetable", "take", "(LShadowTailor$Stock;II)V"⟩, 6), (⟨"ShadowTailorModel", "readItem", "()Z"⟩, 38), (⟨"ShadowTailorModel", "letterAt", "(I)I"⟩, 38), (⟨"ShadowTailorModel", "readPersonOf", "()Z"⟩, 38), (⟨"ShadowTailorModel", "readNumbers", "(I)Z"⟩, 38), (⟨"ShadowTailorModel", "isTold", "(III)Z"⟩, 38)]
theorem lw_r1 : ∀ q ∈ lw_privs_1, lw_okq q := List.forall_mem_cons.mpr ⟨lw_p0, List.forall_mem_cons.mpr ⟨lw_p1, List.forall_mem_cons.mpr ⟨lw_p2, List.forall_mem_cons.mpr ⟨lw_p3, List.forall_mem_cons.mpr ⟨lw_p4, List.forall_mem_cons.mpr ⟨lw_p5, List.forall_mem_cons.mpr ⟨lw_p6, List.forall_mem_cons.mpr ⟨lw_p7, List.forall_mem_cons.mpr ⟨lw_p8, List.forall_mem_cons.mpr ⟨lw_p9, List.forall_mem_cons.mpr ⟨lw_p10, List.forall_mem_cons.mpr ⟨lw_p11, List.forall_mem_cons.mpr ⟨lw_p12, List.forall_mem_cons.mpr ⟨lw_p13, List.forall_mem_cons.mpr ⟨lw_p14, List.forall_mem_cons.mpr ⟨lw_p15, fun _ h => absurd h List.not_mem_nil⟩⟩⟩⟩⟩⟩⟩⟩⟩⟩⟩⟩⟩⟩⟩⟩
theorem lw_p16 : lw_okq (⟨"ShadowTailorModel", "readWalk", "()Z"⟩, 38) := ⟨⟨by decide +kernel, by decide +kernel⟩, List.mem_of_getElem? (i := 773) (by decide +kernel), List.mem_of_getElem? (i := 938) (by decide +kernel), List.mem_of_getElem? (i := 939) (by decide +kernel)⟩
theorem lw_p17 : lw_okq (⟨"ShadowTailorModel", "isHourOfOne", "()Z"⟩, 38) := ⟨⟨by decide +kernel, by decide +kernel⟩, List.mem_of_getElem? (i := 773) (by decide +kernel), List.mem_of_getElem? (i := 942) (by decide +kernel), List.mem_of_getElem? (i := 943) (by decide +kernel)⟩
theorem lw_p18 : lw_okq (⟨"ShadowTailorModel", "readLawOf", "()Z"⟩, 38) := ⟨⟨by decide +kernel, by decide +kernel⟩, List.mem_of_getElem? (i := 773) (by decide +kernel), List.mem_of_getElem? (i := 946) (by decide +kernel), List.mem_of_getElem? (i := 947) (by decide +kernel)⟩
theorem lw_p19 : lw_okq (⟨"ShadowTailorModel", "readRemnantOf", "()Z"⟩, 38) := ⟨⟨by decide +kernel, by decide +kernel⟩, List.mem_of_getElem? (i := 773) (by decide +kernel), List.mem_of_getElem? (i := 950) (by decide +kernel), List.mem_of_getElem? (i := 951) (by decide +kernel)⟩
theorem lw_p20 : lw_okq (⟨"ShadowTailorModel", "readOrderOf", "()Z"⟩, 38) := ⟨⟨by decide +kernel, by decide +kernel⟩, List.mem_of_getElem? (i := 773) (by decide +kernel), List.mem_of_getElem? (i := 954) (by decide +kernel), List.mem_of_getElem? (i := 955) (by decide +kernel)⟩
theorem lw_p21 : lw_okq (⟨"ShadowTailorModel", "readFittingOf", "()Z"⟩, 38) := ⟨⟨by decide +kernel, by decide +kernel⟩, List.mem_of_getElem? (i := 773) (by decide +kernel), List.mem_of_getElem? (i := 958) (by decide +kernel), List.mem_of_getElem? (i := 959) (by decide +kernel)⟩
theorem lw_p22 : lw_okq (⟨"ShadowTailorModel", "isPerson", "(I)Z"⟩, 38) := ⟨⟨by decide +kernel, by decide +kernel⟩, List.mem_of_getElem? (i := 773) (by decide +kernel), List.mem_of_getElem? (i := 971) (by decide +kernel), List.mem_of_getElem? (i := 972) (by decide +kernel)⟩
theorem lw_p23 : lw_okq (⟨"ShadowTailorModel", "whereAt", "(II)I"⟩, 38) := ⟨⟨by decide +kernel, by decide +kernel⟩, List.mem_of_getElem? (i := 773) (by decide +kernel), List.mem_of_getElem? (i := 982) (by decide +kernel), List.mem_of_getElem? (i := 983) (by decide +kernel)⟩
theorem lw_p24 : lw_okq (⟨"ShadowTailorModel", "longAt", "(II)I"⟩, 38) := ⟨⟨by decide +kernel, by decide +kernel⟩, List.mem_of_getElem? (i := 773) (by decide +kernel), List.mem_of_getElem? (i := 990) (by decide +kernel), List.mem_of_getElem? (i := 991) (by decide +kernel)⟩
theorem lw_p25 : lw_okq (⟨"ShadowTailorModel", "longBy", "(III)I"⟩, 38) := ⟨⟨by decide +kernel, by decide +kernel⟩, List.mem_of_getElem? (i := 773) (by decide +kernel), List.mem_of_getElem? (i := 994) (by decide +kernel), List.mem_of_getElem? (i := 995) (by decide +kernel)⟩
theorem lw_p26 : lw_okq (⟨"ShadowTailorModel", "fromNoon", "(I)I"⟩, 38) := ⟨⟨by decide +kernel, by decide +kernel⟩, List.mem_of_getElem? (i := 773) (by decide +kernel), List.mem_of_getElem? (i := 998) (by decide +kernel), List.mem_of_getElem? (i := 999) (by decide +kernel)⟩
theorem lw_p27 : lw_okq (⟨"ShadowTailorModel", "wayAt", "(II)I"⟩, 38) := ⟨⟨by decide +kernel, by decide +kernel⟩, List.mem_of_getElem? (i := 773) (by decide +kernel), List.mem_of_getElem? (i := 1002) (by decide +kernel), List.mem_of_getElem? (i := 1003) (by decide +kernel)⟩
theorem lw_p28 : lw_okq (⟨"ShadowTailorModel", "endAt", "(II)I"⟩, 38) := ⟨⟨by decide +kernel, by decide +kernel⟩, List.mem_of_getElem? (i := 773) (by decide +kernel), List.mem_of_getElem? (i := 1006) (by decide +kernel), List.mem_of_getElem? (i := 1007) (by decide +kernel)⟩
theorem lw_p29 : lw_okq (⟨"ShadowTailorModel", "standsAt", "(II)I"⟩, 38) := ⟨⟨by decide +kernel, by decide +kernel⟩, List.mem_of_getElem? (i := 773) (by decide +kernel), List.mem_of_getElem? (i := 1021) (by decide +kernel), List.mem_of_getElem? (i := 1022) (by decide +kernel)⟩
theorem lw_p30 : lw_okq (⟨"ShadowTailorModel", "standOn", "(III)I"⟩, 38) := ⟨⟨by decide +kernel, by decide +kernel⟩, List.mem_of_getElem? (i := 773) (by decide +kernel), List.mem_of_getElem? (i := 1025) (by decide +kernel), List.mem_of_getElem? (i := 1026) (by decide +kernel)⟩
theorem lw_p31 : lw_okq (⟨"ShadowTailorModel", "remembers", "()V"⟩, 38) := ⟨⟨by decide +kernel, by decide +kernel⟩, List.mem_of_getElem? (i := 773) (by decide +kernel), List.mem_of_getElem? (i := 1040) (by decide +kernel), List.mem_of_getElem? (i := 1041) (by decide +kernel)⟩
def lw_privs_2 : List (MethodName × Nat) := [(⟨"ShadowTailorModel", "readWalk", "()Z"⟩, 38), (⟨"ShadowTailorModel", "isHourOfOne", "()Z"⟩, 38), (⟨"ShadowTailorModel", "readLawOf", "()Z"⟩, 38), (⟨"ShadowTailorModel", "readRemnantOf", "()Z"⟩, 38), (⟨"ShadowTailorModel", "readOrderOf", "()Z"⟩, 38), (⟨"ShadowTailorModel", "readFittingOf", "()Z"⟩, 38), (⟨"ShadowTailorModel", "isPerson", "(I)Z"⟩, 38), (⟨"ShadowTailorModel", "whereAt", "(II)I"⟩, 38), (⟨"ShadowTailorModel", "longAt", "(II)I"⟩, 38), (⟨"ShadowTailorModel", "longBy", "(III)I"⟩, 38), (⟨"ShadowTailorModel", "fromNoon", "(I)I"⟩, 38), (⟨"ShadowTailorModel", "wayAt", "(II)I"⟩, 38), (⟨"ShadowTailorModel", "endAt", "(II)I"⟩, 38), (⟨"ShadowTailorModel", "standsAt", "(II)I"⟩, 38), (⟨"ShadowTailorModel", "standOn", "(III)I"⟩, 38), (⟨"ShadowTailorModel", "remembers", "()V"⟩, 38)]
theorem lw_r2 : ∀ q ∈ lw_privs_2, lw_okq q := List.forall_mem_cons.mpr ⟨lw_p16, List.forall_mem_cons.mpr ⟨lw_p17, List.forall_mem_cons.mpr ⟨lw_p18, List.forall_mem_cons.mpr ⟨lw_p19, List.forall_mem_cons.mpr ⟨lw_p20, List.forall_mem_cons.mpr ⟨lw_p21, List.forall_mem_cons.mpr ⟨lw_p22, List.forall_mem_cons.mpr ⟨lw_p23, List.forall_mem_cons.mpr ⟨lw_p24, List.forall_mem_cons.mpr ⟨lw_p25, List.forall_mem_cons.mpr ⟨lw_p26, List.forall_mem_cons.mpr ⟨lw_p27, List.forall_mem_cons.mpr ⟨lw_p28, List.forall_mem_cons.mpr ⟨lw_p29, List.forall_mem_cons.mpr ⟨lw_p30, List.forall_mem_cons.mpr ⟨lw_p31, fun _ h => absurd h List.not_mem_nil⟩⟩⟩⟩⟩⟩⟩⟩⟩⟩⟩⟩⟩⟩⟩⟩
theorem lw_p32 : lw_okq (⟨"ShadowTailorModel", "does", "(IIII)Z"⟩, 38) := ⟨⟨by decide +kernel, by decide +kernel⟩, List.mem_of_getElem? (i := 773) (by decide +kernel), List.mem_of_getElem? (i := 1070) (by decide +kernel), List.mem_of_getElem? (i := 1071) (by decide +kernel)⟩
theorem lw_p33 : lw_okq (⟨"ShadowTailorModel", "alike", "(II)I"⟩, 38) := ⟨⟨by decide +kernel, by decide +kernel⟩, List.mem_of_getElem? (i := 773) (by decide +kernel), List.mem_of_getElem? (i := 1091) (by decide +kernel), List.mem_of_getElem? (i := 1092) (by decide +kernel)⟩
theorem lw_p34 : lw_okq (⟨"ShadowTailorModel", "shares", "(I)Z"⟩, 38) := ⟨⟨by decide +kernel, by decide +kernel⟩, List.mem_of_getElem? (i := 773) (by decide +kernel), List.mem_of_getElem? (i := 1099) (by decide +kernel), List.mem_of_getElem? (i := 1100) (by decide +kernel)⟩
theorem lw_p35 : lw_okq (⟨"ShadowTailorModel", "arranges", "(I)V"⟩, 38) := ⟨⟨by decide +kernel, by decide +kernel⟩, List.mem_of_getElem? (i := 773) (by decide +kernel), List.mem_of_getElem? (i := 1110) (by decide +kernel), List.mem_of_getElem? (i := 1111) (by decide +kernel)⟩
theorem lw_p36 : lw_okq (⟨"ShadowTailorModel", "nearest", "(II)I"⟩, 38) := ⟨⟨by decide +kernel, by decide +kernel⟩, List.mem_of_getElem? (i := 773) (by decide +kernel), List.mem_of_getElem? (i := 1118) (by decide +kernel), List.mem_of_getElem? (i := 1119) (by decide +kernel)⟩
theorem lw_p37 : lw_okq (⟨"ShadowTailorModel", "highAt", "(II)I"⟩, 38) := ⟨⟨by decide +kernel, by decide +kernel⟩, List.mem_of_getElem? (i := 773) (by decide +kernel), List.mem_of_getElem? (i := 1122) (by decide +kernel), List.mem_of_getElem? (i := 1123) (by decide +kernel)⟩
theorem lw_p38 : lw_okq (⟨"ShadowTailorModel", "lowAt", "(II)I"⟩, 38) := ⟨⟨by decide +kernel, by decide +kernel⟩, List.mem_of_getElem? (i := 773) (by decide +kernel), List.mem_of_getElem? (i := 1126) (by decide +kernel), List.mem_of_getElem? (i := 1127) (by decide +kernel)⟩
def lw_privs_3 : List (MethodName × Nat) := [(⟨"ShadowTailorModel", "does", "(IIII)Z"⟩, 38), (⟨"ShadowTailorModel", "alike", "(II)I"⟩, 38), (⟨"ShadowTailorModel", "shares", "(I)Z"⟩, 38), (⟨"ShadowTailorModel", "arranges", "(I)V"⟩, 38), (⟨"ShadowTailorModel", "nearest", "(II)I"⟩, 38), (⟨"ShadowTailorModel", "highAt", "(II)I"⟩, 38), (⟨"ShadowTailorModel", "lowAt", "(II)I"⟩, 38)]
theorem lw_r3 : ∀ q ∈ lw_privs_3, lw_okq q := List.forall_mem_cons.mpr ⟨lw_p32, List.forall_mem_cons.mpr ⟨lw_p33, List.forall_mem_cons.mpr ⟨lw_p34, List.forall_mem_cons.mpr ⟨lw_p35, List.forall_mem_cons.mpr ⟨lw_p36, List.forall_mem_cons.mpr ⟨lw_p37, List.forall_mem_cons.mpr ⟨lw_p38, fun _ h => absurd h List.not_mem_nil⟩⟩⟩⟩⟩⟩⟩
def lw_privs : List (MethodName × Nat) := lw_privs_1 ++ (lw_privs_2 ++ (lw_privs_3))
def lw_tbl : List Cond := k2_sels lw_privs ++ tables_1
theorem lw_privs_ok : ∀ q ∈ lw_privs, lw_okq q := by
  show ∀ q ∈ lw_privs_1 ++ (lw_privs_2 ++ (lw_privs_3)), lw_okq q
  exact List.forall_mem_append.mpr ⟨lw_r1, List.forall_mem_append.mpr ⟨lw_r2, lw_r3⟩⟩
end
section
/-! names out of the printed list: classes, fields, codes, methods -/
/-- words that stay true while the machine runs -/
def ax_kept : Cond → Bool
  | .fieldLinkNest .. => true
  | .methodLinkNest .. => true
  | .arrayOver (.object _) => true
  | w => goodWord w
def ax_tbl : List Cond := lw_tbl.filter ax_kept
def RX0 : String := "ShadowTailor$Changes"
def TX0 : u_T := fun k => match k with
  | 0 => ("ShadowTailor$Changes", "whom", "[I", true)
  | 1 => ("ShadowTailor$Changes", "was", "[I", true)
  | _ => ("ShadowTailor$Changes", "many", "I", false)
def tyX0 : Nat → FieldType := fun k => match k with
  | 0 => .array .int
  | 1 => .array .int
  | _ => .int
abbrev wsX00 : List Cond := u_ws RX0 TX0 3
theorem nmX0 : ∀ a, a < 3 → ∀ b, b < 3 → a ≠ b → (TX0 a).2.1 ≠ (TX0 b).2.1 := by decide +kernel
theorem tyX0_ok : ∀ k, k < 3 → parseFieldDescriptor (TX0 k).2.2.1 = some (tyX0 k) := by decide +kernel
abbrev cX0_init : ByteArray := prog_2_method_1_code
def yX0_init : MethodName := ⟨RX0, "<init>", "()V"⟩
abbrev cX0_add : ByteArray := prog_2_method_2_code
def yX0_add : MethodName := ⟨RX0, "add", "(II)V"⟩
abbrev cX0_dropOldest : ByteArray := prog_2_method_3_code
def yX0_dropOldest : MethodName := ⟨RX0, "dropOldest", "()V"⟩
abbrev cX0_takeBack : ByteArray := prog_2_method_4_code
def yX0_takeBack : MethodName := ⟨RX0, "takeBack", "(LShadowTailor$State;)Z"⟩
def RX1 : String := "ShadowTailor$Cutting"
def TX1 : u_T := fun k => match k with
  | 0 => ("ShadowTailor$Cutting", "lack", "[I", true)
  | 1 => ("ShadowTailor$Cutting", "choice", "[I", true)
  | 2 => ("ShadowTailor$Cutting", "best", "[I", true)
  | 3 => ("ShadowTailor$Cutting", "isKnown", "Z", false)
  | 4 => ("ShadowTailor$Cutting", "isFound", "Z", false)
  | 5 => ("ShadowTailor$Cutting", "leastUsed", "I", false)
  | _ => ("ShadowTailor$Cutting", "leastLength", "I", false)
def tyX1 : Nat → FieldType := fun k => match k with
  | 0 => .array .int
  | 1 => .array .int
  | 2 => .array .int
  | 3 => .boolean
  | 4 => .boolean
  | 5 => .int
  | _ => .int
abbrev wsX10 : List Cond := u_ws RX1 TX1 7
theorem nmX1 : ∀ a, a < 7 → ∀ b, b < 7 → a ≠ b → (TX1 a).2.1 ≠ (TX1 b).2.1 := by decide +kernel
theorem tyX1_ok : ∀ k, k < 7 → parseFieldDescriptor (TX1 k).2.2.1 = some (tyX1 k) := by decide +kernel
abbrev cX1_init : ByteArray := prog_3_method_1_code
def yX1_init : MethodName := ⟨RX1, "<init>", "()V"⟩
abbrev cX1_seek : ByteArray := prog_3_method_2_code
def yX1_seek : MethodName := ⟨RX1, "seek", "(LShadowTailor$Stock;)V"⟩
abbrev cX1_seekFrom : ByteArray := prog_3_method_3_code
def yX1_seekFrom : MethodName := ⟨RX1, "seekFrom", "(LShadowTailor$Stock;III)V"⟩
abbrev cX1_lackingLength : ByteArray := prog_3_method_4_code
def yX1_lackingLength : MethodName := ⟨RX1, "lackingLength", "(LShadowTailor$Stock;)I"⟩
abbrev cX1_take : ByteArray := prog_3_method_5_code
def yX1_take : MethodName := ⟨RX1, "take", "(LShadowTailor$Stock;II)V"⟩
def RX2 : String := "ShadowTailor$Kept"
def TX2 : u_T := fun k => match k with
  | 0 => ("ShadowTailor$Kept", "states", "[LShadowTailor$State;", true)
  | _ => ("ShadowTailor$Kept", "many", "I", false)
def tyX2 : Nat → FieldType := fun k => match k with
  | 0 => .array (.object "ShadowTailor$State")
  | _ => .int
abbrev wsX20 : List Cond := u_ws RX2 TX2 2
theorem nmX2 : ∀ a, a < 2 → ∀ b, b < 2 → a ≠ b → (TX2 a).2.1 ≠ (TX2 b).2.1 := by decide +kernel
theorem tyX2_ok : ∀ k, k < 2 → parseFieldDescriptor (TX2 k).2.2.1 = some (tyX2 k) := by decide +kernel
abbrev cX2_init : ByteArray := prog_4_method_1_code
def yX2_init : MethodName := ⟨RX2, "<init>", "()V"⟩
abbrev cX2_add : ByteArray := prog_4_method_2_code
def yX2_add : MethodName := ⟨RX2, "add", "(LShadowTailor$State;)Z"⟩
abbrev cX2_restore : ByteArray := prog_4_method_3_code
def yX2_restore : MethodName := ⟨RX2, "restore", "(LShadowTailor$State;)Z"⟩
def RX3 : String := "ShadowTailor$Shop"
def TX3 : u_T := fun k => match k with
  | 0 => ("ShadowTailor$Shop", "street", "LShadowTailor$Street;", true)
  | _ => ("ShadowTailor$Shop", "stock", "LShadowTailor$Stock;", true)
def tyX3 : Nat → FieldType := fun k => match k with
  | 0 => .object "ShadowTailor$Street"
  | _ => .object "ShadowTailor$Stock"
abbrev wsX30 : List Cond := u_ws RX3 TX3 2
theorem nmX3 : ∀ a, a < 2 → ∀ b, b < 2 → a ≠ b → (TX3 a).2.1 ≠ (TX3 b).2.1 := by decide +kernel
theorem tyX3_ok : ∀ k, k < 2 → parseFieldDescriptor (TX3 k).2.2.1 = some (tyX3 k) := by decide +kernel
abbrev cX3_init : ByteArray := prog_5_method_1_code
def yX3_init : MethodName := ⟨RX3, "<init>", "()V"⟩
abbrev cX3_clear : ByteArray := prog_5_method_2_code
def yX3_clear : MethodName := ⟨RX3, "clear", "()V"⟩
def RX4 : String := "ShadowTailor$Sightings"
def TX4 : u_T := fun k => match k with
  | 0 => ("ShadowTailor$Sightings", "hour", "[I", true)
  | 1 => ("ShadowTailor$Sightings", "cell", "[I", true)
  | _ => ("ShadowTailor$Sightings", "many", "I", false)
def tyX4 : Nat → FieldType := fun k => match k with
  | 0 => .array .int
  | 1 => .array .int
  | _ => .int
abbrev wsX40 : List Cond := u_ws RX4 TX4 3
theorem nmX4 : ∀ a, a < 3 → ∀ b, b < 3 → a ≠ b → (TX4 a).2.1 ≠ (TX4 b).2.1 := by decide +kernel
theorem tyX4_ok : ∀ k, k < 3 → parseFieldDescriptor (TX4 k).2.2.1 = some (tyX4 k) := by decide +kernel
abbrev cX4_init : ByteArray := prog_6_method_1_code
def yX4_init : MethodName := ⟨RX4, "<init>", "()V"⟩
abbrev cX4_add : ByteArray := prog_6_method_2_code
def yX4_add : MethodName := ⟨RX4, "add", "(II)Z"⟩
abbrev cX4_suspects : ByteArray := prog_6_method_3_code
def yX4_suspects : MethodName := ⟨RX4, "suspects", "(LShadowTailor$Street;)I"⟩
abbrev cX4_fits : ByteArray := prog_6_method_4_code
def yX4_fits : MethodName := ⟨RX4, "fits", "(LShadowTailor$Street;I)Z"⟩
abbrev cX4_mostAlike : ByteArray := prog_6_method_5_code
def yX4_mostAlike : MethodName := ⟨RX4, "mostAlike", "(LShadowTailor$Street;II)I"⟩
def RX5 : String := "ShadowTailor$State"
def TX5 : u_T := fun k => match k with
  | 0 => ("ShadowTailor$State", "taken", "[I", true)
  | 1 => ("ShadowTailor$State", "walker", "[I", true)
  | 2 => ("ShadowTailor$State", "walkHour", "[I", true)
  | 3 => ("ShadowTailor$State", "walkCell", "[I", true)
  | _ => ("ShadowTailor$State", "walks", "I", false)
def tyX5 : Nat → FieldType := fun k => match k with
  | 0 => .array .int
  | 1 => .array .int
  | 2 => .array .int
  | 3 => .array .int
  | _ => .int
abbrev wsX50 : List Cond := u_ws RX5 TX5 5
theorem nmX5 : ∀ a, a < 5 → ∀ b, b < 5 → a ≠ b → (TX5 a).2.1 ≠ (TX5 b).2.1 := by decide +kernel
theorem tyX5_ok : ∀ k, k < 5 → parseFieldDescriptor (TX5 k).2.2.1 = some (tyX5 k) := by decide +kernel
abbrev cX5_init : ByteArray := prog_7_method_1_code
def yX5_init : MethodName := ⟨RX5, "<init>", "()V"⟩
abbrev cX5_addWalk : ByteArray := prog_7_method_2_code
def yX5_addWalk : MethodName := ⟨RX5, "addWalk", "(III)Z"⟩
abbrev cX5_cellAfterWalks : ByteArray := prog_7_method_3_code
def yX5_cellAfterWalks : MethodName := ⟨RX5, "cellAfterWalks", "(III)I"⟩
abbrev cX5_copyFrom : ByteArray := prog_7_method_4_code
def yX5_copyFrom : MethodName := ⟨RX5, "copyFrom", "(LShadowTailor$State;)V"⟩
def RX6 : String := "ShadowTailor$Stock"
def TX6 : u_T := fun k => match k with
  | 0 => ("ShadowTailor$Stock", "remnant", "[I", true)
  | 1 => ("ShadowTailor$Stock", "order", "[I", true)
  | 2 => ("ShadowTailor$Stock", "fittingHours", "[I", true)
  | 3 => ("ShadowTailor$Stock", "fittingDue", "[I", true)
  | 4 => ("ShadowTailor$Stock", "remnants", "I", false)
  | 5 => ("ShadowTailor$Stock", "orders", "I", false)
  | _ => ("ShadowTailor$Stock", "fittings", "I", false)
def tyX6 : Nat → FieldType := fun k => match k with
  | 0 => .array .int
  | 1 => .array .int
  | 2 => .array .int
  | 3 => .array .int
  | 4 => .int
  | 5 => .int
  | _ => .int
abbrev wsX60 : List Cond := u_ws RX6 TX6 7
theorem nmX6 : ∀ a, a < 7 → ∀ b, b < 7 → a ≠ b → (TX6 a).2.1 ≠ (TX6 b).2.1 := by decide +kernel
theorem tyX6_ok : ∀ k, k < 7 → parseFieldDescriptor (TX6 k).2.2.1 = some (tyX6 k) := by decide +kernel
abbrev cX6_init : ByteArray := prog_8_method_1_code
def yX6_init : MethodName := ⟨RX6, "<init>", "()V"⟩
abbrev cX6_clear : ByteArray := prog_8_method_2_code
def yX6_clear : MethodName := ⟨RX6, "clear", "()V"⟩
abbrev cX6_addRemnant : ByteArray := prog_8_method_3_code
def yX6_addRemnant : MethodName := ⟨RX6, "addRemnant", "(I)Z"⟩
abbrev cX6_addOrder : ByteArray := prog_8_method_4_code
def yX6_addOrder : MethodName := ⟨RX6, "addOrder", "(I)Z"⟩
abbrev cX6_addFitting : ByteArray := prog_8_method_5_code
def yX6_addFitting : MethodName := ⟨RX6, "addFitting", "(II)Z"⟩
abbrev cX6_orderedLength : ByteArray := prog_8_method_6_code
def yX6_orderedLength : MethodName := ⟨RX6, "orderedLength", "()I"⟩
abbrev cX6_lengthFrom : ByteArray := prog_8_method_7_code
def yX6_lengthFrom : MethodName := ⟨RX6, "lengthFrom", "(I)I"⟩
def RX7 : String := "ShadowTailor$Street"
def TX7 : u_T := fun k => match k with
  | 0 => ("ShadowTailor$Street", "home", "[I", true)
  | 1 => ("ShadowTailor$Street", "height", "[I", true)
  | 2 => ("ShadowTailor$Street", "kind", "[I", true)
  | 3 => ("ShadowTailor$Street", "state", "LShadowTailor$State;", true)
  | 4 => ("ShadowTailor$Street", "lawFor", "[I", true)
  | 5 => ("ShadowTailor$Street", "lawHour", "[I", true)
  | 6 => ("ShadowTailor$Street", "lawLength", "[I", true)
  | 7 => ("ShadowTailor$Street", "cells", "[I", true)
  | 8 => ("ShadowTailor$Street", "persons", "I", false)
  | _ => ("ShadowTailor$Street", "laws", "I", false)
def tyX7 : Nat → FieldType := fun k => match k with
  | 0 => .array .int
  | 1 => .array .int
  | 2 => .array .int
  | 3 => .object "ShadowTailor$State"
  | 4 => .array .int
  | 5 => .array .int
  | 6 => .array .int
  | 7 => .array .int
  | 8 => .int
  | _ => .int
abbrev wsX70 : List Cond := u_ws RX7 TX7 10
theorem nmX7 : ∀ a, a < 10 → ∀ b, b < 10 → a ≠ b → (TX7 a).2.1 ≠ (TX7 b).2.1 := by decide +kernel
theorem tyX7_ok : ∀ k, k < 10 → parseFieldDescriptor (TX7 k).2.2.1 = some (tyX7 k) := by decide +kernel
abbrev cX7_init : ByteArray := prog_9_method_1_code
def yX7_init : MethodName := ⟨RX7, "<init>", "()V"⟩
abbrev cX7_clear : ByteArray := prog_9_method_2_code
def yX7_clear : MethodName := ⟨RX7, "clear", "()V"⟩
abbrev cX7_hasPerson : ByteArray := prog_9_method_3_code
def yX7_hasPerson : MethodName := ⟨RX7, "hasPerson", "(I)Z"⟩
abbrev cX7_addPerson : ByteArray := prog_9_method_4_code
def yX7_addPerson : MethodName := ⟨RX7, "addPerson", "(IIII)Z"⟩
abbrev cX7_addLaw : ByteArray := prog_9_method_5_code
def yX7_addLaw : MethodName := ⟨RX7, "addLaw", "(III)Z"⟩
abbrev cX7_cellOf : ByteArray := prog_9_method_6_code
def yX7_cellOf : MethodName := ⟨RX7, "cellOf", "(II)I"⟩
abbrev cX7_cellsAt : ByteArray := prog_9_method_7_code
def yX7_cellsAt : MethodName := ⟨RX7, "cellsAt", "(I)[I"⟩
abbrev cX7_drawnCells : ByteArray := prog_9_method_8_code
def yX7_drawnCells : MethodName := ⟨RX7, "drawnCells", "(II)[I"⟩
abbrev cX7_fullLength : ByteArray := prog_9_method_9_code
def yX7_fullLength : MethodName := ⟨RX7, "fullLength", "(II)I"⟩
abbrev cX7_lengthOf : ByteArray := prog_9_method_10_code
def yX7_lengthOf : MethodName := ⟨RX7, "lengthOf", "(II)I"⟩
abbrev cX7_wayOf : ByteArray := prog_9_method_11_code
def yX7_wayOf : MethodName := ⟨RX7, "wayOf", "(II)I"⟩
abbrev cX7_endOf : ByteArray := prog_9_method_12_code
def yX7_endOf : MethodName := ⟨RX7, "endOf", "(II)I"⟩
abbrev cX7_lowEndOf : ByteArray := prog_9_method_13_code
def yX7_lowEndOf : MethodName := ⟨RX7, "lowEndOf", "(II)I"⟩
abbrev cX7_highEndOf : ByteArray := prog_9_method_14_code
def yX7_highEndOf : MethodName := ⟨RX7, "highEndOf", "(II)I"⟩
abbrev cX7_coverersOf : ByteArray := prog_9_method_15_code
def yX7_coverersOf : MethodName := ⟨RX7, "coverersOf", "(II)I"⟩
abbrev cX7_standersOn : ByteArray := prog_9_method_16_code
def yX7_standersOn : MethodName := ⟨RX7, "standersOn", "(II[I)I"⟩
abbrev cX7_firstBroken : ByteArray := prog_9_method_17_code
def yX7_firstBroken : MethodName := ⟨RX7, "firstBroken", "()I"⟩
abbrev cX7_neededByLaws : ByteArray := prog_9_method_18_code
def yX7_neededByLaws : MethodName := ⟨RX7, "neededByLaws", "(I)I"⟩
abbrev cX7_neededByStanders : ByteArray := prog_9_method_19_code
def yX7_neededByStanders : MethodName := ⟨RX7, "neededByStanders", "(III)I"⟩
abbrev cX7_nextWatcher : ByteArray := prog_9_method_20_code
def yX7_nextWatcher : MethodName := ⟨RX7, "nextWatcher", "(II)I"⟩
def RX8 : String := "ShadowTailor$Text"
def TX8 : u_T := fun k => match k with
  | 0 => ("ShadowTailor$Text", "signs", "[C", true)
  | _ => ("ShadowTailor$Text", "length", "I", false)
def tyX8 : Nat → FieldType := fun k => match k with
  | 0 => .array .char
  | _ => .int
abbrev wsX80 : List Cond := u_ws RX8 TX8 2
theorem nmX8 : ∀ a, a < 2 → ∀ b, b < 2 → a ≠ b → (TX8 a).2.1 ≠ (TX8 b).2.1 := by decide +kernel
theorem tyX8_ok : ∀ k, k < 2 → parseFieldDescriptor (TX8 k).2.2.1 = some (tyX8 k) := by decide +kernel
abbrev cX8_init : ByteArray := prog_10_method_1_code
def yX8_init : MethodName := ⟨RX8, "<init>", "()V"⟩
abbrev cX8_add : ByteArray := prog_10_method_2_code
def yX8_add : MethodName := ⟨RX8, "add", "(C)Z"⟩
abbrev cX8_put : ByteArray := prog_10_method_3_code
def yX8_put : MethodName := ⟨RX8, "put", "(Ljava/lang/String;)V"⟩
abbrev cX8_signAt : ByteArray := prog_10_method_4_code
def yX8_signAt : MethodName := ⟨RX8, "signAt", "(I)C"⟩
def RX9 : String := "ShadowTailor$TextReader"
def TX9 : u_T := fun k => match k with
  | _ => ("ShadowTailor$TextReader", "numbers", "[I", true)
def tyX9 : Nat → FieldType := fun k => match k with
  | _ => .array .int
abbrev wsX90 : List Cond := u_ws RX9 TX9 1
theorem nmX9 : ∀ a, a < 1 → ∀ b, b < 1 → a ≠ b → (TX9 a).2.1 ≠ (TX9 b).2.1 := by decide +kernel
theorem tyX9_ok : ∀ k, k < 1 → parseFieldDescriptor (TX9 k).2.2.1 = some (tyX9 k) := by decide +kernel
abbrev cX9_init : ByteArray := prog_11_method_1_code
def yX9_init : MethodName := ⟨RX9, "<init>", "()V"⟩
abbrev cX9_readInto : ByteArray := prog_11_method_2_code
def yX9_readInto : MethodName := ⟨RX9, "readInto", "(LShadowTailor$Text;LShadowTailor$Shop;)I"⟩
abbrev cX9_numbersOf : ByteArray := prog_11_method_3_code
def yX9_numbersOf : MethodName := ⟨RX9, "numbersOf", "(C)I"⟩
abbrev cX9_readNumbers : ByteArray := prog_11_method_4_code
def yX9_readNumbers : MethodName := ⟨RX9, "readNumbers", "(LShadowTailor$Text;II)I"⟩
abbrev cX9_figureAt : ByteArray := prog_11_method_5_code
def yX9_figureAt : MethodName := ⟨RX9, "figureAt", "(LShadowTailor$Text;I)I"⟩
abbrev cX9_addItem : ByteArray := prog_11_method_6_code
def yX9_addItem : MethodName := ⟨RX9, "addItem", "(LShadowTailor$Shop;C)Z"⟩
def RX10 : String := "ShadowTailor$Timetable"
def TX10 : u_T := fun k => match k with
  | 0 => ("ShadowTailor$Timetable", "choice", "[I", true)
  | 1 => ("ShadowTailor$Timetable", "best", "[I", true)
  | 2 => ("ShadowTailor$Timetable", "isKnown", "Z", false)
  | 3 => ("ShadowTailor$Timetable", "isFound", "Z", false)
  | 4 => ("ShadowTailor$Timetable", "leastLate", "I", false)
  | _ => ("ShadowTailor$Timetable", "leastHours", "I", false)
def tyX10 : Nat → FieldType := fun k => match k with
  | 0 => .array .int
  | 1 => .array .int
  | 2 => .boolean
  | 3 => .boolean
  | 4 => .int
  | _ => .int
abbrev wsX100 : List Cond := u_ws RX10 TX10 6
theorem nmX10 : ∀ a, a < 6 → ∀ b, b < 6 → a ≠ b → (TX10 a).2.1 ≠ (TX10 b).2.1 := by decide +kernel
theorem tyX10_ok : ∀ k, k < 6 → parseFieldDescriptor (TX10 k).2.2.1 = some (tyX10 k) := by decide +kernel
abbrev cX10_init : ByteArray := prog_12_method_1_code
def yX10_init : MethodName := ⟨RX10, "<init>", "()V"⟩
abbrev cX10_seek : ByteArray := prog_12_method_2_code
def yX10_seek : MethodName := ⟨RX10, "seek", "(LShadowTailor$Stock;)V"⟩
abbrev cX10_seekFrom : ByteArray := prog_12_method_3_code
def yX10_seekFrom : MethodName := ⟨RX10, "seekFrom", "(LShadowTailor$Stock;IIIII)V"⟩
abbrev cX10_take : ByteArray := prog_12_method_4_code
def yX10_take : MethodName := ⟨RX10, "take", "(LShadowTailor$Stock;II)V"⟩
def RX11 : String := "ShadowTailor"
def TX11 : u_T := fun k => match k with
  | 0 => ("ShadowTailor", "text", "LShadowTailor$Text;", true)
  | 1 => ("ShadowTailor", "reader", "LShadowTailor$TextReader;", true)
  | 2 => ("ShadowTailor", "changes", "LShadowTailor$Changes;", true)
  | 3 => ("ShadowTailor", "kept", "LShadowTailor$Kept;", true)
  | 4 => ("ShadowTailor", "sightings", "LShadowTailor$Sightings;", true)
  | 5 => ("ShadowTailor", "cutting", "LShadowTailor$Cutting;", true)
  | 6 => ("ShadowTailor", "timetable", "LShadowTailor$Timetable;", true)
  | 7 => ("ShadowTailor", "shop", "LShadowTailor$Shop;", false)
  | _ => ("ShadowTailor", "draft", "LShadowTailor$Shop;", false)
def tyX11 : Nat → FieldType := fun k => match k with
  | 0 => .object "ShadowTailor$Text"
  | 1 => .object "ShadowTailor$TextReader"
  | 2 => .object "ShadowTailor$Changes"
  | 3 => .object "ShadowTailor$Kept"
  | 4 => .object "ShadowTailor$Sightings"
  | 5 => .object "ShadowTailor$Cutting"
  | 6 => .object "ShadowTailor$Timetable"
  | 7 => .object "ShadowTailor$Shop"
  | _ => .object "ShadowTailor$Shop"
abbrev wsX110 : List Cond := u_ws RX11 TX11 9
theorem nmX11 : ∀ a, a < 9 → ∀ b, b < 9 → a ≠ b → (TX11 a).2.1 ≠ (TX11 b).2.1 := by decide +kernel
theorem tyX11_ok : ∀ k, k < 9 → parseFieldDescriptor (TX11 k).2.2.1 = some (tyX11 k) := by decide +kernel
abbrev cX11_init : ByteArray := prog_1_method_1_code
def yX11_init : MethodName := ⟨RX11, "<init>", "()V"⟩
abbrev cX11_write : ByteArray := prog_1_method_2_code
def yX11_write : MethodName := ⟨RX11, "write", "(I)I"⟩
abbrev cX11_wipe : ByteArray := prog_1_method_3_code
def yX11_wipe : MethodName := ⟨RX11, "wipe", "()I"⟩
abbrev cX11_fault : ByteArray := prog_1_method_4_code
def yX11_fault : MethodName := ⟨RX11, "fault", "()I"⟩
abbrev cX11_lay : ByteArray := prog_1_method_5_code
def yX11_lay : MethodName := ⟨RX11, "lay", "()I"⟩
abbrev cX11_person : ByteArray := prog_1_method_6_code
def yX11_person : MethodName := ⟨RX11, "person", "(II)I"⟩
abbrev cX11_where : ByteArray := prog_1_method_7_code
def yX11_where : MethodName := ⟨RX11, "where", "(II)I"⟩
abbrev cX11_shadow : ByteArray := prog_1_method_8_code
def yX11_shadow : MethodName := ⟨RX11, "shadow", "(III)I"⟩
abbrev cX11_covers : ByteArray := prog_1_method_9_code
def yX11_covers : MethodName := ⟨RX11, "covers", "(II)I"⟩
abbrev cX11_stands : ByteArray := prog_1_method_10_code
def yX11_stands : MethodName := ⟨RX11, "stands", "(II)I"⟩
abbrev cX11_wear : ByteArray := prog_1_method_11_code
def yX11_wear : MethodName := ⟨RX11, "wear", "(II)I"⟩
abbrev cX11_alter : ByteArray := prog_1_method_12_code
def yX11_alter : MethodName := ⟨RX11, "alter", "(II)I"⟩
abbrev cX11_walk : ByteArray := prog_1_method_13_code
def yX11_walk : MethodName := ⟨RX11, "walk", "(III)I"⟩
abbrev cX11_undo : ByteArray := prog_1_method_14_code
def yX11_undo : MethodName := ⟨RX11, "undo", "()I"⟩
abbrev cX11_first : ByteArray := prog_1_method_15_code
def yX11_first : MethodName := ⟨RX11, "first", "(I)I"⟩
abbrev cX11_broken : ByteArray := prog_1_method_16_code
def yX11_broken : MethodName := ⟨RX11, "broken", "()I"⟩
abbrev cX11_taken : ByteArray := prog_1_method_17_code
def yX11_taken : MethodName := ⟨RX11, "taken", "(III)I"⟩
abbrev cX11_seen : ByteArray := prog_1_method_18_code
def yX11_seen : MethodName := ⟨RX11, "seen", "(II)I"⟩
abbrev cX11_forget : ByteArray := prog_1_method_19_code
def yX11_forget : MethodName := ⟨RX11, "forget", "()I"⟩
abbrev cX11_whose : ByteArray := prog_1_method_20_code
def yX11_whose : MethodName := ⟨RX11, "whose", "()I"⟩
abbrev cX11_look : ByteArray := prog_1_method_21_code
def yX11_look : MethodName := ⟨RX11, "look", "(I)I"⟩
abbrev cX11_cut : ByteArray := prog_1_method_22_code
def yX11_cut : MethodName := ⟨RX11, "cut", "(I)I"⟩
abbrev cX11_fittings : ByteArray := prog_1_method_23_code
def yX11_fittings : MethodName := ⟨RX11, "fittings", "(I)I"⟩
abbrev cX11_watchers : ByteArray := prog_1_method_24_code
def yX11_watchers : MethodName := ⟨RX11, "watchers", "(II)I"⟩
abbrev cX11_poplar : ByteArray := prog_1_method_25_code
def yX11_poplar : MethodName := ⟨RX11, "poplar", "(II)I"⟩
abbrev cX11_light : ByteArray := prog_1_method_26_code
def yX11_light : MethodName := ⟨RX11, "light", "(I)I"⟩
abbrev cX11_clouds : ByteArray := prog_1_method_27_code
def yX11_clouds : MethodName := ⟨RX11, "clouds", "(IIIII)J"⟩
abbrev cX11_day : ByteArray := prog_1_method_28_code
def yX11_day : MethodName := ⟨RX11, "day", "(II)I"⟩
abbrev cX11_keep : ByteArray := prog_1_method_29_code
def yX11_keep : MethodName := ⟨RX11, "keep", "()I"⟩
abbrev cX11_back : ByteArray := prog_1_method_30_code
def yX11_back : MethodName := ⟨RX11, "back", "()I"⟩
abbrev cX11_count : ByteArray := prog_1_method_31_code
def yX11_count : MethodName := ⟨RX11, "count", "(I)I"⟩
abbrev cX11_isPerson : ByteArray := prog_1_method_32_code
def yX11_isPerson : MethodName := ⟨RX11, "isPerson", "(I)Z"⟩
abbrev cX11_standersAt : ByteArray := prog_1_method_33_code
def yX11_standersAt : MethodName := ⟨RX11, "standersAt", "(II)I"⟩
abbrev cX11_isHour : ByteArray := prog_1_method_34_code
def yX11_isHour : MethodName := ⟨RX11, "isHour", "(I)Z"⟩
abbrev cX11_areHours : ByteArray := prog_1_method_35_code
def yX11_areHours : MethodName := ⟨RX11, "areHours", "(II)Z"⟩
abbrev cX11_isCell : ByteArray := prog_1_method_36_code
def yX11_isCell : MethodName := ⟨RX11, "isCell", "(I)Z"⟩
abbrev cX11_isWithin : ByteArray := prog_1_method_37_code
def yX11_isWithin : MethodName := ⟨RX11, "isWithin", "(III)Z"⟩
abbrev cX11_commonDivisor : ByteArray := prog_1_method_38_code
def yX11_commonDivisor : MethodName := ⟨RX11, "commonDivisor", "(II)I"⟩
def RX12 : String := "ShadowTailorModel"
def TX12 : u_T := fun k => match k with
  | 0 => ("ShadowTailorModel", "persons", "I", false)
  | 1 => ("ShadowTailorModel", "person", "[I", true)
  | 2 => ("ShadowTailorModel", "laws", "I", false)
  | 3 => ("ShadowTailorModel", "law", "[I", true)
  | 4 => ("ShadowTailorModel", "remnants", "I", false)
  | 5 => ("ShadowTailorModel", "remnant", "[I", true)
  | 6 => ("ShadowTailorModel", "orders", "I", false)
  | 7 => ("ShadowTailorModel", "order", "[I", true)
  | 8 => ("ShadowTailorModel", "fittings", "I", false)
  | 9 => ("ShadowTailorModel", "fitting", "[I", true)
  | 10 => ("ShadowTailorModel", "st", "[I", true)
  | 11 => ("ShadowTailorModel", "acts", "I", false)
  | 12 => ("ShadowTailorModel", "was", "[I", true)
  | 13 => ("ShadowTailorModel", "keeps", "I", false)
  | 14 => ("ShadowTailorModel", "kept", "[I", true)
  | 15 => ("ShadowTailorModel", "seens", "I", false)
  | 16 => ("ShadowTailorModel", "seen", "[I", true)
  | 17 => ("ShadowTailorModel", "text", "[I", true)
  | 18 => ("ShadowTailorModel", "texted", "I", false)
  | 19 => ("ShadowTailorModel", "at", "I", false)
  | 20 => ("ShadowTailorModel", "told", "[I", true)
  | 21 => ("ShadowTailorModel", "readPersons", "I", false)
  | 22 => ("ShadowTailorModel", "readPerson", "[I", true)
  | 23 => ("ShadowTailorModel", "readLaws", "I", false)
  | 24 => ("ShadowTailorModel", "readLaw", "[I", true)
  | 25 => ("ShadowTailorModel", "readRemnants", "I", false)
  | 26 => ("ShadowTailorModel", "readRemnant", "[I", true)
  | 27 => ("ShadowTailorModel", "readOrders", "I", false)
  | 28 => ("ShadowTailorModel", "readOrder", "[I", true)
  | 29 => ("ShadowTailorModel", "readFittings", "I", false)
  | 30 => ("ShadowTailorModel", "readFitting", "[I", true)
  | 31 => ("ShadowTailorModel", "readSt", "[I", true)
  | 32 => ("ShadowTailorModel", "goes", "[I", true)
  | 33 => ("ShadowTailorModel", "seams", "I", false)
  | 34 => ("ShadowTailorModel", "waste", "I", false)
  | 35 => ("ShadowTailorModel", "row", "[I", true)
  | 36 => ("ShadowTailorModel", "late", "I", false)
  | _ => ("ShadowTailorModel", "hours", "I", false)
def tyX12 : Nat → FieldType := fun k => match k with
  | 0 => .int
  | 1 => .array .int
  | 2 => .int
  | 3 => .array .int
  | 4 => .int
  | 5 => .array .int
  | 6 => .int
  | 7 => .array .int
  | 8 => .int
  | 9 => .array .int
  | 10 => .array .int
  | 11 => .int
  | 12 => .array .int
  | 13 => .int
  | 14 => .array .int
  | 15 => .int
  | 16 => .array .int
  | 17 => .array .int
  | 18 => .int
  | 19 => .int
  | 20 => .array .int
  | 21 => .int
  | 22 => .array .int
  | 23 => .int
  | 24 => .array .int
  | 25 => .int
  | 26 => .array .int
  | 27 => .int
  | 28 => .array .int
  | 29 => .int
  | 30 => .array .int
  | 31 => .array .int
  | 32 => .array .int
  | 33 => .int
  | 34 => .int
  | 35 => .array .int
  | 36 => .int
  | _ => .int
abbrev wsX120 : List Cond := u_ws RX12 TX12 38
theorem nmX12 : ∀ a, a < 38 → ∀ b, b < 38 → a ≠ b → (TX12 a).2.1 ≠ (TX12 b).2.1 := by decide +kernel
theorem tyX12_ok : ∀ k, k < 38 → parseFieldDescriptor (TX12 k).2.2.1 = some (tyX12 k) := by decide +kernel
abbrev cX12_init : ByteArray := prog_14_method_1_code
def yX12_init : MethodName := ⟨RX12, "<init>", "()V"⟩
abbrev cX12_lays : ByteArray := prog_14_method_3_code
def yX12_lays : MethodName := ⟨RX12, "lays", "([IIIII)V"⟩
abbrev cX12_in : ByteArray := prog_14_method_4_code
def yX12_in : MethodName := ⟨RX12, "in", "(III)Z"⟩
abbrev cX12_has : ByteArray := prog_14_method_5_code
def yX12_has : MethodName := ⟨RX12, "has", "(II)Z"⟩
abbrev cX12_bits : ByteArray := prog_14_method_6_code
def yX12_bits : MethodName := ⟨RX12, "bits", "(I)I"⟩
abbrev cX12_isPerson : ByteArray := prog_14_method_7_code
def yX12_isPerson : MethodName := ⟨RX12, "isPerson", "(I)Z"⟩
abbrev cX12_isHour : ByteArray := prog_14_method_8_code
def yX12_isHour : MethodName := ⟨RX12, "isHour", "(I)Z"⟩
abbrev cX12_write : ByteArray := prog_14_method_9_code
def yX12_write : MethodName := ⟨RX12, "write", "(I)I"⟩
abbrev cX12_wipe : ByteArray := prog_14_method_10_code
def yX12_wipe : MethodName := ⟨RX12, "wipe", "()I"⟩
abbrev cX12_letterAt : ByteArray := prog_14_method_11_code
def yX12_letterAt : MethodName := ⟨RX12, "letterAt", "(I)I"⟩
abbrev cX12_isFigure : ByteArray := prog_14_method_12_code
def yX12_isFigure : MethodName := ⟨RX12, "isFigure", "(I)Z"⟩
abbrev cX12_readNumbers : ByteArray := prog_14_method_13_code
def yX12_readNumbers : MethodName := ⟨RX12, "readNumbers", "(I)Z"⟩
abbrev cX12_isTold : ByteArray := prog_14_method_14_code
def yX12_isTold : MethodName := ⟨RX12, "isTold", "(III)Z"⟩
abbrev cX12_put : ByteArray := prog_14_method_15_code
def yX12_put : MethodName := ⟨RX12, "put", "([II[II)V"⟩
abbrev cX12_readPersonOf : ByteArray := prog_14_method_16_code
def yX12_readPersonOf : MethodName := ⟨RX12, "readPersonOf", "()Z"⟩
abbrev cX12_isHourOfOne : ByteArray := prog_14_method_17_code
def yX12_isHourOfOne : MethodName := ⟨RX12, "isHourOfOne", "()Z"⟩
abbrev cX12_readWalk : ByteArray := prog_14_method_18_code
def yX12_readWalk : MethodName := ⟨RX12, "readWalk", "()Z"⟩
abbrev cX12_readLawOf : ByteArray := prog_14_method_19_code
def yX12_readLawOf : MethodName := ⟨RX12, "readLawOf", "()Z"⟩
abbrev cX12_readRemnantOf : ByteArray := prog_14_method_20_code
def yX12_readRemnantOf : MethodName := ⟨RX12, "readRemnantOf", "()Z"⟩
abbrev cX12_readOrderOf : ByteArray := prog_14_method_21_code
def yX12_readOrderOf : MethodName := ⟨RX12, "readOrderOf", "()Z"⟩
abbrev cX12_readFittingOf : ByteArray := prog_14_method_22_code
def yX12_readFittingOf : MethodName := ⟨RX12, "readFittingOf", "()Z"⟩
abbrev cX12_readItem : ByteArray := prog_14_method_23_code
def yX12_readItem : MethodName := ⟨RX12, "readItem", "()Z"⟩
abbrev cX12_fault : ByteArray := prog_14_method_24_code
def yX12_fault : MethodName := ⟨RX12, "fault", "()I"⟩
abbrev cX12_lay : ByteArray := prog_14_method_25_code
def yX12_lay : MethodName := ⟨RX12, "lay", "()I"⟩
abbrev cX12_whereAt : ByteArray := prog_14_method_26_code
def yX12_whereAt : MethodName := ⟨RX12, "whereAt", "(II)I"⟩
abbrev cX12_fromNoon : ByteArray := prog_14_method_27_code
def yX12_fromNoon : MethodName := ⟨RX12, "fromNoon", "(I)I"⟩
abbrev cX12_longBy : ByteArray := prog_14_method_28_code
def yX12_longBy : MethodName := ⟨RX12, "longBy", "(III)I"⟩
abbrev cX12_longAt : ByteArray := prog_14_method_29_code
def yX12_longAt : MethodName := ⟨RX12, "longAt", "(II)I"⟩
abbrev cX12_wayAt : ByteArray := prog_14_method_30_code
def yX12_wayAt : MethodName := ⟨RX12, "wayAt", "(II)I"⟩
abbrev cX12_endAt : ByteArray := prog_14_method_31_code
def yX12_endAt : MethodName := ⟨RX12, "endAt", "(II)I"⟩
abbrev cX12_reaches : ByteArray := prog_14_method_32_code
def yX12_reaches : MethodName := ⟨RX12, "reaches", "(IIII)Z"⟩
abbrev cX12_person : ByteArray := prog_14_method_33_code
def yX12_person : MethodName := ⟨RX12, "person", "(II)I"⟩
abbrev cX12_where : ByteArray := prog_14_method_34_code
def yX12_where : MethodName := ⟨RX12, "where", "(II)I"⟩
abbrev cX12_shadow : ByteArray := prog_14_method_35_code
def yX12_shadow : MethodName := ⟨RX12, "shadow", "(III)I"⟩
abbrev cX12_covers : ByteArray := prog_14_method_36_code
def yX12_covers : MethodName := ⟨RX12, "covers", "(II)I"⟩
abbrev cX12_standOn : ByteArray := prog_14_method_37_code
def yX12_standOn : MethodName := ⟨RX12, "standOn", "(III)I"⟩
abbrev cX12_standsAt : ByteArray := prog_14_method_38_code
def yX12_standsAt : MethodName := ⟨RX12, "standsAt", "(II)I"⟩
abbrev cX12_stands : ByteArray := prog_14_method_39_code
def yX12_stands : MethodName := ⟨RX12, "stands", "(II)I"⟩
abbrev cX12_wear : ByteArray := prog_14_method_40_code
def yX12_wear : MethodName := ⟨RX12, "wear", "(II)I"⟩
abbrev cX12_remembers : ByteArray := prog_14_method_41_code
def yX12_remembers : MethodName := ⟨RX12, "remembers", "()V"⟩
abbrev cX12_alter : ByteArray := prog_14_method_42_code
def yX12_alter : MethodName := ⟨RX12, "alter", "(II)I"⟩
abbrev cX12_walk : ByteArray := prog_14_method_43_code
def yX12_walk : MethodName := ⟨RX12, "walk", "(III)I"⟩
abbrev cX12_undo : ByteArray := prog_14_method_44_code
def yX12_undo : MethodName := ⟨RX12, "undo", "()I"⟩
abbrev cX12_first : ByteArray := prog_14_method_45_code
def yX12_first : MethodName := ⟨RX12, "first", "(I)I"⟩
abbrev cX12_lowest : ByteArray := prog_14_method_46_code
def yX12_lowest : MethodName := ⟨RX12, "lowest", "(I)I"⟩
abbrev cX12_broken : ByteArray := prog_14_method_47_code
def yX12_broken : MethodName := ⟨RX12, "broken", "()I"⟩
abbrev cX12_does : ByteArray := prog_14_method_48_code
def yX12_does : MethodName := ⟨RX12, "does", "(IIII)Z"⟩
abbrev cX12_taken : ByteArray := prog_14_method_49_code
def yX12_taken : MethodName := ⟨RX12, "taken", "(III)I"⟩
abbrev cX12_seen : ByteArray := prog_14_method_50_code
def yX12_seen : MethodName := ⟨RX12, "seen", "(II)I"⟩
abbrev cX12_forget : ByteArray := prog_14_method_51_code
def yX12_forget : MethodName := ⟨RX12, "forget", "()I"⟩
abbrev cX12_whose : ByteArray := prog_14_method_52_code
def yX12_whose : MethodName := ⟨RX12, "whose", "()I"⟩
abbrev cX12_alike : ByteArray := prog_14_method_53_code
def yX12_alike : MethodName := ⟨RX12, "alike", "(II)I"⟩
abbrev cX12_look : ByteArray := prog_14_method_54_code
def yX12_look : MethodName := ⟨RX12, "look", "(I)I"⟩
abbrev cX12_shares : ByteArray := prog_14_method_55_code
def yX12_shares : MethodName := ⟨RX12, "shares", "(I)Z"⟩
abbrev cX12_cut : ByteArray := prog_14_method_56_code
def yX12_cut : MethodName := ⟨RX12, "cut", "(I)I"⟩
abbrev cX12_arranges : ByteArray := prog_14_method_57_code
def yX12_arranges : MethodName := ⟨RX12, "arranges", "(I)V"⟩
abbrev cX12_fittings : ByteArray := prog_14_method_58_code
def yX12_fittings : MethodName := ⟨RX12, "fittings", "(I)I"⟩
abbrev cX12_most : ByteArray := prog_14_method_59_code
def yX12_most : MethodName := ⟨RX12, "most", "(II)I"⟩
abbrev cX12_lowAt : ByteArray := prog_14_method_60_code
def yX12_lowAt : MethodName := ⟨RX12, "lowAt", "(II)I"⟩
abbrev cX12_highAt : ByteArray := prog_14_method_61_code
def yX12_highAt : MethodName := ⟨RX12, "highAt", "(II)I"⟩
abbrev cX12_nearest : ByteArray := prog_14_method_62_code
def yX12_nearest : MethodName := ⟨RX12, "nearest", "(II)I"⟩
abbrev cX12_watchers : ByteArray := prog_14_method_63_code
def yX12_watchers : MethodName := ⟨RX12, "watchers", "(II)I"⟩
abbrev cX12_poplar : ByteArray := prog_14_method_64_code
def yX12_poplar : MethodName := ⟨RX12, "poplar", "(II)I"⟩
abbrev cX12_light : ByteArray := prog_14_method_65_code
def yX12_light : MethodName := ⟨RX12, "light", "(I)I"⟩
abbrev cX12_clouds : ByteArray := prog_14_method_66_code
def yX12_clouds : MethodName := ⟨RX12, "clouds", "(IIIII)J"⟩
abbrev cX12_drawn : ByteArray := prog_14_method_67_code
def yX12_drawn : MethodName := ⟨RX12, "drawn", "(III)I"⟩
abbrev cX12_day : ByteArray := prog_14_method_68_code
def yX12_day : MethodName := ⟨RX12, "day", "(II)I"⟩
abbrev cX12_keep : ByteArray := prog_14_method_69_code
def yX12_keep : MethodName := ⟨RX12, "keep", "()I"⟩
abbrev cX12_back : ByteArray := prog_14_method_70_code
def yX12_back : MethodName := ⟨RX12, "back", "()I"⟩
abbrev cX12_count : ByteArray := prog_14_method_71_code
def yX12_count : MethodName := ⟨RX12, "count", "(I)I"⟩
def RJ6 : String := "java/lang/Integer"
def TJ6 : u_T := fun k => match k with
  | _ => ("", "", "", false)
def tyJ6 : Nat → FieldType := fun k => match k with
  | _ => .int
abbrev wsJ60 : List Cond := u_ws RJ6 TJ6 0
abbrev cJ6_numberOfTrailingZeros_0f7a4 : ByteArray := prog_15_method_48_code
def yJ6_numberOfTrailingZeros_0f7a4 : MethodName := ⟨RJ6, "numberOfTrailingZeros", "(I)I"⟩
abbrev cJ6_bitCount_0f7a4 : ByteArray := prog_15_method_49_code
def yJ6_bitCount_0f7a4 : MethodName := ⟨RJ6, "bitCount", "(I)I"⟩
def RJ9 : String := "java/lang/Math"
def TJ9 : u_T := fun k => match k with
  | _ => ("", "", "", false)
def tyJ9 : Nat → FieldType := fun k => match k with
  | _ => .int
abbrev wsJ90 : List Cond := u_ws RJ9 TJ9 0
abbrev cJ9_abs_0f7a4 : ByteArray := prog_16_method_59_code
def yJ9_abs_0f7a4 : MethodName := ⟨RJ9, "abs", "(I)I"⟩
abbrev cJ9_max_7cf53 : ByteArray := prog_16_method_65_code
def yJ9_max_7cf53 : MethodName := ⟨RJ9, "max", "(II)I"⟩
abbrev cJ9_min_7cf53 : ByteArray := prog_16_method_69_code
def yJ9_min_7cf53 : MethodName := ⟨RJ9, "min", "(II)I"⟩
def RJ0 : String := "java/lang/String"
def TJ0 : u_T := fun k => match k with
  | _ => ("", "", "", false)
def tyJ0 : Nat → FieldType := fun k => match k with
  | _ => .int
abbrev wsJ00 : List Cond := u_ws RJ0 TJ0 0
abbrev cJ0_length_8abf5 : ByteArray := prog_17_method_54_code
def yJ0_length_8abf5 : MethodName := ⟨RJ0, "length", "()I"⟩
abbrev cJ0_charAt_5068e : ByteArray := prog_17_method_56_code
def yJ0_charAt_5068e : MethodName := ⟨RJ0, "charAt", "(I)C"⟩
abbrev cJ0_coder_7d493 : ByteArray := prog_17_method_152_code
def yJ0_coder_7d493 : MethodName := ⟨RJ0, "coder", "()B"⟩
abbrev cJ0_isLatin1_aae02 : ByteArray := prog_17_method_154_code
def yJ0_isLatin1_aae02 : MethodName := ⟨RJ0, "isLatin1", "()Z"⟩
abbrev cJ0_checkIndex_df160 : ByteArray := prog_17_method_155_code
def yJ0_checkIndex_df160 : MethodName := ⟨RJ0, "checkIndex", "(II)V"⟩
def RJ1 : String := "java/lang/StringLatin1"
def TJ1 : u_T := fun k => match k with
  | _ => ("", "", "", false)
def tyJ1 : Nat → FieldType := fun k => match k with
  | _ => .int
abbrev wsJ10 : List Cond := u_ws RJ1 TJ1 0
abbrev cJ1_charAt_3b067 : ByteArray := prog_18_method_2_code
def yJ1_charAt_3b067 : MethodName := ⟨RJ1, "charAt", "([BI)C"⟩
def RJ2 : String := "java/lang/StringUTF16"
def TJ2 : u_T := fun k => match k with
  | _ => ("", "", "", false)
def tyJ2 : Nat → FieldType := fun k => match k with
  | _ => .int
abbrev wsJ20 : List Cond := u_ws RJ2 TJ2 0
abbrev cJ2_getChar_3b067 : ByteArray := prog_19_method_5_code
def yJ2_getChar_3b067 : MethodName := ⟨RJ2, "getChar", "([BI)C"⟩
abbrev cJ2_length_9d52b : ByteArray := prog_19_method_6_code
def yJ2_length_9d52b : MethodName := ⟨RJ2, "length", "([B)I"⟩
abbrev cJ2_charAt_3b067 : ByteArray := prog_19_method_83_code
def yJ2_charAt_3b067 : MethodName := ⟨RJ2, "charAt", "([BI)C"⟩
abbrev cJ2_checkIndex_2214a : ByteArray := prog_19_method_91_code
def yJ2_checkIndex_2214a : MethodName := ⟨RJ2, "checkIndex", "(I[B)V"⟩
def RJ10 : String := "java/lang/System"
def TJ10 : u_T := fun k => match k with
  | _ => ("", "", "", false)
def tyJ10 : Nat → FieldType := fun k => match k with
  | _ => .int
abbrev wsJ100 : List Cond := u_ws RJ10 TJ10 0
def RJ3 : String := "jdk/internal/util/Preconditions"
def TJ3 : u_T := fun k => match k with
  | _ => ("", "", "", false)
def tyJ3 : Nat → FieldType := fun k => match k with
  | _ => .int
abbrev wsJ30 : List Cond := u_ws RJ3 TJ3 0
abbrev cJ3_checkIndex_8e157 : ByteArray := prog_21_method_11_code
def yJ3_checkIndex_8e157 : MethodName := ⟨RJ3, "checkIndex", "(IILjava/util/function/BiFunction;)I"⟩
def RL : String := "ShadowTailorLaw"
abbrev cL_law : ByteArray := code
def yL_law : MethodName := ⟨RL, "law", "([I)Z"⟩
abbrev vwCl : List vw_C := [(RX0, TX0, 3), (RX1, TX1, 7), (RX2, TX2, 2), (RX3, TX3, 2), (RX4, TX4, 3), (RX5, TX5, 5), (RX6, TX6, 7), (RX7, TX7, 10), (RX8, TX8, 2), (RX9, TX9, 1), (RX10, TX10, 6), (RX11, TX11, 9), (RX12, TX12, 38)]
theorem inX0 : ∀ w ∈ wsX00, w ∈ ax_tbl := by decide +kernel
theorem inX1 : ∀ w ∈ wsX10, w ∈ ax_tbl := by decide +kernel
theorem inX2 : ∀ w ∈ wsX20, w ∈ ax_tbl := by decide +kernel
theorem inX3 : ∀ w ∈ wsX30, w ∈ ax_tbl := by decide +kernel
theorem inX4 : ∀ w ∈ wsX40, w ∈ ax_tbl := by decide +kernel
theorem inX5 : ∀ w ∈ wsX50, w ∈ ax_tbl := by decide +kernel
theorem inX6 : ∀ w ∈ wsX60, w ∈ ax_tbl := by decide +kernel
theorem inX7 : ∀ w ∈ wsX70, w ∈ ax_tbl := by decide +kernel
theorem inX8 : ∀ w ∈ wsX80, w ∈ ax_tbl := by decide +kernel
theorem inX9 : ∀ w ∈ wsX90, w ∈ ax_tbl := by decide +kernel
theorem inX10 : ∀ w ∈ wsX100, w ∈ ax_tbl := by decide +kernel
theorem inX11 : ∀ w ∈ wsX110, w ∈ ax_tbl := by decide +kernel
theorem inX12 : ∀ w ∈ wsX120, w ∈ ax_tbl := by decide +kernel
end
section
/-! THE ABSTRACT MACHINE: a state is (pc, locals, stack, (shape, ints, refs)); a reference is the number of its cell; .retAddr 0 is the script, .retAddr 1 the text constant; .float 0 stands for a local that isn't set -/
abbrev ax_H : Type := List (Nat × Nat) × (Nat → Nat → Int32) × (Nat → Nat → Option Nat)
abbrev ax_S : Type := Nat × List Value × List Value × ax_H
abbrev ax_R : Type := Option Value × ax_H
abbrev ax_E : Type := Nat × (Nat → Int32)
abbrev ax_Cal : Type := Nat → List Value → ax_H → Option ax_R
abbrev ax_Act : Type := ax_E → ax_Cal → ax_S → Option (ax_S ⊕ ax_R)
def ax_nth {α : Type} : List α → Nat → Option α
  | [], _ => none
  | a :: _, 0 => some a
  | _ :: l, n + 1 => ax_nth l n
theorem ax_nth_eq {α : Type} : ∀ (l : List α) (i : Nat), ax_nth l i = l[i]?
  | [], _ => rfl
  | _ :: _, 0 => rfl
  | _ :: l, n + 1 => by rw [ax_nth, ax_nth_eq l n]; rfl
abbrev ax_T : Type := List (List (Option ax_Act))
/-- the row at a place: rows lie in sixteens -/
def ax_row (t : ax_T) (pc : Nat) : Option ax_Act := match ax_nth t (pc / 16) with
  | some r => match ax_nth r (pc % 16) with
    | some a => a
    | none => none
  | none => none
/-- a store at a place cuts no long that lies there -/
def ax_ok1 (ls : List Value) : Nat → Bool
  | 0 => true
  | j + 1 => match ax_nth ls j with
    | some v => !(v.category == 2)
    | none => true
def ax_cats : List Value → Nat
  | [] => 0
  | v :: r => v.category + ax_cats r
-- constants, loads, stores
def a_iconst (v : Int32) (n : Nat) : ax_Act := fun _ _ S => match S with
  | (_, ls, st, h) => some (.inl (n, ls, .int v :: st, h))
def a_lconst (v : Int64) (n : Nat) : ax_Act := fun _ _ S => match S with
  | (_, ls, st, h) => some (.inl (n, ls, .long v :: st, h))
def a_ldcs (n : Nat) : ax_Act := fun _ _ S => match S with
  | (_, ls, st, h) => some (.inl (n, ls, .retAddr 1 :: st, h))
def a_iload (i n : Nat) : ax_Act := fun _ _ S => match S with
  | (_, ls, st, h) => match ax_nth ls i with
    | some (.int x) => some (.inl (n, ls, .int x :: st, h))
    | _ => none
def a_lload (i n : Nat) : ax_Act := fun _ _ S => match S with
  | (_, ls, st, h) => match ax_nth ls i with
    | some (.long x) => some (.inl (n, ls, .long x :: st, h))
    | _ => none
def a_aload (i n : Nat) : ax_Act := fun _ _ S => match S with
  | (_, ls, st, h) => match ax_nth ls i with
    | some (.ref x) => some (.inl (n, ls, .ref x :: st, h))
    | some (.retAddr x) => some (.inl (n, ls, .retAddr x :: st, h))
    | _ => none
def a_istore (i n : Nat) : ax_Act := fun _ _ S => match S with
  | (_, ls, .int x :: st, h) => if ax_ok1 ls i = true then some (.inl (n, ls.set i (.int x), st, h)) else none
  | _ => none
def a_lstore (i n : Nat) : ax_Act := fun _ _ S => match S with
  | (_, ls, .long x :: st, h) => if ax_ok1 ls i = true then some (.inl (n, (ls.set i (.long x)).set (i + 1) (.float 0), st, h)) else none
  | _ => none
def a_astore (i n : Nat) : ax_Act := fun _ _ S => match S with
  | (_, ls, .ref x :: st, h) => if ax_ok1 ls i = true then some (.inl (n, ls.set i (.ref x), st, h)) else none
  | _ => none
def a_iinc (i : Nat) (k : Int32) (n : Nat) : ax_Act := fun _ _ S => match S with
  | (_, ls, st, h) => match ax_nth ls i with
    | some (.int x) => if ax_ok1 ls i = true then some (.inl (n, ls.set i (.int (x + k)), st, h)) else none
    | _ => none
-- stack
def a_dup (n : Nat) : ax_Act := fun _ _ S => match S with
  | (_, ls, v :: st, h) => if v.category = 1 then some (.inl (n, ls, v :: v :: st, h)) else none
  | _ => none
def a_dup2 (n : Nat) : ax_Act := fun _ _ S => match S with
  | (_, ls, v :: w :: st, h) => if v.category = 1 ∧ w.category = 1 then some (.inl (n, ls, v :: w :: v :: w :: st, h)) else none
  | _ => none
def a_pop (n : Nat) : ax_Act := fun _ _ S => match S with
  | (_, ls, v :: st, h) => if v.category = 1 then some (.inl (n, ls, st, h)) else none
  | _ => none
-- arithmetic
def a_iadd (n : Nat) : ax_Act := fun _ _ S => match S with
  | (_, ls, .int y :: .int x :: st, h) => some (.inl (n, ls, .int (x + y) :: st, h))
  | _ => none
def a_isub (n : Nat) : ax_Act := fun _ _ S => match S with
  | (_, ls, .int y :: .int x :: st, h) => some (.inl (n, ls, .int (x - y) :: st, h))
  | _ => none
def a_imul (n : Nat) : ax_Act := fun _ _ S => match S with
  | (_, ls, .int y :: .int x :: st, h) => some (.inl (n, ls, .int (x * y) :: st, h))
  | _ => none
def a_iand (n : Nat) : ax_Act := fun _ _ S => match S with
  | (_, ls, .int y :: .int x :: st, h) => some (.inl (n, ls, .int (x &&& y) :: st, h))
  | _ => none
def a_ior (n : Nat) : ax_Act := fun _ _ S => match S with
  | (_, ls, .int y :: .int x :: st, h) => some (.inl (n, ls, .int (x ||| y) :: st, h))
  | _ => none
def a_ixor (n : Nat) : ax_Act := fun _ _ S => match S with
  | (_, ls, .int y :: .int x :: st, h) => some (.inl (n, ls, .int (x ^^^ y) :: st, h))
  | _ => none
def a_ishl (n : Nat) : ax_Act := fun _ _ S => match S with
  | (_, ls, .int y :: .int x :: st, h) => some (.inl (n, ls, .int (x <<< (y &&& 31)) :: st, h))
  | _ => none
def a_ishr (n : Nat) : ax_Act := fun _ _ S => match S with
  | (_, ls, .int y :: .int x :: st, h) => some (.inl (n, ls, .int (x >>> (y &&& 31)) :: st, h))
  | _ => none
def a_iushr (n : Nat) : ax_Act := fun _ _ S => match S with
  | (_, ls, .int y :: .int x :: st, h) => some (.inl (n, ls, .int (x.toUInt32 >>> (y.toUInt32 &&& Int32.toUInt32 31)).toInt32 :: st, h))
  | _ => none
def a_idiv (n : Nat) : ax_Act := fun _ _ S => match S with
  | (_, ls, .int y :: .int x :: st, h) => if y = 0 then none else some (.inl (n, ls, .int (x / y) :: st, h))
  | _ => none
def a_irem (n : Nat) : ax_Act := fun _ _ S => match S with
  | (_, ls, .int y :: .int x :: st, h) => if y = 0 then none else some (.inl (n, ls, .int (x - x / y * y) :: st, h))
  | _ => none
def a_ineg (n : Nat) : ax_Act := fun _ _ S => match S with
  | (_, ls, .int x :: st, h) => some (.inl (n, ls, .int (-x) :: st, h))
  | _ => none
def a_i2l (n : Nat) : ax_Act := fun _ _ S => match S with
  | (_, ls, .int x :: st, h) => some (.inl (n, ls, .long x.toInt64 :: st, h))
  | _ => none
def a_l2i (n : Nat) : ax_Act := fun _ _ S => match S with
  | (_, ls, .long x :: st, h) => some (.inl (n, ls, .int x.toInt32 :: st, h))
  | _ => none
def a_i2c (n : Nat) : ax_Act := fun _ _ S => match S with
  | (_, ls, .int x :: st, h) => some (.inl (n, ls, .int (x.toUInt32 % 65536).toInt32 :: st, h))
  | _ => none
def a_ladd (n : Nat) : ax_Act := fun _ _ S => match S with
  | (_, ls, .long y :: .long x :: st, h) => some (.inl (n, ls, .long (x + y) :: st, h))
  | _ => none
def a_lmul (n : Nat) : ax_Act := fun _ _ S => match S with
  | (_, ls, .long y :: .long x :: st, h) => some (.inl (n, ls, .long (x * y) :: st, h))
  | _ => none
def a_ldiv (n : Nat) : ax_Act := fun _ _ S => match S with
  | (_, ls, .long y :: .long x :: st, h) => if y = 0 then none else some (.inl (n, ls, .long (x / y) :: st, h))
  | _ => none
def a_lrem (n : Nat) : ax_Act := fun _ _ S => match S with
  | (_, ls, .long y :: .long x :: st, h) => if y = 0 then none else some (.inl (n, ls, .long (x - x / y * y) :: st, h))
  | _ => none
def a_lcmp (n : Nat) : ax_Act := fun _ _ S => match S with
  | (_, ls, .long y :: .long x :: st, h) => some (.inl (n, ls, .int (lg_cmp x y) :: st, h))
  | _ => none
-- branches
def a_goto (t : Nat) : ax_Act := fun _ _ S => match S with
  | (_, ls, st, h) => some (.inl (t, ls, st, h))
def a_ceq (t n : Nat) : ax_Act := fun _ _ S => match S with
  | (_, ls, .int y :: .int x :: st, h) => if x = y then some (.inl (t, ls, st, h)) else some (.inl (n, ls, st, h))
  | _ => none
def a_cne (t n : Nat) : ax_Act := fun _ _ S => match S with
  | (_, ls, .int y :: .int x :: st, h) => if x = y then some (.inl (n, ls, st, h)) else some (.inl (t, ls, st, h))
  | _ => none
def a_clt (t n : Nat) : ax_Act := fun _ _ S => match S with
  | (_, ls, .int y :: .int x :: st, h) => if x < y then some (.inl (t, ls, st, h)) else some (.inl (n, ls, st, h))
  | _ => none
def a_cge (t n : Nat) : ax_Act := fun _ _ S => match S with
  | (_, ls, .int y :: .int x :: st, h) => if y ≤ x then some (.inl (t, ls, st, h)) else some (.inl (n, ls, st, h))
  | _ => none
def a_cgt (t n : Nat) : ax_Act := fun _ _ S => match S with
  | (_, ls, .int y :: .int x :: st, h) => if y < x then some (.inl (t, ls, st, h)) else some (.inl (n, ls, st, h))
  | _ => none
def a_cle (t n : Nat) : ax_Act := fun _ _ S => match S with
  | (_, ls, .int y :: .int x :: st, h) => if x ≤ y then some (.inl (t, ls, st, h)) else some (.inl (n, ls, st, h))
  | _ => none
def a_zeq (t n : Nat) : ax_Act := fun _ _ S => match S with
  | (_, ls, .int x :: st, h) => if x = 0 then some (.inl (t, ls, st, h)) else some (.inl (n, ls, st, h))
  | _ => none
def a_zne (t n : Nat) : ax_Act := fun _ _ S => match S with
  | (_, ls, .int x :: st, h) => if x = 0 then some (.inl (n, ls, st, h)) else some (.inl (t, ls, st, h))
  | _ => none
def a_zlt (t n : Nat) : ax_Act := fun _ _ S => match S with
  | (_, ls, .int x :: st, h) => if x < 0 then some (.inl (t, ls, st, h)) else some (.inl (n, ls, st, h))
  | _ => none
def a_zge (t n : Nat) : ax_Act := fun _ _ S => match S with
  | (_, ls, .int x :: st, h) => if 0 ≤ x then some (.inl (t, ls, st, h)) else some (.inl (n, ls, st, h))
  | _ => none
def a_zgt (t n : Nat) : ax_Act := fun _ _ S => match S with
  | (_, ls, .int x :: st, h) => if 0 < x then some (.inl (t, ls, st, h)) else some (.inl (n, ls, st, h))
  | _ => none
def a_zle (t n : Nat) : ax_Act := fun _ _ S => match S with
  | (_, ls, .int x :: st, h) => if x ≤ 0 then some (.inl (t, ls, st, h)) else some (.inl (n, ls, st, h))
  | _ => none
/-- where a table's row leads -/
def ax_sw (lo hi : Int) (ts : List Nat) (d : Nat) (x : Int) : Nat := if x < lo ∨ hi < x then d else (ax_nth ts (x - lo).toNat).getD d
def a_tsw (lo hi : Int) (ts : List Nat) (d : Nat) : ax_Act := fun _ _ S => match S with
  | (_, ls, .int x :: st, h) => some (.inl (ax_sw lo hi ts d x.toInt, ls, st, h))
  | _ => none
-- objects and arrays
def a_getI (ci N k n : Nat) : ax_Act := fun _ _ S => match S with
  | (_, ls, .ref q :: st, sh, I, R) => match ax_nth sh q with
    | some c => if c = (ci, N) then some (.inl (n, ls, .int (I q k) :: st, sh, I, R)) else none
    | none => none
  | _ => none
def a_getR (ci N k n : Nat) : ax_Act := fun _ _ S => match S with
  | (_, ls, .ref q :: st, sh, I, R) => match ax_nth sh q with
    | some c => if c = (ci, N) then match R q k with
      | some j => some (.inl (n, ls, .ref j :: st, sh, I, R))
      | none => none
      else none
    | none => none
  | _ => none
def a_putI (ci N k n : Nat) : ax_Act := fun _ _ S => match S with
  | (_, ls, .int x :: .ref q :: st, sh, I, R) => match ax_nth sh q with
    | some c => if c = (ci, N) then some (.inl (n, ls, st, sh, va_up I q (upd (I q) k x), R)) else none
    | none => none
  | _ => none
def a_putZ (ci N k n : Nat) : ax_Act := fun _ _ S => match S with
  | (_, ls, .int x :: .ref q :: st, sh, I, R) => match ax_nth sh q with
    | some c => if c = (ci, N) ∧ (x = 0 ∨ x = 1) then some (.inl (n, ls, st, sh, va_up I q (upd (I q) k x), R)) else none
    | none => none
  | _ => none
def a_putR (ci N k n : Nat) : ax_Act := fun _ _ S => match S with
  | (_, ls, .ref x :: .ref q :: st, sh, I, R) => match ax_nth sh q with
    | some c => if c = (ci, N) then some (.inl (n, ls, st, sh, I, va_up R q (va_up (R q) k (some x)))) else none
    | none => none
  | _ => none
def a_iald (n : Nat) : ax_Act := fun _ _ S => match S with
  | (_, ls, .int i :: .ref q :: st, sh, I, R) => match ax_nth sh q with
    | some c => if c.1 = 100 then (if i < 0 ∨ c.2 ≤ i.toNatClampNeg then none else some (.inl (n, ls, .int (I q i.toNatClampNeg) :: st, sh, I, R))) else none
    | none => none
  | _ => none
def a_sald (n : Nat) : ax_Act := fun E _ S => match S with
  | (_, ls, .int i :: .retAddr 0 :: st, h) => if i < 0 ∨ E.1 ≤ i.toNatClampNeg then none else some (.inl (n, ls, .int (E.2 i.toNatClampNeg) :: st, h))
  | _ => none
def a_slen (n : Nat) : ax_Act := fun E _ S => match S with
  | (_, ls, .retAddr 0 :: st, h) => some (.inl (n, ls, .int (Int32.ofNat E.1) :: st, h))
  | _ => none
def a_cald (n : Nat) : ax_Act := fun _ _ S => match S with
  | (_, ls, .int i :: .ref q :: st, sh, I, R) => match ax_nth sh q with
    | some c => if c.1 = 101 then (if i < 0 ∨ c.2 ≤ i.toNatClampNeg then none else some (.inl (n, ls, .int (I q i.toNatClampNeg) :: st, sh, I, R))) else none
    | none => none
  | _ => none
def a_aald (n : Nat) : ax_Act := fun _ _ S => match S with
  | (_, ls, .int i :: .ref q :: st, sh, I, R) => match ax_nth sh q with
    | some c => if c.1 = 102 then (if i < 0 ∨ c.2 ≤ i.toNatClampNeg then none else match R q i.toNatClampNeg with
      | some j => some (.inl (n, ls, .ref j :: st, sh, I, R))
      | none => none) else none
    | none => none
  | _ => none
def a_iast (n : Nat) : ax_Act := fun _ _ S => match S with
  | (_, ls, .int x :: .int i :: .ref q :: st, sh, I, R) => match ax_nth sh q with
    | some c => if c.1 = 100 then (if i < 0 ∨ c.2 ≤ i.toNatClampNeg then none else some (.inl (n, ls, st, sh, va_up I q (upd (I q) i.toNatClampNeg x), R))) else none
    | none => none
  | _ => none
def a_cast (n : Nat) : ax_Act := fun _ _ S => match S with
  | (_, ls, .int x :: .int i :: .ref q :: st, sh, I, R) => match ax_nth sh q with
    | some c => if c.1 = 101 then (if i < 0 ∨ c.2 ≤ i.toNatClampNeg then none else some (.inl (n, ls, st, sh, va_up I q (upd (I q) i.toNatClampNeg (vp_nar .char x)), R))) else none
    | none => none
  | _ => none
def a_aast (n : Nat) : ax_Act := fun _ _ S => match S with
  | (_, ls, .ref x :: .int i :: .ref q :: st, sh, I, R) => match ax_nth sh q with
    | some c => if c.1 = 102 ∧ ax_nth sh x = some (5, 5) then (if i < 0 ∨ c.2 ≤ i.toNatClampNeg then none else some (.inl (n, ls, st, sh, I, va_up R q (va_up (R q) i.toNatClampNeg (some x))))) else none
    | none => none
  | _ => none
/-- System.arraycopy over two int arrays, whole places from 0 on -/
def a_acpy (n : Nat) : ax_Act := fun _ _ S => match S with
  | (_, ls, .int c :: .int dp :: .ref b :: .int sp :: .ref a :: st, sh, I, R) => match ax_nth sh a, ax_nth sh b with
    | some ca, some cb => if ca.1 = 100 ∧ cb.1 = 100 ∧ sp = 0 ∧ dp = 0 ∧ ¬ c < 0 ∧ c.toNatClampNeg ≤ ca.2 ∧ c.toNatClampNeg ≤ cb.2 ∧ ax_cats st ≤ 8 then some (.inl (n, ls, st, sh, va_up I b (va_cpy (I a) (I b) 0 0 c.toNatClampNeg), R)) else none
    | _, _ => none
  | _ => none
-- making
def a_new (ci N n : Nat) : ax_Act := fun _ _ S => match S with
  | (_, ls, st, sh, I, R) => some (.inl (n, ls, .ref sh.length :: st, sh ++ [(ci, N)], va_up I sh.length (fun _ => 0), va_up R sh.length (fun _ => none)))
def a_newa (kd N n : Nat) : ax_Act := fun _ _ S => match S with
  | (_, ls, .int x :: st, sh, I, R) => if x = Int32.ofNat N then some (.inl (n, ls, .ref sh.length :: st, sh ++ [(kd, N)], va_up I sh.length (fun _ => 0), va_up R sh.length (fun _ => none))) else none
  | _ => none
-- calls
def ax_back (o : Option ax_R) (n : Nat) (ls rest : List Value) : Option (ax_S ⊕ ax_R) := match o with
  | none => none
  | some q => some (.inl (n, ls, q.1.toList ++ rest, q.2))
def a_callS (y k n : Nat) : ax_Act := fun _ cal S => match S with
  | (_, ls, st, h) => if k ≤ st.length ∧ ax_cats (st.drop k) ≤ 8 then ax_back (cal y (st.take k).reverse h) n ls (st.drop k) else none
/-- a call on an object of the class ci: k arguments beside it -/
def a_callV (ci N y k n : Nat) : ax_Act := fun _ cal S => match S with
  | (_, ls, st, h) => match ax_nth st k with
    | some (.ref q) => if ax_nth h.1 q = some (ci, N) ∧ ax_cats (st.drop (k + 1)) ≤ 8 then ax_back (cal y (st.take (k + 1)).reverse h) n ls (st.drop (k + 1)) else none
    | _ => none
def a_oinit (n : Nat) : ax_Act := fun _ _ S => match S with
  | (_, ls, .ref _ :: st, h) => if ax_cats st ≤ 8 then some (.inl (n, ls, st, h)) else none
  | _ => none
-- returns
def a_iret : ax_Act := fun _ _ S => match S with
  | (_, _, [.int x], h) => some (.inr (some (.int x), h))
  | _ => none
def a_zret : ax_Act := fun _ _ S => match S with
  | (_, _, [.int x], h) => if x = 0 ∨ x = 1 then some (.inr (some (.int x), h)) else none
  | _ => none
def a_cret : ax_Act := fun _ _ S => match S with
  | (_, _, [.int x], h) => if vp_nar .char x = x then some (.inr (some (.int x), h)) else none
  | _ => none
def a_lret : ax_Act := fun _ _ S => match S with
  | (_, _, [.long x], h) => some (.inr (some (.long x), h))
  | _ => none
def a_aret : ax_Act := fun _ _ S => match S with
  | (_, _, [.ref x], h) => some (.inr (some (.ref x), h))
  | _ => none
def a_vret : ax_Act := fun _ _ S => match S with
  | (_, _, [], h) => some (.inr (none, h))
  | _ => none
/-- a step, a run -/
def ax_step (E : ax_E) (cal : ax_Cal) (t : ax_T) (S : ax_S) : Option (ax_S ⊕ ax_R) := match ax_row t S.1 with
  | some a => a E cal S
  | none => none
def ax_run (E : ax_E) (cal : ax_Cal) (t : ax_T) : Nat → ax_S → Option ax_R
  | 0, _ => none
  | n + 1, S => match ax_step E cal t S with
    | some (.inl S') => ax_run E cal t n S'
    | some (.inr r) => some r
    | none => none
theorem ax_run_more {E : ax_E} {cal : ax_Cal} {t : ax_T} : ∀ {n : Nat} {S : ax_S} {r : ax_R}, ax_run E cal t n S = some r → ∀ k, ax_run E cal t (n + k) S = some r
  | 0, S, r, h, k => by cases h
  | n + 1, S, r, h, k => by
    rw [show n + 1 + k = (n + k) + 1 by omega, ax_run]
    rw [ax_run] at h
    cases hs : ax_step E cal t S with
    | none => rw [hs] at h; cases h
    | some o =>
      rw [hs] at h
      cases o with
      | inl S' => exact ax_run_more h k
      | inr q => exact h
theorem ax_run_one {E : ax_E} {cal : ax_Cal} {t : ax_T} {n n' : Nat} {S : ax_S} {r r' : ax_R} (h : ax_run E cal t n S = some r) (h' : ax_run E cal t n' S = some r') : r = r' := by
  have a := ax_run_more h n'
  have b := ax_run_more h' n
  rw [Nat.add_comm n' n, a] at b
  exact Option.some.inj b
/-- the run from a state on ends, with Q -/
def AW (E : ax_E) (cal : ax_Cal) (t : ax_T) (S : ax_S) (Q : Option Value → ax_H → Prop) : Prop := ∃ n r h, ax_run E cal t n S = some (r, h) ∧ Q r h
section AXR
variable {E : ax_E} {cal : ax_Cal} {t : ax_T} {S S' S1 S2 : ax_S} {Q : Option Value → ax_H → Prop}
theorem ax_s (h : ax_step E cal t S = some (.inl S')) (k : AW E cal t S' Q) : AW E cal t S Q := by
  obtain ⟨n, r, g, a, b⟩ := k
  exact ⟨n + 1, r, g, by rw [ax_run, h]; exact a, b⟩
theorem ax_b {c : Prop} [Decidable c] (h : ax_step E cal t S = if c then some (.inl S1) else some (.inl S2)) (k1 : c → AW E cal t S1 Q) (k2 : ¬ c → AW E cal t S2 Q) : AW E cal t S Q := by
  by_cases hc : c
  · exact ax_s (by rw [h, if_pos hc]) (k1 hc)
  · exact ax_s (by rw [h, if_neg hc]) (k2 hc)
/-- a test that is known -/
theorem ax_bt {c : Prop} [Decidable c] {o : Option (ax_S ⊕ ax_R)} (h : ax_step E cal t S = if c then some (.inl S1) else o) (hc : c) (k1 : AW E cal t S1 Q) : AW E cal t S Q := ax_s (by rw [h, if_pos hc]) k1
theorem ax_bf {c : Prop} [Decidable c] {o : Option (ax_S ⊕ ax_R)} (h : ax_step E cal t S = if c then o else some (.inl S2)) (hc : ¬ c) (k2 : AW E cal t S2 Q) : AW E cal t S Q := ax_s (by rw [h, if_neg hc]) k2
/-- a call -/
theorem ax_c {y n : Nat} {as ls rest : List Value} {h0 : ax_H} {q : ax_R} (h : ax_step E cal t S = ax_back (cal y as h0) n ls rest) (hc : cal y as h0 = some q) (k : AW E cal t (n, ls, q.1.toList ++ rest, q.2) Q) : AW E cal t S Q := ax_s (by rw [h, hc]; rfl) k
theorem ax_r {r : Option Value} {g : ax_H} (h : ax_step E cal t S = some (.inr (r, g))) (k : Q r g) : AW E cal t S Q := ⟨1, r, g, by rw [ax_run, h], k⟩
theorem ax_rt {c : Prop} [Decidable c] {o : Option (ax_S ⊕ ax_R)} {r : Option Value} {g : ax_H} (h : ax_step E cal t S = if c then some (.inr (r, g)) else o) (hc : c) (k : Q r g) : AW E cal t S Q := ax_r (by rw [h, if_pos hc]) k
theorem ax_mono {Q' : Option Value → ax_H → Prop} (k : AW E cal t S Q') (h : ∀ r g, Q' r g → Q r g) : AW E cal t S Q := by
  obtain ⟨n, r, g, a, b⟩ := k
  exact ⟨n, r, g, a, h r g b⟩
end AXR
/-- a number of steps without a return -/
def ax_go (E : ax_E) (cal : ax_Cal) (t : ax_T) : Nat → ax_S → ax_S → Prop
  | 0, S, S' => S = S'
  | n + 1, S, S' => ∃ S1, ax_step E cal t S = some (.inl S1) ∧ ax_go E cal t n S1 S'
end
section
/-! the abstract heap as a world of the kit's -/
abbrev ax_G : Type := va_G × ClassId × ClassId × ClassId
abbrev ax_Z : Type := (Nat → Nat) × Nat × Nat
def ax_rv (z : ax_Z) : Value → Value
  | .ref k => .ref (z.1 k)
  | .retAddr k => .ref (if k = 0 then z.2.1 else z.2.2)
  | v => v
theorem ax_rv_cat (z : ax_Z) (v : Value) : (ax_rv z v).category = v.category := by cases v <;> rfl
theorem ax_cats_map (z : ax_Z) : ∀ l : List Value, ((l.map (ax_rv z)).map fun v => v.category).sum = ax_cats l
  | [] => rfl
  | v :: l => by
    rw [List.map_cons, List.map_cons, List.sum_cons, ax_cats_map z l, ax_rv_cat]; rfl
/-- which fields hold references, a class a row (by vwCl) -/
def ax_rft : List (List Bool) := [[true, true, false], [true, true, true, false, false, false, false], [true, false], [true, true], [true, true, false], [true, true, true, true, false], [true, true, true, true, false, false, false], [true, true, true, true, true, true, true, true, false, false], [true, false], [true], [true, true, false, false, false, false], [true, true, true, true, true, true, true, true, true], [false, true, false, true, false, true, false, true, false, true, true, false, true, false, true, false, true, true, false, false, true, false, true, false, true, false, true, false, true, false, true, true, true, false, false, true, false, false]]
def ax_isr (ci k : Nat) : Bool := match ax_nth ax_rft ci with
  | some l => match ax_nth l k with
    | some b => b
    | none => false
  | none => false
def ax_fs (rz : Nat → Nat) (ci N : Nat) (f : Nat → Int32) (r : Nat → Option Nat) : List Value := (List.range N).map (fun k => if ax_isr ci k = true then va_rf ((r k).map rz) else .int (f k))
def ax_cell (G : ax_G) (rz : Nat → Nat) (c : Nat × Nat) (f : Nat → Int32) (r : Nat → Option Nat) : va_E :=
  if c.1 = 100 then .inl (G.2.1, c.2, .inl f) else if c.1 = 101 then .inl (G.2.2.1, c.2, .inl f) else if c.1 = 102 then .inl (G.2.2.2, c.2, .inr (.inr (.inr (.inr (fun j => (r j).map rz))))) else .inr (c.1, ax_fs rz c.1 c.2 f r)
def ax_ws (G : ax_G) (rz : Nat → Nat) (h : ax_H) : va_W := (List.range h.1.length).map (fun i => (rz i, ax_cell G rz ((ax_nth h.1 i).getD (0, 0)) (h.2.1 i) (h.2.2 i)))
def ax_tys (G : ax_G) : List (ClassId × FieldType) := [(G.2.1, .int), (G.2.2.1, .char), (G.2.2.2, .object "ShadowTailor$State")]
def ax_ok (G : ax_G) (base : Nat) (rz : Nat → Nat) (h : ax_H) (H : Heap) : Prop :=
  H.size = base + h.1.length ∧ (∀ i, base ≤ rz i) ∧ (∀ i j, rz i = rz j → i = j) ∧ (∀ i, h.1.length ≤ i → rz i = base + i) ∧ va_P G.1 vwCl (ax_ws G rz h) H
def ax_slt (h : ax_H) : Nat := (h.1.map (fun q => q.2)).sum
theorem ax_nth_lt {α : Type} {l : List α} {i : Nat} {c : α} (h : ax_nth l i = some c) : i < l.length := by
  rw [ax_nth_eq] at h; exact (List.getElem?_eq_some_iff.mp h).1
theorem ax_ws_len (G : ax_G) (rz : Nat → Nat) (h : ax_H) : (ax_ws G rz h).length = h.1.length := by simp [ax_ws]
theorem ax_ws_i (G : ax_G) (rz : Nat → Nat) (h : ax_H) {i : Nat} (hl : i < h.1.length) : (ax_ws G rz h)[i]? = some (rz i, ax_cell G rz ((ax_nth h.1 i).getD (0, 0)) (h.2.1 i) (h.2.2 i)) := by
  simp [ax_ws, List.getElem?_map, hl]
theorem ax_ws_get (G : ax_G) (rz : Nat → Nat) {h : ax_H} {i : Nat} {c : Nat × Nat} (hc : ax_nth h.1 i = some c) : (ax_ws G rz h)[i]? = some (rz i, ax_cell G rz c (h.2.1 i) (h.2.2 i)) := by
  rw [ax_ws_i G rz h (ax_nth_lt hc), hc]; rfl
theorem ax_ws_at (G : ax_G) (rz : Nat → Nat) (h : ax_H) {i : Nat} {q : Nat × va_E} (hq : (ax_ws G rz h)[i]? = some q) : i < h.1.length ∧ q.1 = rz i := by
  have hl : i < h.1.length := by rw [← ax_ws_len G rz h]; exact (List.getElem?_eq_some_iff.mp hq).1
  refine ⟨hl, ?_⟩
  rw [ax_ws_i G rz h hl] at hq
  rw [← Option.some.inj hq]
theorem ax_D {G : ax_G} {base : Nat} {rz : Nat → Nat} {h : ax_H} {H : Heap} (hk : ax_ok G base rz h H) : va_D (fun q => base ≤ q) (ax_ws G rz h) := by
  refine ⟨fun i j p q hp hq hpq => ?_, fun k q hq => ?_⟩
  · exact hk.2.2.1 i j (by rw [← (ax_ws_at G rz h hp).2, ← (ax_ws_at G rz h hq).2]; exact hpq)
  · show base ≤ q.1
    rw [(ax_ws_at G rz h hq).2]; exact hk.2.1 k
theorem ax_ws_set (G : ax_G) (rz : Nat → Nat) {sh : List (Nat × Nat)} {I : Nat → Nat → Int32} {R : Nat → Nat → Option Nat} {i : Nat} {c : Nat × Nat} (hc : ax_nth sh i = some c) (f : Nat → Int32) (r : Nat → Option Nat) :
    (ax_ws G rz (sh, I, R)).set i (rz i, ax_cell G rz c f r) = ax_ws G rz (sh, va_up I i f, va_up R i r) := by
  have hl := ax_nth_lt hc
  apply List.ext_getElem?
  intro j
  by_cases hj : j = i
  · subst hj
    rw [List.getElem?_set_self (by rw [ax_ws_len]; exact hl), ax_ws_get G rz (h := (sh, va_up I j f, va_up R j r)) hc]
    show some (rz j, ax_cell G rz c f r) = some (rz j, ax_cell G rz c (va_up I j f j) (va_up R j r j))
    rw [va_up_self, va_up_self]
  · rw [List.getElem?_set_ne (Ne.symm hj)]
    by_cases hjl : j < sh.length
    · rw [ax_ws_i G rz (sh, I, R) hjl, ax_ws_i G rz (sh, va_up I i f, va_up R i r) hjl]
      show some (rz j, ax_cell G rz _ (I j) (R j)) = some (rz j, ax_cell G rz _ (va_up I i f j) (va_up R i r j))
      rw [va_up_ne _ _ hj, va_up_ne _ _ hj]
    · rw [List.getElem?_eq_none (by rw [ax_ws_len]; exact Nat.le_of_not_lt hjl), List.getElem?_eq_none (by rw [ax_ws_len]; exact Nat.le_of_not_lt hjl)]
theorem ax_up_id {α : Type} (f : Nat → α) (i : Nat) : va_up f i (f i) = f := by
  funext j
  by_cases h : j = i
  · subst h; rw [va_up_self]
  · rw [va_up_ne _ _ h]
theorem ax_nth_app {α : Type} (l : List α) (c : α) {i : Nat} (h : i < l.length) : ax_nth (l ++ [c]) i = ax_nth l i := by
  rw [ax_nth_eq, ax_nth_eq, List.getElem?_append_left h]
theorem ax_nth_end {α : Type} (l : List α) (c : α) : ax_nth (l ++ [c]) l.length = some c := by
  rw [ax_nth_eq, List.getElem?_append_right (Nat.le_refl _), Nat.sub_self]; rfl
theorem ax_ws_push (G : ax_G) (rz : Nat → Nat) (sh : List (Nat × Nat)) (I : Nat → Nat → Int32) (R : Nat → Nat → Option Nat) (c : Nat × Nat) (f : Nat → Int32) (r : Nat → Option Nat) :
    ax_ws G rz (sh ++ [c], va_up I sh.length f, va_up R sh.length r) = ax_ws G rz (sh, I, R) ++ [(rz sh.length, ax_cell G rz c f r)] := by
  apply List.ext_getElem?
  intro j
  rcases Nat.lt_trichotomy j sh.length with hj | hj | hj
  · rw [List.getElem?_append_left (by rw [ax_ws_len]; exact hj), ax_ws_i G rz (sh, I, R) hj, ax_ws_i G rz (sh ++ [c], va_up I sh.length f, va_up R sh.length r) (by simp; omega)]
    show some (rz j, ax_cell G rz ((ax_nth (sh ++ [c]) j).getD (0, 0)) (va_up I sh.length f j) (va_up R sh.length r j)) = _
    rw [ax_nth_app sh c hj, va_up_ne _ _ (Nat.ne_of_lt hj), va_up_ne _ _ (Nat.ne_of_lt hj)]
  · subst hj
    rw [List.getElem?_append_right (by rw [ax_ws_len]; exact Nat.le_refl _), ax_ws_len, Nat.sub_self, ax_ws_get G rz (h := (sh ++ [c], va_up I sh.length f, va_up R sh.length r)) (ax_nth_end sh c)]
    show some (rz sh.length, ax_cell G rz c (va_up I sh.length f sh.length) (va_up R sh.length r sh.length)) = _
    rw [va_up_self, va_up_self]; rfl
  · rw [List.getElem?_eq_none (by rw [ax_ws_len]; simp; omega), List.getElem?_eq_none (by rw [List.length_append, ax_ws_len]; simp; omega)]
theorem ax_fs_at (rz : Nat → Nat) (ci : Nat) {N k : Nat} (hk : k < N) (f : Nat → Int32) (r : Nat → Option Nat) : (ax_fs rz ci N f r)[k]? = some (if ax_isr ci k = true then va_rf ((r k).map rz) else .int (f k)) := by
  simp [ax_fs, List.getElem?_map, hk]
theorem ax_fs_len (rz : Nat → Nat) (ci N : Nat) (f : Nat → Int32) (r : Nat → Option Nat) : (ax_fs rz ci N f r).length = N := by simp [ax_fs]
theorem ax_fs_i (rz : Nat → Nat) (ci N : Nat) {k : Nat} (h0 : ax_isr ci k = false) (f : Nat → Int32) (r : Nat → Option Nat) (x : Int32) : (ax_fs rz ci N f r).set k (.int x) = ax_fs rz ci N (upd f k x) r := by
  apply List.ext_getElem?
  intro j
  by_cases hj : j < N
  · by_cases e : j = k
    · subst e
      rw [List.getElem?_set_self (by rw [ax_fs_len]; exact hj), ax_fs_at rz ci hj, h0]
      simp [upd]
    · rw [List.getElem?_set_ne (Ne.symm e), ax_fs_at rz ci hj, ax_fs_at rz ci hj]
      simp [upd, e]
  · rw [List.getElem?_eq_none (by rw [List.length_set, ax_fs_len]; omega), List.getElem?_eq_none (by rw [ax_fs_len]; omega)]
theorem ax_fs_r (rz : Nat → Nat) (ci N : Nat) {k : Nat} (h0 : ax_isr ci k = true) (f : Nat → Int32) (r : Nat → Option Nat) (x : Nat) : (ax_fs rz ci N f r).set k (.ref (rz x)) = ax_fs rz ci N f (va_up r k (some x)) := by
  apply List.ext_getElem?
  intro j
  by_cases hj : j < N
  · by_cases e : j = k
    · subst e
      rw [List.getElem?_set_self (by rw [ax_fs_len]; exact hj), ax_fs_at rz ci hj, h0]
      simp [va_up, va_rf]
    · rw [List.getElem?_set_ne (Ne.symm e), ax_fs_at rz ci hj, ax_fs_at rz ci hj]
      simp [va_up, e]
  · rw [List.getElem?_eq_none (by rw [List.length_set, ax_fs_len]; omega), List.getElem?_eq_none (by rw [ax_fs_len]; omega)]
/-! locals -/
def ax_loc (z : ax_Z) (nL : Nat) (Ls : Array Slot) (ls : List Value) : Prop := ls.length = nL ∧ lv_has Ls nL [] ∧ ∀ (i : Nat) (v : Value), ls[i]? = some v → v ≠ .float 0 → Ls[i]? = some (.val (ax_rv z v))
def ax_lv (z : ax_Z) (ls : List Value) : List (Nat × Value) := (List.range ls.length).filterMap (fun i => match ls[i]? with
  | some v => if v = .float 0 then none else some (i, ax_rv z v)
  | none => none)
theorem ax_lv_mem {z : ax_Z} {ls : List Value} {i : Nat} {v : Value} (h : ls[i]? = some v) (hv : v ≠ .float 0) : (i, ax_rv z v) ∈ ax_lv z ls := by
  refine List.mem_filterMap.mpr ⟨i, List.mem_range.mpr (List.getElem?_eq_some_iff.mp h).1, ?_⟩
  simp [h, hv]
theorem ax_lv_has {z : ax_Z} {nL : Nat} {Ls : Array Slot} {ls : List Value} (h : ax_loc z nL Ls ls) : lv_has Ls nL (ax_lv z ls) := by
  refine ⟨h.2.1.1, h.2.1.2.1, fun q hq => ?_⟩
  obtain ⟨i, -, hi⟩ := List.mem_filterMap.mp hq
  cases hl : ls[i]? with
  | none => rw [hl] at hi; cases hi
  | some v =>
    rw [hl] at hi
    by_cases hv : v = .float 0
    · simp [hv] at hi
    · simp [hv] at hi
      rw [← hi]
      exact h.2.2 i v hl hv
theorem ax_loc_ld {z : ax_Z} {nL : Nat} {Ls : Array Slot} {ls : List Value} (h : ax_loc z nL Ls ls) {i : Nat} {v : Value} (hi : ax_nth ls i = some v) (hv : v ≠ .float 0) : Ls[i]? = some (.val (ax_rv z v)) := h.2.2 i v (by rw [← ax_nth_eq]; exact hi) hv
theorem ax_ok1_at {ls : List Value} {i : Nat} (h : ax_ok1 ls i = true) {j : Nat} {w : Value} (hj : ls[j]? = some w) : ¬ (j + 1 = i ∧ w.category = 2) := by
  intro q
  obtain ⟨rfl, hc⟩ := q
  simp only [ax_ok1, ax_nth_eq, hj] at h
  simp [hc] at h
theorem ax_loc_st1 {z : ax_Z} {nL i : Nat} {Ls' : Array Slot} {ls : List Value} {v : Value} (hn : ls.length = nL) (hk : ax_ok1 ls i = true) (h' : lv_has Ls' nL ((i, ax_rv z v) :: (ax_lv z ls).filter (fun q => !(q.1 == i) && !(q.1 + 1 == i && q.2.category == 2)))) : ax_loc z nL Ls' (ls.set i v) := by
  refine ⟨by rw [List.length_set]; exact hn, ⟨h'.1, h'.2.1, fun q hq => by cases hq⟩, fun j w hj hw => ?_⟩
  by_cases e : j = i
  · subst e
    have hl : j < ls.length := by
      have := (List.getElem?_eq_some_iff.mp hj).1
      rw [List.length_set] at this
      exact this
    rw [List.getElem?_set_self hl] at hj
    cases hj
    exact h'.2.2 (j, ax_rv z v) List.mem_cons_self
  · rw [List.getElem?_set_ne (Ne.symm e)] at hj
    have h2 := ax_ok1_at hk hj
    refine h'.2.2 (j, ax_rv z w) (List.mem_cons_of_mem _ (List.mem_filter.mpr ⟨ax_lv_mem hj hw, ?_⟩))
    have hb : ¬ (j + 1 = i ∧ (ax_rv z w).category = 2) := by rw [ax_rv_cat]; exact h2
    simp [e]
    by_cases h3 : j + 1 = i
    · exact Or.inr (fun h4 => hb ⟨h3, h4⟩)
    · exact Or.inl h3
theorem ax_loc_st2 {z : ax_Z} {nL i : Nat} {Ls' : Array Slot} {ls : List Value} {v : Value} (hn : ls.length = nL) (hk : ax_ok1 ls i = true) (h' : lv_has Ls' nL ((i, ax_rv z v) :: (ax_lv z ls).filter (fun q => !(q.1 == i) && (!(q.1 == i + 1) && !(q.1 + 1 == i && q.2.category == 2))))) : ax_loc z nL Ls' ((ls.set i v).set (i + 1) (.float 0)) := by
  refine ⟨by rw [List.length_set, List.length_set]; exact hn, ⟨h'.1, h'.2.1, fun q hq => by cases hq⟩, fun j w hj hw => ?_⟩
  by_cases e1 : j = i + 1
  · subst e1
    have hl : i + 1 < (ls.set i v).length := by
      have := (List.getElem?_eq_some_iff.mp hj).1
      rw [List.length_set] at this
      exact this
    rw [List.getElem?_set_self hl] at hj
    exact absurd (Option.some.inj hj).symm hw
  · rw [List.getElem?_set_ne (Ne.symm e1)] at hj
    by_cases e : j = i
    · subst e
      have hl : j < ls.length := by
        have := (List.getElem?_eq_some_iff.mp hj).1
        rw [List.length_set] at this
        exact this
      rw [List.getElem?_set_self hl] at hj
      cases hj
      exact h'.2.2 (j, ax_rv z v) List.mem_cons_self
    · rw [List.getElem?_set_ne (Ne.symm e)] at hj
      have h2 := ax_ok1_at hk hj
      refine h'.2.2 (j, ax_rv z w) (List.mem_cons_of_mem _ (List.mem_filter.mpr ⟨ax_lv_mem hj hw, ?_⟩))
      have hb : ¬ (j + 1 = i ∧ (ax_rv z w).category = 2) := by rw [ax_rv_cat]; exact h2
      simp [e, e1]
      by_cases h3 : j + 1 = i
      · exact Or.inr (fun h4 => hb ⟨h3, h4⟩)
      · exact Or.inl h3
end
section
/-! SIMULATION: an abstract step is the machine's -/
abbrev ax_M : Type := MethodName × ByteArray × Nat × Option FieldType
def ax_tx : String := "p10,4,0,0;p16,2,1,0;p30,6,2,3;p33,3,3,1;w1,14,12;l0,8,6;l2,16,9;r5;r3;r8;r2;o6;o9;f2,4;f3,3;f1,6;"
def ax_tb : List Int32 := [112, 49, 48, 44, 52, 44, 48, 44, 48, 59, 112, 49, 54, 44, 50, 44, 49, 44, 48, 59, 112, 51, 48, 44, 54, 44, 50, 44, 51, 59, 112, 51, 51, 44, 51, 44, 51, 44, 49, 59, 119, 49, 44, 49, 52, 44, 49, 50, 59, 108, 48, 44, 56, 44, 54, 59, 108, 50, 44, 49, 54, 44, 57, 59, 114, 53, 59, 114, 51, 59, 114, 56, 59, 114, 50, 59, 111, 54, 59, 111, 57, 59, 102, 50, 44, 52, 59, 102, 51, 44, 51, 59, 102, 49, 44, 54, 59]
/-- what is said of the text constant and of the library's statics; nothing of it lies from base on -/
def ax_Y (base str : Nat) (U : State) : Prop := ∃ adV : Nat, vk_R "ShadowTailor" 68 ax_tx str U ∧ vk_S 1 [97] [ax_tb] (fun _ => str) (fun _ => adV) (fun q => base ≤ q) U U.heap ∧ va_Z "java/lang/String" "COMPACT_STRINGS" "Z" (.int 1) (fun q => base ≤ q) U U.heap ∧ va_Zq "jdk/internal/util/Preconditions" "SIOOBE_FORMATTER" "Ljava/util/function/BiFunction;" (fun q => base ≤ q) U U.heap
def ax_X (E : ax_E) (base : Nat) (z : ax_Z) (U : State) : Prop := va_X z.2.1 E.1 E.2 U U.heap ∧ z.2.1 < base ∧ base ≤ U.heap.size ∧ ax_Y base z.2.2 U
theorem ax_X.moved {E : ax_E} {base : Nat} {z : ax_Z} {s U : State} (hW : s.WarmedH U.vm) (hz : base ≤ U.heap.size) (hq : ∀ a : Nat, a < base → U.heap[a]? = s.heap[a]?) (h : ax_X E base z s) : ax_X E base z U := by
  obtain ⟨h1, h2, h3, adV, g1, g2, g3, g4⟩ := h
  have hk : ∀ a : Nat, a < s.heap.size → ¬ (base ≤ a) → U.heap[a]? = s.heap[a]? := fun a _ h => hq a (Nat.lt_of_not_le h)
  exact ⟨(h1.moved hW.alike).kept (hq _ h2), h2, hz, adV, g1.warm hW, (g2.moved hW.alike).kept hk, (g3.moved hW.alike).kept hk, (g4.moved hW.alike).kept hk⟩
theorem ax_kept_warm {w : Cond} (hk : ax_kept w = true) {s U : State} {A A' : Array Value} (hW : s.WarmedH U.vm) (h : w.before A s = true) : w.before A' U = true := by
  cases w with
  | fieldLinkNest a i b n d x => exact va_Nw.use rfl (va_Nw.warmF hW (va_Nw.of rfl h))
  | methodLinkNest a i b n => exact va_Nw.use rfl (va_Nw.warmM hW (va_Nw.of rfl h))
  | arrayOver t => cases t with
    | object n => exact va_AO.use (va_AO.moved hW.alike (va_AO.of h))
    | _ => cases hk
  | _ => exact word_at hW (good_of_word hk) h
def ax_N (U : State) : Prop := ∀ w ∈ ax_tbl, w.before #[] U = true
theorem ax_N.warm {s U : State} {A : Array Value} (hW : s.WarmedH U.vm) (h : ∀ w ∈ ax_tbl, w.before A s = true) : ∀ w ∈ ax_tbl, ∀ A' : Array Value, w.before A' U = true := fun w hw _ => ax_kept_warm (List.mem_filter.mp hw).2 hW (h w hw)
theorem ax_N.use {U : State} (h : ax_N U) (A : Array Value) : ∀ w ∈ ax_tbl, w.before A U = true := fun w hw => ax_N.warm (State.WarmedH.refl U) h w hw A
def ax_Fr (ini : Bool) (own : String) (cc : ByteArray) (nL : Nat) (ret : Option FieldType) (p : Program) (R : Room) (s : State) (m : MethodId) (args : Array Value) (meth : Method) (c : Code) (G : ax_G) (base : Nat) (z : ax_Z) (E : ax_E) : Prop :=
  p.tables.exec = Jvm.exec ∧ c.code = cc ∧ c.maxLocals = nL ∧ s.vm.findClass own = some m.cls ∧ (∀ w ∈ ax_tbl, w.before args s = true) ∧ va_K G.1 vwCl (ax_tys G) s ∧ (1 ≤ R.frames ∧ 64 ≤ R.locals) ∧ (ini = true → meth.name = "<init>") ∧ meth.sig.returnType = ret ∧ ax_X E base z s
def ax_Wt (nL : Nat) (p : Program) (l : Launch) (e : Env) (R : Room) (s : State) (m : MethodId) (args : Array Value) (below : List Frame) (meth : Method) (c : Code) (G : ax_G) (base : Nat) (z : ax_Z) (Q : State → Prop) (h0 : ax_H) (S : ax_S) : Prop :=
  ∀ (H : Heap) (locs : List Loc) (Ls : Array Slot) (cells slots : Nat), ax_ok G base z.1 S.2.2.2 H → ax_loc z nL Ls S.2.1 → va_S (fun q => base ≤ q) s.heap H locs → cells + h0.1.length = S.2.2.2.1.length → slots + ax_slt h0 = ax_slt S.2.2.2 → W p l e R s m args below meth c H locs cells slots Q (F0 m S.1 Ls (S.2.2.1.map (ax_rv z)))
def ax_rc (rt : Option FieldType) (cc : ByteArray) (pc : Nat) : Option Value → Prop
  | some (.int v) => decode cc pc = .ok (.ireturn, 1) ∧ ∃ ty, rt = some ty ∧ narrow ty (.int v) = .int v
  | some (.long _) => decode cc pc = .ok (.lreturn, 1) ∧ rt = some .long
  | some (.ref _) => decode cc pc = .ok (.areturn, 1) ∧ ∃ ty, rt = some ty ∧ ((∃ n, ty = .object n) ∨ ∃ t, ty = .array t)
  | none => decode cc pc = .ok (.return_, 1) ∧ rt = none
  | _ => False
def ax_Ho (cc : ByteArray) (ret : Option FieldType) (p : Program) (l : Launch) (e : Env) (R : Room) (s : State) (m : MethodId) (args : Array Value) (below : List Frame) (meth : Method) (c : Code) (G : ax_G) (base : Nat) (z : ax_Z) (Q : State → Prop) (h0 : ax_H) (r : Option Value) (h : ax_H) : Prop :=
  ∀ (pc : Nat) (H : Heap) (locs : List Loc) (Ls : Array Slot) (cells slots : Nat), ax_ok G base z.1 h H → va_S (fun q => base ≤ q) s.heap H locs → cells + h0.1.length = h.1.length → slots + ax_slt h0 = ax_slt h → ax_rc ret cc pc r → W p l e R s m args below meth c H locs cells slots Q (F0 m pc Ls (r.toList.map (ax_rv z)))
def ax_Pc (G : ax_G) (base : Nat) (z : ax_Z) (E : ax_E) (as : List Value) (h : ax_H) : Array Value → State → Prop := fun v U => v = (as.map (ax_rv z)).toArray ∧ ax_ok G base z.1 h U.heap ∧ va_K G.1 vwCl (ax_tys G) U ∧ ax_X E base z U ∧ ax_N U
def ax_Qc (G : ax_G) (base : Nat) (z : ax_Z) (r : Option Value) (h : ax_H) : Array Value → State → Outcome → State → Prop := fun _ st o t => o = .returned (r.map (ax_rv z)) ∧ ax_ok G base z.1 h t.heap ∧ va_F (fun q => base ≤ q) st t
def ax_wsm (mt : ax_M) : List Cond := [Cond.code mt.1 mt.2.1 mt.2.2.1 mt.2.2.2]
def ax_CalOk (ME : Nat → Option ax_M) (l : Launch) (R : Room) (E : ax_E) (cal : ax_Cal) : Prop := ∀ (y : Nat) (mt : ax_M), ME y = some mt → ∀ (as : List Value) (h : ax_H) (r : Option Value) (h' : ax_H), cal y as h = some (r, h') →
  (h.1.length ≤ h'.1.length ∧ ax_slt h ≤ ax_slt h') ∧ ∀ (G : ax_G) (base : Nat) (z : ax_Z), ∃ rm : Room, rm.cells = h'.1.length - h.1.length ∧ rm.slots = ax_slt h' - ax_slt h ∧ (rm.frames + 1 ≤ R.frames ∧ 8 + (mt.2.2.1 + 11) + rm.locals ≤ R.locals) ∧
    Met l mt.1 (ax_wsm mt) rm (ax_Pc G base z E as h) (ax_Qc G base z r h') (h'.1.length - h.1.length) (ax_slt h' - ax_slt h) (fun q => base ≤ q)
def ax_Mono (cal : ax_Cal) : Prop := ∀ (y : Nat) (as : List Value) (h : ax_H) (r : Option Value) (h' : ax_H), cal y as h = some (r, h') → h.1.length ≤ h'.1.length ∧ ax_slt h ≤ ax_slt h'
def ax_mo (h : ax_H) (o : ax_S ⊕ ax_R) : Prop := match o with
  | .inl S' => h.1.length ≤ S'.2.2.2.1.length ∧ ax_slt h ≤ ax_slt S'.2.2.2
  | .inr q => q.2 = h
def ax_Sim (ME : Nat → Option ax_M) (ini : Bool) (own : String) (cc : ByteArray) (nL : Nat) (ret : Option FieldType) (pc : Nat) (act : ax_Act) : Prop :=
  ∀ (E : ax_E) (cal : ax_Cal) (ls st : List Value) (h : ax_H) (o : ax_S ⊕ ax_R), act E cal (pc, ls, st, h) = some o → (ax_Mono cal → ax_mo h o) ∧
  ∀ (p : Program) (l : Launch) (e : Env) (R : Room) (s : State) (m : MethodId) (args : Array Value) (below : List Frame) (meth : Method) (c : Code) (G : ax_G) (base : Nat) (z : ax_Z) (Q : State → Prop) (h0 : ax_H),
    ax_Fr ini own cc nL ret p R s m args meth c G base z E → ax_CalOk ME l R E cal → match o with
    | .inl S' => S'.2.2.2.1.length ≤ h0.1.length + R.cells → ax_slt S'.2.2.2 ≤ ax_slt h0 + R.slots → h0.1.length ≤ h.1.length → ax_slt h0 ≤ ax_slt h → ax_Wt nL p l e R s m args below meth c G base z Q h0 S' → ax_Wt nL p l e R s m args below meth c G base z Q h0 (pc, ls, st, h)
    | .inr q => ax_Ho cc ret p l e R s m args below meth c G base z Q h0 q.1 h → ax_Wt nL p l e R s m args below meth c G base z Q h0 (pc, ls, st, h)
section SM
variable {ME : Nat → Option ax_M} {ini : Bool} {own : String} {cc : ByteArray} {nL : Nat} {ret : Option FieldType} {pc : Nat}
/-- a step that changes the stack alone -/
theorem sm_pure {act : ax_Act} (hA : ∀ (E : ax_E) (cal : ax_Cal) (ls st : List Value) (h : ax_H) (o : ax_S ⊕ ax_R), act E cal (pc, ls, st, h) = some o → ∃ (n : Nat) (st' : List Value), o = .inl (n, ls, st', h) ∧
    ∀ (p : Program) (l : Launch) (e : Env) (R : Room) (s : State) (m : MethodId) (args : Array Value) (below : List Frame) (meth : Method) (c : Code) (G : ax_G) (base : Nat) (z : ax_Z) (Q : State → Prop), ax_Fr ini own cc nL ret p R s m args meth c G base z E → ∀ (H : Heap) (locs : List Loc) (Ls : Array Slot) (cells slots : Nat), ax_ok G base z.1 h H → ax_loc z nL Ls ls → va_S (fun q => base ≤ q) s.heap H locs →
      W p l e R s m args below meth c H locs cells slots Q (F0 m n Ls (st'.map (ax_rv z))) → W p l e R s m args below meth c H locs cells slots Q (F0 m pc Ls (st.map (ax_rv z)))) : ax_Sim ME ini own cc nL ret pc act := by
  intro E cal ls st h o ho
  obtain ⟨n, st', rfl, k⟩ := hA E cal ls st h o ho
  exact ⟨fun _ => ⟨Nat.le_refl _, Nat.le_refl _⟩, fun p l e R s m args below meth c G base z Q h0 F hC _ _ _ _ w H locs Ls cells slots hk hl hS hc hs => k p l e R s m args below meth c G base z Q F H locs Ls cells slots hk hl hS (w H locs Ls cells slots hk hl hS hc hs)⟩

theorem sm_iconst {k : Int} {v : Int32} {n : Nat} (hd : decode cc pc = .ok (.iconst k, 1)) (hv : Int32.ofInt k = v) (hn : n = pc + 1) : ax_Sim ME ini own cc nL ret pc (a_iconst v n) := by
  subst hn
  refine sm_pure (fun E cal ls st h o ho => ?_)
  cases ho
  exact ⟨_, _, rfl, fun p l e R s m args below meth c G base z Q F H locs Ls cells slots hk hl hS w => lv_iconst F.1 F.2.1 hd hv w⟩
theorem sm_bipush {k : Int} {v : Int32} {n : Nat} (hd : decode cc pc = .ok (.bipush k, 2)) (hv : (Int8.ofInt k).toInt32 = v) (hn : n = pc + 2) : ax_Sim ME ini own cc nL ret pc (a_iconst v n) := by
  subst hn
  refine sm_pure (fun E cal ls st h o ho => ?_)
  cases ho
  exact ⟨_, _, rfl, fun p l e R s m args below meth c G base z Q F H locs Ls cells slots hk hl hS w => lv_bipush F.1 F.2.1 hd hv w⟩
theorem sm_sipush {k : Int} {v : Int32} {n : Nat} (hd : decode cc pc = .ok (.sipush k, 3)) (hv : (Int16.ofInt k).toInt32 = v) (hn : n = pc + 3) : ax_Sim ME ini own cc nL ret pc (a_iconst v n) := by
  subst hn
  refine sm_pure (fun E cal ls st h o ho => ?_)
  cases ho
  exact ⟨_, _, rfl, fun p l e R s m args below meth c G base z Q F H locs Ls cells slots hk hl hS w => lv_sipush F.1 F.2.1 hd hv w⟩
theorem sm_lconst {k : Fin 2} {v : Int64} {n : Nat} (hd : decode cc pc = .ok (.lconst k, 1)) (hv : Int64.ofNat (k : Nat) = v) (hn : n = pc + 1) : ax_Sim ME ini own cc nL ret pc (a_lconst v n) := by
  subst hn
  refine sm_pure (fun E cal ls st h o ho => ?_)
  cases ho
  exact ⟨_, _, rfl, fun p l e R s m args below meth c G base z Q F H locs Ls cells slots hk hl hS w => lv_lconst F.1 F.2.1 hd hv w⟩
theorem sm_ldc2 {k : Nat} {v : Int64} {n : Nat} (hd : decode cc pc = .ok (.ldc2_w k, 3)) (hw : Cond.constantLong own k v ∈ ax_tbl) (hn : n = pc + 3) : ax_Sim ME ini own cc nL ret pc (a_lconst v n) := by
  subst hn
  refine sm_pure (fun E cal ls st h o ho => ?_)
  cases ho
  exact ⟨_, _, rfl, fun p l e R s m args below meth c G base z Q F H locs Ls cells slots hk hl hS w => lv_ldc2 F.1 F.2.1 F.2.2.2.1 (F.2.2.2.2.1 _ hw) hd w⟩
theorem sm_ldcw {k : Nat} {v : Int32} {n : Nat} (hd : decode cc pc = .ok (.ldc_w k, 3)) (hw : Cond.constant own k v ∈ ax_tbl) (hn : n = pc + 3) : ax_Sim ME ini own cc nL ret pc (a_iconst v n) := by
  subst hn
  refine sm_pure (fun E cal ls st h o ho => ?_)
  cases ho
  exact ⟨_, _, rfl, fun p l e R s m args below meth c G base z Q F H locs Ls cells slots hk hl hS w => lv_ldcw F.1 F.2.1 F.2.2.2.1 (F.2.2.2.2.1 _ hw) hd w⟩
theorem sm_ldcs {n : Nat} (hd : decode cc pc = .ok (.ldc 68, 2)) (ho : own = "ShadowTailor") (hn : n = pc + 2) : ax_Sim ME ini own cc nL ret pc (a_ldcs n) := by
  subst hn
  subst ho
  refine sm_pure (fun E cal ls st h o ho => ?_)
  cases ho
  exact ⟨_, _, rfl, fun p l e R s m args below meth c G base z Q F H locs Ls cells slots hk hl hS w => by
    obtain ⟨adV, g1, -⟩ := F.2.2.2.2.2.2.2.2.2.2.2.2
    exact va_ldcS F.1 F.2.1 F.2.2.2.1 g1 hd w⟩
theorem sm_iload {i n : Nat} (hd : decode cc pc = .ok (.iload i, 2)) (hn : n = pc + 2) : ax_Sim ME ini own cc nL ret pc (a_iload i n) := by
  subst hn
  refine sm_pure (fun E cal ls st h o ho => ?_)
  simp only [a_iload] at ho
  split at ho
  · rename_i x hx
    cases ho
    exact ⟨_, _, rfl, fun p l e R s m args below meth c G base z Q F H locs Ls cells slots hk hl hS w => lv_iload F.1 F.2.1 hd (ax_loc_ld hl hx (by simp)) w⟩
  · cases ho
theorem sm_iload_n {i n : Nat} {k : Fin 4} (hd : decode cc pc = .ok (.iload_n k, 1)) (hi : (k : Nat) = i) (hn : n = pc + 1) : ax_Sim ME ini own cc nL ret pc (a_iload i n) := by
  subst hn
  refine sm_pure (fun E cal ls st h o ho => ?_)
  simp only [a_iload] at ho
  split at ho
  · rename_i x hx
    cases ho
    exact ⟨_, _, rfl, fun p l e R s m args below meth c G base z Q F H locs Ls cells slots hk hl hS w => lv_iload_n F.1 F.2.1 hd hi (ax_loc_ld hl hx (by simp)) w⟩
  · cases ho
theorem sm_lload {i n : Nat} (hd : decode cc pc = .ok (.lload i, 2)) (hn : n = pc + 2) : ax_Sim ME ini own cc nL ret pc (a_lload i n) := by
  subst hn
  refine sm_pure (fun E cal ls st h o ho => ?_)
  simp only [a_lload] at ho
  split at ho
  · rename_i x hx
    cases ho
    exact ⟨_, _, rfl, fun p l e R s m args below meth c G base z Q F H locs Ls cells slots hk hl hS w => lv_lload F.1 F.2.1 hd (ax_loc_ld hl hx (by simp)) w⟩
  · cases ho
theorem sm_lload_n {i n : Nat} {k : Fin 4} (hd : decode cc pc = .ok (.lload_n k, 1)) (hi : (k : Nat) = i) (hn : n = pc + 1) : ax_Sim ME ini own cc nL ret pc (a_lload i n) := by
  subst hn
  refine sm_pure (fun E cal ls st h o ho => ?_)
  simp only [a_lload] at ho
  split at ho
  · rename_i x hx
    cases ho
    exact ⟨_, _, rfl, fun p l e R s m args below meth c G base z Q F H locs Ls cells slots hk hl hS w => lv_lload_n F.1 F.2.1 hd hi (ax_loc_ld hl hx (by simp)) w⟩
  · cases ho
theorem sm_aload {i n : Nat} (hd : decode cc pc = .ok (.aload i, 2)) (hn : n = pc + 2) : ax_Sim ME ini own cc nL ret pc (a_aload i n) := by
  subst hn
  refine sm_pure (fun E cal ls st h o ho => ?_)
  simp only [a_aload] at ho
  split at ho
  · rename_i x hx
    cases ho
    exact ⟨_, _, rfl, fun p l e R s m args below meth c G base z Q F H locs Ls cells slots hk hl hS w => lv_aload F.1 F.2.1 hd (ax_loc_ld hl hx (by simp)) w⟩
  · rename_i x hx
    cases ho
    exact ⟨_, _, rfl, fun p l e R s m args below meth c G base z Q F H locs Ls cells slots hk hl hS w => lv_aload F.1 F.2.1 hd (ax_loc_ld hl hx (by simp)) w⟩
  · cases ho
theorem sm_aload_n {i n : Nat} {k : Fin 4} (hd : decode cc pc = .ok (.aload_n k, 1)) (hi : (k : Nat) = i) (hn : n = pc + 1) : ax_Sim ME ini own cc nL ret pc (a_aload i n) := by
  subst hn
  refine sm_pure (fun E cal ls st h o ho => ?_)
  simp only [a_aload] at ho
  split at ho
  · rename_i x hx
    cases ho
    exact ⟨_, _, rfl, fun p l e R s m args below meth c G base z Q F H locs Ls cells slots hk hl hS w => lv_aload_n F.1 F.2.1 hd hi (ax_loc_ld hl hx (by simp)) w⟩
  · rename_i x hx
    cases ho
    exact ⟨_, _, rfl, fun p l e R s m args below meth c G base z Q F H locs Ls cells slots hk hl hS w => lv_aload_n F.1 F.2.1 hd hi (ax_loc_ld hl hx (by simp)) w⟩
  · cases ho
theorem sm_istore {i n : Nat} (hd : decode cc pc = .ok (.istore i, 2)) (hL : i < nL) (hn : n = pc + 2) : ax_Sim ME ini own cc nL ret pc (a_istore i n) := by
  subst hn
  intro E cal ls st h o ho
  simp only [a_istore] at ho
  split at ho
  · rename_i x st1 h1 he
    cases he
    split at ho
    · rename_i hk1
      cases ho
      exact ⟨fun _ => ⟨Nat.le_refl _, Nat.le_refl _⟩, fun p l e R s m args below meth c G base z Q h0 F hC _ _ _ _ w H locs Ls cells slots hk hl hS hc hs => lv_istore F.1 F.2.1 hd (ax_lv_has hl) hL rfl (fun Ls' hl' => w H locs Ls' cells slots hk (ax_loc_st1 hl.1 hk1 hl') hS hc hs)⟩
    · cases ho
  · cases ho
theorem sm_istore_n {i n : Nat} {k : Fin 4} (hd : decode cc pc = .ok (.istore_n k, 1)) (hi : (k : Nat) = i) (hL : i < nL) (hn : n = pc + 1) : ax_Sim ME ini own cc nL ret pc (a_istore i n) := by
  subst hn
  intro E cal ls st h o ho
  simp only [a_istore] at ho
  split at ho
  · rename_i x st1 h1 he
    cases he
    split at ho
    · rename_i hk1
      cases ho
      exact ⟨fun _ => ⟨Nat.le_refl _, Nat.le_refl _⟩, fun p l e R s m args below meth c G base z Q h0 F hC _ _ _ _ w H locs Ls cells slots hk hl hS hc hs => lv_istore_n F.1 F.2.1 hd hi (ax_lv_has hl) hL rfl (fun Ls' hl' => w H locs Ls' cells slots hk (ax_loc_st1 hl.1 hk1 hl') hS hc hs)⟩
    · cases ho
  · cases ho
theorem sm_astore {i n : Nat} (hd : decode cc pc = .ok (.astore i, 2)) (hL : i < nL) (hn : n = pc + 2) : ax_Sim ME ini own cc nL ret pc (a_astore i n) := by
  subst hn
  intro E cal ls st h o ho
  simp only [a_astore] at ho
  split at ho
  · rename_i x st1 h1 he
    cases he
    split at ho
    · rename_i hk1
      cases ho
      exact ⟨fun _ => ⟨Nat.le_refl _, Nat.le_refl _⟩, fun p l e R s m args below meth c G base z Q h0 F hC _ _ _ _ w H locs Ls cells slots hk hl hS hc hs => lv_astore F.1 F.2.1 hd (ax_lv_has hl) hL rfl (fun Ls' hl' => w H locs Ls' cells slots hk (ax_loc_st1 hl.1 hk1 hl') hS hc hs)⟩
    · cases ho
  · cases ho
theorem sm_astore_n {i n : Nat} {k : Fin 4} (hd : decode cc pc = .ok (.astore_n k, 1)) (hi : (k : Nat) = i) (hL : i < nL) (hn : n = pc + 1) : ax_Sim ME ini own cc nL ret pc (a_astore i n) := by
  subst hn
  intro E cal ls st h o ho
  simp only [a_astore] at ho
  split at ho
  · rename_i x st1 h1 he
    cases he
    split at ho
    · rename_i hk1
      cases ho
      exact ⟨fun _ => ⟨Nat.le_refl _, Nat.le_refl _⟩, fun p l e R s m args below meth c G base z Q h0 F hC _ _ _ _ w H locs Ls cells slots hk hl hS hc hs => lv_astore_n F.1 F.2.1 hd hi (ax_lv_has hl) hL rfl (fun Ls' hl' => w H locs Ls' cells slots hk (ax_loc_st1 hl.1 hk1 hl') hS hc hs)⟩
    · cases ho
  · cases ho
theorem sm_lstore {i n : Nat} (hd : decode cc pc = .ok (.lstore i, 2)) (hL : i + 1 < nL) (hn : n = pc + 2) : ax_Sim ME ini own cc nL ret pc (a_lstore i n) := by
  subst hn
  intro E cal ls st h o ho
  simp only [a_lstore] at ho
  split at ho
  · rename_i x st1 h1 he
    cases he
    split at ho
    · rename_i hk1
      cases ho
      exact ⟨fun _ => ⟨Nat.le_refl _, Nat.le_refl _⟩, fun p l e R s m args below meth c G base z Q h0 F hC _ _ _ _ w H locs Ls cells slots hk hl hS hc hs => lv_lstore F.1 F.2.1 hd (ax_lv_has hl) hL rfl (fun Ls' hl' => w H locs Ls' cells slots hk (ax_loc_st2 hl.1 hk1 hl') hS hc hs)⟩
    · cases ho
  · cases ho
theorem sm_lstore_n {i n : Nat} {k : Fin 4} (hd : decode cc pc = .ok (.lstore_n k, 1)) (hi : (k : Nat) = i) (hL : i + 1 < nL) (hn : n = pc + 1) : ax_Sim ME ini own cc nL ret pc (a_lstore i n) := by
  subst hn
  intro E cal ls st h o ho
  simp only [a_lstore] at ho
  split at ho
  · rename_i x st1 h1 he
    cases he
    split at ho
    · rename_i hk1
      cases ho
      exact ⟨fun _ => ⟨Nat.le_refl _, Nat.le_refl _⟩, fun p l e R s m args below meth c G base z Q h0 F hC _ _ _ _ w H locs Ls cells slots hk hl hS hc hs => lv_lstore_n F.1 F.2.1 hd hi (ax_lv_has hl) hL rfl (fun Ls' hl' => w H locs Ls' cells slots hk (ax_loc_st2 hl.1 hk1 hl') hS hc hs)⟩
    · cases ho
  · cases ho
theorem sm_iinc {i n : Nat} {k : Int} {v : Int32} (hd : decode cc pc = .ok (.iinc i k, 3)) (hv : Int32.ofInt k = v) (hL : i < nL) (hn : n = pc + 3) : ax_Sim ME ini own cc nL ret pc (a_iinc i v n) := by
  subst hn
  subst hv
  intro E cal ls st h o ho
  simp only [a_iinc] at ho
  split at ho
  · rename_i x hx
    split at ho
    rename_i hk1
    cases ho
    refine ⟨fun _ => ⟨Nat.le_refl _, Nat.le_refl _⟩, fun p l e R s m args below meth c G base z Q h0 F hC _ _ _ _ w H locs Ls cells slots hk hl hS hc hs => ?_⟩
    rw [ax_nth_eq] at hx
    obtain ⟨k9, h9⟩ := List.getElem?_of_mem (ax_lv_mem (z := z) hx (by simp))
    exact lv_iinc F.1 F.2.1 hd (ax_lv_has hl) h9 rfl hL rfl (fun Ls' hl' => w H locs Ls' cells slots hk (ax_loc_st1 (v := .int (x + Int32.ofInt k)) hl.1 hk1 hl') hS hc hs)
    cases ho
  · cases ho
theorem sm_dup {n : Nat} (hd : decode cc pc = .ok (.dup, 1)) (hn : n = pc + 1) : ax_Sim ME ini own cc nL ret pc (a_dup n) := by
  subst hn
  refine sm_pure (fun E cal ls st h o ho => ?_)
  simp only [a_dup] at ho
  split at ho
  · rename_i v st1 h1 he
    cases he
    split at ho
    · rename_i hc
      cases ho
      exact ⟨_, _, rfl, fun p l e R s m args below meth c G base z Q F H locs Ls cells slots hk hl hS w => lv_dup F.1 F.2.1 hd (by rw [ax_rv_cat]; exact hc) w⟩
    · cases ho
  · cases ho
theorem sm_pop {n : Nat} (hd : decode cc pc = .ok (.pop, 1)) (hn : n = pc + 1) : ax_Sim ME ini own cc nL ret pc (a_pop n) := by
  subst hn
  refine sm_pure (fun E cal ls st h o ho => ?_)
  simp only [a_pop] at ho
  split at ho
  · rename_i v st1 h1 he
    cases he
    split at ho
    · rename_i hc
      cases ho
      exact ⟨_, _, rfl, fun p l e R s m args below meth c G base z Q F H locs Ls cells slots hk hl hS w => lv_pop F.1 F.2.1 hd (by rw [ax_rv_cat]; exact hc) w⟩
    · cases ho
  · cases ho
theorem sm_dup2 {n : Nat} (hd : decode cc pc = .ok (.dup2, 1)) (hn : n = pc + 1) : ax_Sim ME ini own cc nL ret pc (a_dup2 n) := by
  subst hn
  refine sm_pure (fun E cal ls st h o ho => ?_)
  simp only [a_dup2] at ho
  split at ho
  · rename_i v w9 st1 h1 he
    cases he
    split at ho
    · rename_i hc
      cases ho
      exact ⟨_, _, rfl, fun p l e R s m args below meth c G base z Q F H locs Ls cells slots hk hl hS w => lv_dup2_11 F.1 F.2.1 hd (by rw [ax_rv_cat]; exact hc.1) (by rw [ax_rv_cat]; exact hc.2) w⟩
    · cases ho
  · cases ho
theorem sm_iadd {n : Nat} (hd : decode cc pc = .ok (.iadd, 1)) (hn : n = pc + 1) : ax_Sim ME ini own cc nL ret pc (a_iadd n) := by
  subst hn
  refine sm_pure (fun E cal ls st h o ho => ?_)
  simp only [a_iadd] at ho
  split at ho
  · rename_i y x st1 h1 he
    cases he
    cases ho
    exact ⟨_, _, rfl, fun p l e R s m args below meth c G base z Q F H locs Ls cells slots hk hl hS w => lv_iadd F.1 F.2.1 hd w⟩
  · cases ho
theorem sm_isub {n : Nat} (hd : decode cc pc = .ok (.isub, 1)) (hn : n = pc + 1) : ax_Sim ME ini own cc nL ret pc (a_isub n) := by
  subst hn
  refine sm_pure (fun E cal ls st h o ho => ?_)
  simp only [a_isub] at ho
  split at ho
  · rename_i y x st1 h1 he
    cases he
    cases ho
    exact ⟨_, _, rfl, fun p l e R s m args below meth c G base z Q F H locs Ls cells slots hk hl hS w => lv_isub F.1 F.2.1 hd w⟩
  · cases ho
theorem sm_imul {n : Nat} (hd : decode cc pc = .ok (.imul, 1)) (hn : n = pc + 1) : ax_Sim ME ini own cc nL ret pc (a_imul n) := by
  subst hn
  refine sm_pure (fun E cal ls st h o ho => ?_)
  simp only [a_imul] at ho
  split at ho
  · rename_i y x st1 h1 he
    cases he
    cases ho
    exact ⟨_, _, rfl, fun p l e R s m args below meth c G base z Q F H locs Ls cells slots hk hl hS w => lv_imul F.1 F.2.1 hd w⟩
  · cases ho
theorem sm_iand {n : Nat} (hd : decode cc pc = .ok (.iand, 1)) (hn : n = pc + 1) : ax_Sim ME ini own cc nL ret pc (a_iand n) := by
  subst hn
  refine sm_pure (fun E cal ls st h o ho => ?_)
  simp only [a_iand] at ho
  split at ho
  · rename_i y x st1 h1 he
    cases he
    cases ho
    exact ⟨_, _, rfl, fun p l e R s m args below meth c G base z Q F H locs Ls cells slots hk hl hS w => lv_iand F.1 F.2.1 hd w⟩
  · cases ho
theorem sm_ior {n : Nat} (hd : decode cc pc = .ok (.ior, 1)) (hn : n = pc + 1) : ax_Sim ME ini own cc nL ret pc (a_ior n) := by
  subst hn
  refine sm_pure (fun E cal ls st h o ho => ?_)
  simp only [a_ior] at ho
  split at ho
  · rename_i y x st1 h1 he
    cases he
    cases ho
    exact ⟨_, _, rfl, fun p l e R s m args below meth c G base z Q F H locs Ls cells slots hk hl hS w => lv_ior F.1 F.2.1 hd w⟩
  · cases ho
theorem sm_ixor {n : Nat} (hd : decode cc pc = .ok (.ixor, 1)) (hn : n = pc + 1) : ax_Sim ME ini own cc nL ret pc (a_ixor n) := by
  subst hn
  refine sm_pure (fun E cal ls st h o ho => ?_)
  simp only [a_ixor] at ho
  split at ho
  · rename_i y x st1 h1 he
    cases he
    cases ho
    exact ⟨_, _, rfl, fun p l e R s m args below meth c G base z Q F H locs Ls cells slots hk hl hS w => lv_ixor F.1 F.2.1 hd w⟩
  · cases ho
theorem sm_ishl {n : Nat} (hd : decode cc pc = .ok (.ishl, 1)) (hn : n = pc + 1) : ax_Sim ME ini own cc nL ret pc (a_ishl n) := by
  subst hn
  refine sm_pure (fun E cal ls st h o ho => ?_)
  simp only [a_ishl] at ho
  split at ho
  · rename_i y x st1 h1 he
    cases he
    cases ho
    exact ⟨_, _, rfl, fun p l e R s m args below meth c G base z Q F H locs Ls cells slots hk hl hS w => lv_ishl F.1 F.2.1 hd w⟩
  · cases ho
theorem sm_ishr {n : Nat} (hd : decode cc pc = .ok (.ishr, 1)) (hn : n = pc + 1) : ax_Sim ME ini own cc nL ret pc (a_ishr n) := by
  subst hn
  refine sm_pure (fun E cal ls st h o ho => ?_)
  simp only [a_ishr] at ho
  split at ho
  · rename_i y x st1 h1 he
    cases he
    cases ho
    exact ⟨_, _, rfl, fun p l e R s m args below meth c G base z Q F H locs Ls cells slots hk hl hS w => lv_ishr F.1 F.2.1 hd w⟩
  · cases ho
theorem sm_ladd {n : Nat} (hd : decode cc pc = .ok (.ladd, 1)) (hn : n = pc + 1) : ax_Sim ME ini own cc nL ret pc (a_ladd n) := by
  subst hn
  refine sm_pure (fun E cal ls st h o ho => ?_)
  simp only [a_ladd] at ho
  split at ho
  · rename_i y x st1 h1 he
    cases he
    cases ho
    exact ⟨_, _, rfl, fun p l e R s m args below meth c G base z Q F H locs Ls cells slots hk hl hS w => lv_ladd F.1 F.2.1 hd w⟩
  · cases ho
theorem sm_lmul {n : Nat} (hd : decode cc pc = .ok (.lmul, 1)) (hn : n = pc + 1) : ax_Sim ME ini own cc nL ret pc (a_lmul n) := by
  subst hn
  refine sm_pure (fun E cal ls st h o ho => ?_)
  simp only [a_lmul] at ho
  split at ho
  · rename_i y x st1 h1 he
    cases he
    cases ho
    exact ⟨_, _, rfl, fun p l e R s m args below meth c G base z Q F H locs Ls cells slots hk hl hS w => lv_lmul F.1 F.2.1 hd w⟩
  · cases ho
theorem sm_lcmp {n : Nat} (hd : decode cc pc = .ok (.lcmp, 1)) (hn : n = pc + 1) : ax_Sim ME ini own cc nL ret pc (a_lcmp n) := by
  subst hn
  refine sm_pure (fun E cal ls st h o ho => ?_)
  simp only [a_lcmp] at ho
  split at ho
  · rename_i y x st1 h1 he
    cases he
    cases ho
    exact ⟨_, _, rfl, fun p l e R s m args below meth c G base z Q F H locs Ls cells slots hk hl hS w => W.lcmp F.1 F.2.1 hd w⟩
  · cases ho
theorem sm_iushr {n : Nat} (hd : decode cc pc = .ok (.iushr, 1)) (hn : n = pc + 1) : ax_Sim ME ini own cc nL ret pc (a_iushr n) := by
  subst hn
  refine sm_pure (fun E cal ls st h o ho => ?_)
  simp only [a_iushr] at ho
  split at ho
  · rename_i y x st1 h1 he
    cases he
    cases ho
    exact ⟨_, _, rfl, fun p l e R s m args below meth c G base z Q F H locs Ls cells slots hk hl hS w => lv_iushr F.1 F.2.1 hd rfl w⟩
  · cases ho
theorem sm_idiv {n : Nat} (hd : decode cc pc = .ok (.idiv, 1)) (hn : n = pc + 1) : ax_Sim ME ini own cc nL ret pc (a_idiv n) := by
  subst hn
  refine sm_pure (fun E cal ls st h o ho => ?_)
  simp only [a_idiv] at ho
  split at ho
  · rename_i y x st1 h1 he
    cases he
    split at ho
    · cases ho
    · rename_i hne
      cases ho
      exact ⟨_, _, rfl, fun p l e R s m args below meth c G base z Q F H locs Ls cells slots hk hl hS w => lv_idiv F.1 F.2.1 hd hne w⟩
  · cases ho
theorem sm_irem {n : Nat} (hd : decode cc pc = .ok (.irem, 1)) (hn : n = pc + 1) : ax_Sim ME ini own cc nL ret pc (a_irem n) := by
  subst hn
  refine sm_pure (fun E cal ls st h o ho => ?_)
  simp only [a_irem] at ho
  split at ho
  · rename_i y x st1 h1 he
    cases he
    split at ho
    · cases ho
    · rename_i hne
      cases ho
      exact ⟨_, _, rfl, fun p l e R s m args below meth c G base z Q F H locs Ls cells slots hk hl hS w => lv_irem F.1 F.2.1 hd hne w⟩
  · cases ho
theorem sm_ldiv {n : Nat} (hd : decode cc pc = .ok (.ldiv, 1)) (hn : n = pc + 1) : ax_Sim ME ini own cc nL ret pc (a_ldiv n) := by
  subst hn
  refine sm_pure (fun E cal ls st h o ho => ?_)
  simp only [a_ldiv] at ho
  split at ho
  · rename_i y x st1 h1 he
    cases he
    split at ho
    · cases ho
    · rename_i hne
      cases ho
      exact ⟨_, _, rfl, fun p l e R s m args below meth c G base z Q F H locs Ls cells slots hk hl hS w => lv_ldiv F.1 F.2.1 hd hne w⟩
  · cases ho
theorem sm_lrem {n : Nat} (hd : decode cc pc = .ok (.lrem, 1)) (hn : n = pc + 1) : ax_Sim ME ini own cc nL ret pc (a_lrem n) := by
  subst hn
  refine sm_pure (fun E cal ls st h o ho => ?_)
  simp only [a_lrem] at ho
  split at ho
  · rename_i y x st1 h1 he
    cases he
    split at ho
    · cases ho
    · rename_i hne
      cases ho
      exact ⟨_, _, rfl, fun p l e R s m args below meth c G base z Q F H locs Ls cells slots hk hl hS w => lv_lrem F.1 F.2.1 hd hne w⟩
  · cases ho
theorem sm_ineg {n : Nat} (hd : decode cc pc = .ok (.ineg, 1)) (hn : n = pc + 1) : ax_Sim ME ini own cc nL ret pc (a_ineg n) := by
  subst hn
  refine sm_pure (fun E cal ls st h o ho => ?_)
  simp only [a_ineg] at ho
  split at ho
  · rename_i x st1 h1 he
    cases he
    cases ho
    exact ⟨_, _, rfl, fun p l e R s m args below meth c G base z Q F H locs Ls cells slots hk hl hS w => lv_ineg F.1 F.2.1 hd w⟩
  · cases ho
theorem sm_i2l {n : Nat} (hd : decode cc pc = .ok (.i2l, 1)) (hn : n = pc + 1) : ax_Sim ME ini own cc nL ret pc (a_i2l n) := by
  subst hn
  refine sm_pure (fun E cal ls st h o ho => ?_)
  simp only [a_i2l] at ho
  split at ho
  · rename_i x st1 h1 he
    cases he
    cases ho
    exact ⟨_, _, rfl, fun p l e R s m args below meth c G base z Q F H locs Ls cells slots hk hl hS w => lv_i2l F.1 F.2.1 hd rfl w⟩
  · cases ho
theorem sm_l2i {n : Nat} (hd : decode cc pc = .ok (.l2i, 1)) (hn : n = pc + 1) : ax_Sim ME ini own cc nL ret pc (a_l2i n) := by
  subst hn
  refine sm_pure (fun E cal ls st h o ho => ?_)
  simp only [a_l2i] at ho
  split at ho
  · rename_i x st1 h1 he
    cases he
    cases ho
    exact ⟨_, _, rfl, fun p l e R s m args below meth c G base z Q F H locs Ls cells slots hk hl hS w => lv_l2i F.1 F.2.1 hd rfl w⟩
  · cases ho
theorem sm_i2c {n : Nat} (hd : decode cc pc = .ok (.i2c, 1)) (hn : n = pc + 1) : ax_Sim ME ini own cc nL ret pc (a_i2c n) := by
  subst hn
  refine sm_pure (fun E cal ls st h o ho => ?_)
  simp only [a_i2c] at ho
  split at ho
  · rename_i x st1 h1 he
    cases he
    cases ho
    exact ⟨_, _, rfl, fun p l e R s m args below meth c G base z Q F H locs Ls cells slots hk hl hS w => lv_i2c F.1 F.2.1 hd rfl w⟩
  · cases ho
theorem sm_goto {t : Nat} {off : Int} (hd : decode cc pc = .ok (.goto off, 3)) (ht : (pc : Int) + off = (t : Int)) : ax_Sim ME ini own cc nL ret pc (a_goto t) := by
  refine sm_pure (fun E cal ls st h o ho => ?_)
  cases ho
  exact ⟨_, _, rfl, fun p l e R s m args below meth c G base z Q F H locs Ls cells slots hk hl hS w => lv_goto F.1 F.2.1 hd ht w⟩
theorem sm_ceq {t n : Nat} {off : Int} (hd : decode cc pc = .ok (.if_icmp .eq off, 3)) (ht : (pc : Int) + off = (t : Int)) (hn : n = pc + 3) : ax_Sim ME ini own cc nL ret pc (a_ceq t n) := by
  subst hn
  refine sm_pure (fun E cal ls st h o ho => ?_)
  simp only [a_ceq] at ho
  split at ho
  · rename_i y x st1 h1 he
    cases he
    split at ho
    · rename_i hc
      cases ho
      exact ⟨_, _, rfl, fun p l e R s m args below meth c G base z Q F H locs Ls cells slots hk hl hS w => lv_icmp_eq F.1 F.2.1 hd ht (fun _ => w) (fun q => absurd hc q)⟩
    · rename_i hc
      cases ho
      exact ⟨_, _, rfl, fun p l e R s m args below meth c G base z Q F H locs Ls cells slots hk hl hS w => lv_icmp_eq F.1 F.2.1 hd ht (fun q => absurd q hc) (fun _ => w)⟩
  · cases ho
theorem sm_zeq {t n : Nat} {off : Int} (hd : decode cc pc = .ok (.ifCond .eq off, 3)) (ht : (pc : Int) + off = (t : Int)) (hn : n = pc + 3) : ax_Sim ME ini own cc nL ret pc (a_zeq t n) := by
  subst hn
  refine sm_pure (fun E cal ls st h o ho => ?_)
  simp only [a_zeq] at ho
  split at ho
  · rename_i x st1 h1 he
    cases he
    split at ho
    · rename_i hc
      cases ho
      exact ⟨_, _, rfl, fun p l e R s m args below meth c G base z Q F H locs Ls cells slots hk hl hS w => lv_if_eq F.1 F.2.1 hd ht (fun _ => w) (fun q => absurd hc q)⟩
    · rename_i hc
      cases ho
      exact ⟨_, _, rfl, fun p l e R s m args below meth c G base z Q F H locs Ls cells slots hk hl hS w => lv_if_eq F.1 F.2.1 hd ht (fun q => absurd q hc) (fun _ => w)⟩
  · cases ho
theorem sm_cne {t n : Nat} {off : Int} (hd : decode cc pc = .ok (.if_icmp .ne off, 3)) (ht : (pc : Int) + off = (t : Int)) (hn : n = pc + 3) : ax_Sim ME ini own cc nL ret pc (a_cne t n) := by
  subst hn
  refine sm_pure (fun E cal ls st h o ho => ?_)
  simp only [a_cne] at ho
  split at ho
  · rename_i y x st1 h1 he
    cases he
    split at ho
    · rename_i hc
      cases ho
      exact ⟨_, _, rfl, fun p l e R s m args below meth c G base z Q F H locs Ls cells slots hk hl hS w => lv_icmp_ne F.1 F.2.1 hd ht (fun q => absurd hc q) (fun _ => w)⟩
    · rename_i hc
      cases ho
      exact ⟨_, _, rfl, fun p l e R s m args below meth c G base z Q F H locs Ls cells slots hk hl hS w => lv_icmp_ne F.1 F.2.1 hd ht (fun _ => w) (fun q => absurd q hc)⟩
  · cases ho
theorem sm_zne {t n : Nat} {off : Int} (hd : decode cc pc = .ok (.ifCond .ne off, 3)) (ht : (pc : Int) + off = (t : Int)) (hn : n = pc + 3) : ax_Sim ME ini own cc nL ret pc (a_zne t n) := by
  subst hn
  refine sm_pure (fun E cal ls st h o ho => ?_)
  simp only [a_zne] at ho
  split at ho
  · rename_i x st1 h1 he
    cases he
    split at ho
    · rename_i hc
      cases ho
      exact ⟨_, _, rfl, fun p l e R s m args below meth c G base z Q F H locs Ls cells slots hk hl hS w => lv_if_ne F.1 F.2.1 hd ht (fun q => absurd hc q) (fun _ => w)⟩
    · rename_i hc
      cases ho
      exact ⟨_, _, rfl, fun p l e R s m args below meth c G base z Q F H locs Ls cells slots hk hl hS w => lv_if_ne F.1 F.2.1 hd ht (fun _ => w) (fun q => absurd q hc)⟩
  · cases ho
theorem sm_clt {t n : Nat} {off : Int} (hd : decode cc pc = .ok (.if_icmp .lt off, 3)) (ht : (pc : Int) + off = (t : Int)) (hn : n = pc + 3) : ax_Sim ME ini own cc nL ret pc (a_clt t n) := by
  subst hn
  refine sm_pure (fun E cal ls st h o ho => ?_)
  simp only [a_clt] at ho
  split at ho
  · rename_i y x st1 h1 he
    cases he
    split at ho
    · rename_i hc
      cases ho
      exact ⟨_, _, rfl, fun p l e R s m args below meth c G base z Q F H locs Ls cells slots hk hl hS w => lv_icmp_lt F.1 F.2.1 hd ht (fun _ => w) (fun q => absurd hc q)⟩
    · rename_i hc
      cases ho
      exact ⟨_, _, rfl, fun p l e R s m args below meth c G base z Q F H locs Ls cells slots hk hl hS w => lv_icmp_lt F.1 F.2.1 hd ht (fun q => absurd q hc) (fun _ => w)⟩
  · cases ho
theorem sm_zlt {t n : Nat} {off : Int} (hd : decode cc pc = .ok (.ifCond .lt off, 3)) (ht : (pc : Int) + off = (t : Int)) (hn : n = pc + 3) : ax_Sim ME ini own cc nL ret pc (a_zlt t n) := by
  subst hn
  refine sm_pure (fun E cal ls st h o ho => ?_)
  simp only [a_zlt] at ho
  split at ho
  · rename_i x st1 h1 he
    cases he
    split at ho
    · rename_i hc
      cases ho
      exact ⟨_, _, rfl, fun p l e R s m args below meth c G base z Q F H locs Ls cells slots hk hl hS w => lv_if_lt F.1 F.2.1 hd ht (fun _ => w) (fun q => absurd hc q)⟩
    · rename_i hc
      cases ho
      exact ⟨_, _, rfl, fun p l e R s m args below meth c G base z Q F H locs Ls cells slots hk hl hS w => lv_if_lt F.1 F.2.1 hd ht (fun q => absurd q hc) (fun _ => w)⟩
  · cases ho
theorem sm_cge {t n : Nat} {off : Int} (hd : decode cc pc = .ok (.if_icmp .ge off, 3)) (ht : (pc : Int) + off = (t : Int)) (hn : n = pc + 3) : ax_Sim ME ini own cc nL ret pc (a_cge t n) := by
  subst hn
  refine sm_pure (fun E cal ls st h o ho => ?_)
  simp only [a_cge] at ho
  split at ho
  · rename_i y x st1 h1 he
    cases he
    split at ho
    · rename_i hc
      cases ho
      exact ⟨_, _, rfl, fun p l e R s m args below meth c G base z Q F H locs Ls cells slots hk hl hS w => lv_icmp_ge F.1 F.2.1 hd ht (fun _ => w) (fun q => absurd hc q)⟩
    · rename_i hc
      cases ho
      exact ⟨_, _, rfl, fun p l e R s m args below meth c G base z Q F H locs Ls cells slots hk hl hS w => lv_icmp_ge F.1 F.2.1 hd ht (fun q => absurd q hc) (fun _ => w)⟩
  · cases ho
theorem sm_zge {t n : Nat} {off : Int} (hd : decode cc pc = .ok (.ifCond .ge off, 3)) (ht : (pc : Int) + off = (t : Int)) (hn : n = pc + 3) : ax_Sim ME ini own cc nL ret pc (a_zge t n) := by
  subst hn
  refine sm_pure (fun E cal ls st h o ho => ?_)
  simp only [a_zge] at ho
  split at ho
  · rename_i x st1 h1 he
    cases he
    split at ho
    · rename_i hc
      cases ho
      exact ⟨_, _, rfl, fun p l e R s m args below meth c G base z Q F H locs Ls cells slots hk hl hS w => lv_if_ge F.1 F.2.1 hd ht (fun _ => w) (fun q => absurd hc q)⟩
    · rename_i hc
      cases ho
      exact ⟨_, _, rfl, fun p l e R s m args below meth c G base z Q F H locs Ls cells slots hk hl hS w => lv_if_ge F.1 F.2.1 hd ht (fun q => absurd q hc) (fun _ => w)⟩
  · cases ho
theorem sm_cgt {t n : Nat} {off : Int} (hd : decode cc pc = .ok (.if_icmp .gt off, 3)) (ht : (pc : Int) + off = (t : Int)) (hn : n = pc + 3) : ax_Sim ME ini own cc nL ret pc (a_cgt t n) := by
  subst hn
  refine sm_pure (fun E cal ls st h o ho => ?_)
  simp only [a_cgt] at ho
  split at ho
  · rename_i y x st1 h1 he
    cases he
    split at ho
    · rename_i hc
      cases ho
      exact ⟨_, _, rfl, fun p l e R s m args below meth c G base z Q F H locs Ls cells slots hk hl hS w => lv_icmp_gt F.1 F.2.1 hd ht (fun _ => w) (fun q => absurd hc q)⟩
    · rename_i hc
      cases ho
      exact ⟨_, _, rfl, fun p l e R s m args below meth c G base z Q F H locs Ls cells slots hk hl hS w => lv_icmp_gt F.1 F.2.1 hd ht (fun q => absurd q hc) (fun _ => w)⟩
  · cases ho
theorem sm_zgt {t n : Nat} {off : Int} (hd : decode cc pc = .ok (.ifCond .gt off, 3)) (ht : (pc : Int) + off = (t : Int)) (hn : n = pc + 3) : ax_Sim ME ini own cc nL ret pc (a_zgt t n) := by
  subst hn
  refine sm_pure (fun E cal ls st h o ho => ?_)
  simp only [a_zgt] at ho
  split at ho
  · rename_i x st1 h1 he
    cases he
    split at ho
    · rename_i hc
      cases ho
      exact ⟨_, _, rfl, fun p l e R s m args below meth c G base z Q F H locs Ls cells slots hk hl hS w => lv_if_gt F.1 F.2.1 hd ht (fun _ => w) (fun q => absurd hc q)⟩
    · rename_i hc
      cases ho
      exact ⟨_, _, rfl, fun p l e R s m args below meth c G base z Q F H locs Ls cells slots hk hl hS w => lv_if_gt F.1 F.2.1 hd ht (fun q => absurd q hc) (fun _ => w)⟩
  · cases ho
theorem sm_cle {t n : Nat} {off : Int} (hd : decode cc pc = .ok (.if_icmp .le off, 3)) (ht : (pc : Int) + off = (t : Int)) (hn : n = pc + 3) : ax_Sim ME ini own cc nL ret pc (a_cle t n) := by
  subst hn
  refine sm_pure (fun E cal ls st h o ho => ?_)
  simp only [a_cle] at ho
  split at ho
  · rename_i y x st1 h1 he
    cases he
    split at ho
    · rename_i hc
      cases ho
      exact ⟨_, _, rfl, fun p l e R s m args below meth c G base z Q F H locs Ls cells slots hk hl hS w => lv_icmp_le F.1 F.2.1 hd ht (fun _ => w) (fun q => absurd hc q)⟩
    · rename_i hc
      cases ho
      exact ⟨_, _, rfl, fun p l e R s m args below meth c G base z Q F H locs Ls cells slots hk hl hS w => lv_icmp_le F.1 F.2.1 hd ht (fun q => absurd q hc) (fun _ => w)⟩
  · cases ho
theorem sm_zle {t n : Nat} {off : Int} (hd : decode cc pc = .ok (.ifCond .le off, 3)) (ht : (pc : Int) + off = (t : Int)) (hn : n = pc + 3) : ax_Sim ME ini own cc nL ret pc (a_zle t n) := by
  subst hn
  refine sm_pure (fun E cal ls st h o ho => ?_)
  simp only [a_zle] at ho
  split at ho
  · rename_i x st1 h1 he
    cases he
    split at ho
    · rename_i hc
      cases ho
      exact ⟨_, _, rfl, fun p l e R s m args below meth c G base z Q F H locs Ls cells slots hk hl hS w => lv_if_le F.1 F.2.1 hd ht (fun _ => w) (fun q => absurd hc q)⟩
    · rename_i hc
      cases ho
      exact ⟨_, _, rfl, fun p l e R s m args below meth c G base z Q F H locs Ls cells slots hk hl hS w => lv_if_le F.1 F.2.1 hd ht (fun q => absurd q hc) (fun _ => w)⟩
  · cases ho
end SM
end
